theorem rowF_rm {g : Int → Int} {n u row k p : Int} {S : MC} (h2 : 2 ≤ n) (h6 : n ≤ 6) (hg : ∀ i, 0 ≤ i → i < u → RM n S (g i)) (h : rowF g n u row k = some p) : RM n S p := by
  unfold rowF at h
  split at h
  · exact mR_rm h2 h6 hg _ _ _ _ (RM.sam h2 h6) h
  · cases h
section
variable (d : Nat) (P : Int → MM → Prop) (P0 : MM → Prop) (G : MG) (c : MC) (n T : Int) (S : MC)
theorem f_inverts (M : MDs G c T) (hn : c T 1 = n) (p : Int) (ho : One c p n) (hp : PM p n) (hP : ∀ c', Agr c c' → One c' (inv6 p n) n → P0 (G, c')) : EvV (d + 1) mX12_inverts [mR 18 62] (G, c) P0 := by
  have hT := M.T; have b1 := M.b1
  have h2 : 2 ≤ n := by omega
  have h6 : n ≤ 6 := by omega
  have hi := inv_pm h2 h6 hp
  have loop2 : ∀ (j : Nat) (k : Int) (c' : MC), 0 ≤ k → k + j = n → Agr c c' → (∀ q, 0 ≤ q → q < n → c' 74 (dg p q) = q) → (∀ q, 0 ≤ q → q < k → c' 73 q = dg (inv6 p n) q) → At (d + 1) mX12_inverts 33 [mR 18 62, mI k] [] (G, c') (QV P0) := by
    intro j
    induction j with
    | zero =>
      intro k c' k0 hk A h4 h3
      have M' := M.agr A
      have e1 : c' T 1 = n := by rw [A T 1 (by unfold scr; omega)]; exact hn
      apply wp_X12_inverts_33
      simp only [M'.p3, e1]
      refine ⟨by omega, by omega, ?_⟩
      rw [if_neg (by omega)]
      exact hP c' A (fun q a b => h3 q a (by omega))
    | succ j ih =>
      intro k c' k0 hk A h4 h3
      have M' := M.agr A
      have e1 : c' T 1 = n := by rw [A T 1 (by unfold scr; omega)]; exact hn
      have wk : w32 (k + 1) = k + 1 := w32i (by omega) (by omega)
      apply wp_X12_inverts_33
      simp only [M'.p3, e1, M'.p29, M'.l74, M'.p27, M'.l73, wk]
      refine ⟨by omega, by omega, ?_⟩
      rw [if_pos (by omega)]
      refine ⟨by omega, by omega, ⟨by omega, by omega, by omega⟩, ⟨by omega, by omega, by omega⟩, ?_⟩
      rintro _ rfl
      have hj := hi.rg k k0 (by omega)
      have hkj : dg p (dg (inv6 p n) k) = k := by
        have hr := hp.rg _ hj.1 hj.2
        exact hi.2.2.2 _ _ hr.1 hr.2 k0 (by omega) (inv_dg h2 h6 hp _ hj.1 hj.2)
      refine ih (k + 1) _ (by omega) (by omega) (A.u (by unfold scr; omega)) (fun q a b => by rw [up_na (by decide)]; exact h4 q a b) (fun q a b => ?_)
      by_cases e : q = k
      · rw [e, up_eq]
        have := h4 _ hj.1 hj.2
        rw [hkj] at this
        exact this
      · rw [up_nj e]; exact h3 q a (by omega)
  have loop1 : ∀ (j : Nat) (k : Int) (c' : MC), 0 ≤ k → k + j = n → Agr c c' → One c' p n → (∀ q, 0 ≤ q → q < k → c' 74 (dg p q) = q) → At (d + 1) mX12_inverts 2 [mR 18 62, mI k] [] (G, c') (QV P0) := by
    intro j
    induction j with
    | zero =>
      intro k c' k0 hk A ho h4
      have M' := M.agr A
      have e1 : c' T 1 = n := by rw [A T 1 (by unfold scr; omega)]; exact hn
      apply wp_X12_inverts_2
      simp only [M'.p3, e1]
      refine ⟨by omega, by omega, ?_⟩
      rw [if_neg (by omega)]
      exact loop2 n.toNat 0 c' (by omega) (by omega) A (fun q a b => h4 q a (by omega)) (fun q a b => by omega)
    | succ j ih =>
      intro k c' k0 hk A ho h4
      have M' := M.agr A
      have e1 : c' T 1 = n := by rw [A T 1 (by unfold scr; omega)]; exact hn
      have wk : w32 (k + 1) = k + 1 := w32i (by omega) (by omega)
      have hr := hp.rg k k0 (by omega)
      apply wp_X12_inverts_2
      simp only [M'.p3, e1, M'.p29, M'.l74, M'.p27, M'.l73, wk, ho k k0 (by omega)]
      refine ⟨by omega, by omega, ?_⟩
      rw [if_pos (by omega)]
      refine ⟨by omega, by omega, ⟨by omega, by omega, by omega⟩, ⟨by omega, hr.1, by omega⟩, ?_⟩
      rintro _ rfl
      refine ih (k + 1) _ (by omega) (by omega) (A.u (by unfold scr; omega)) (fun q a b => by rw [up_na (by decide)]; exact ho q a b) (fun q a b => ?_)
      by_cases e : q = k
      · rw [e, up_eq]
      · rw [up_nj (fun h => e (hp.2.2.2 _ _ a (by omega) k0 (by omega) h))]; exact h4 q a (by omega)
  exact ev_X12_inverts d P0 G c 62 (by decide) (loop1 n.toNat 0 c (by omega) (by omega) Agr.rf ho (fun q a b => by omega))
theorem l_mevens (M : MDs G c T) (Mb : MBT c n S) (hw : 0 ≤ S 0 0 ∧ S 0 0 ≤ 720) (hn : c T 1 = n) (hpms : ∀ i, 0 ≤ i → i < S 0 0 → PM (S 1 i) n) (K : Int → Prop) (hK : ∀ s c', K s → Agr c c' → P s (G, mtr c' 0)) : ∀ (j : Nat) (i : Int) (s : Int) (c' : MC), 0 ≤ i → i + j = S 0 0 → Agr c c' → K (fo (fun i s => if evn (cyc (S 1 i) n) n = 0 then w32 (s + 0) else w32 (s + 1)) j i s) → At (d + 4) mX12_evens 22 [mR 18 62, mI s, mI i] [] (G, c') (QI P) := by
  have hT := M.T; have b1 := M.b1; have b3 := M.b3
  intro j
  induction j with
  | zero =>
    intro i s c' h0 hi A hP
    have M' := M.agr A
    have Mb' := Mb.ki (ki_agr A)
    apply wp_X12_evens_22
    simp only [Mb'.w, q_mgood]
    (repeat (refine And.intro (by first | omega | (simp only [true_and, and_true, and_self]; omega) | (simp only [true_and, and_true, and_self])) ?_))
    rw [if_neg (by omega)]
    skip
    exact hK _ _ hP A
  | succ j ih =>
    intro i s c' h0 hi A hP
    have M' := M.agr A
    have Mb' := Mb.ki (ki_agr A)
    have eT : ∀ k, c' T k = c T k := fun k => A T k (by unfold scr; omega)
    have wi : w32 (i + 1) = i + 1 := w32i (by omega) (by omega)
    apply wp_X12_evens_22
    simp only [Mb'.w, q_mgood, wi]
    (repeat (refine And.intro (by first | omega | (simp only [true_and, and_true, and_self]; omega) | (simp only [true_and, and_true, and_self])) ?_))
    rw [if_pos (by omega)]
    simp only [fo] at hP
    have A2 : Agr c (wr c' 73 0 n (fun k => c' 68 (6 * i + k))) := A.w (fun j => by unfold scr; omega)
    have M2 := M.agr A2
    have e12 : wr c' 73 0 n (fun k => c' 68 (6 * i + k)) T 1 = n := by rw [wr_ne (by omega), eT]; exact hn
    have ho2 : One (wr c' 73 0 n (fun k => c' 68 (6 * i + k))) (S 1 i) n := fun k k0 k1 => by rw [wr_in k0 (by omega)]; exact Mb'.e i k (by omega) (by omega) k0 k1
    rw [q_layWay _ _ _ _ T M' i (by omega) (by omega), eT, hn]
    have hpm := hpms i (by omega) (by omega)
    simp only []
    rw [q_misEven _ _ _ _ T M2 (S 1 i) (by rw [e12]; exact ho2) (by rw [e12]; exact hpm), e12]
    split <;> rename_i hc
    · rw [if_pos hc] at hP; exact ih _ _ _ (by omega) (by omega) A2 hP
    · rw [if_neg hc] at hP; exact ih _ _ _ (by omega) (by omega) A2 hP
end
theorem k_undoing (d : Nat) (G : MG) (c : MC) (b e : Int) (H : IV G c) (hb : b < 2147483648) : EvI (d + 40) mX10_undoing [mR 16 0, mI b, mI e] (G, c) (fun r1 ν1 => EvI (d + 40) mX12_undoing [mR 18 62, mI b, mI e] (ν1.1, ν1.2) (fun r2 ν2 => K2 G r1 r2 ν2)) := by
  obtain ⟨hr, t, z, S, V⟩ := H
  have H0 : IV0 G c := ⟨t, z, S, V⟩
  rcases V with V | ⟨T, n, m, u, q, w, x, s, ka, ki, g, V⟩
  · have I := S.ciN V
    have e1 := V.e1; have e3 := V.e3; have e4 := V.e4; have N := V.T
    have N1 : ∀ wy, up (up c 0 6 wy) 62 0 0 62 3 = -1 := fun wy => by rw [up_nj (by decide), up_na (by decide)]; exact N
    refine ev_X10_undoing (d + 39) _ G c 0 b e (by decide) ?_
    simp only [z_isTube _ _ _ _ t I e1, z_isPerson _ _ _ _ t I _ e3, z_isSlot _ _ _ _ t I _ e1, z_isTurn _ _ _ _ t I _ e4, z_areTwo _ _ _ _ t I _ _ e3, z_isPlace _ _ _ _ t I _ e1, ↓reduceIte, q_refused]
    refine ev_X12_undoing (d + 39) _ G _ 62 b e (by decide) ⟨by decide, ?_⟩
    rintro _ rfl
    simp only [q_nlayRow _ _ _ _ (N1 _), q_nisSlot _ _ _ _ (N1 _), q_nisPerson _ _ _ _ (N1 _), q_nisTurn _ _ _ _ (N1 _), q_nareTwo _ _ _ _ (N1 _), q_nisPlace _ _ _ _ (N1 _), N1, ↓reduceIte, q_mrefused, Int.reduceNeg, Int.reduceLT, Int.reduceLE, true_and]
    exact ⟨rfl, rfl, IV.q H0 (by decide) (agr_0 _)⟩
  · have I := S.ciT V
    have M := V.M; have hT := M.T; have ht := V.t
    have v1 := V.v1; have v3 := V.v3; have v4 := V.v4; have e0 := V.e0; have e1 := V.e1; have e3 := V.e3; have e4 := V.e4; have e5 := V.e5
    have b0 := M.b0; have b1 := M.b1; have b3 := M.b3; have b4 := M.b4
    rw [v1] at b1; rw [v3] at b3; rw [v4] at b4
    have hnp : 0 < n := by omega
    have hTn : ¬ T < 0 := by omega
    have M1 : ∀ wy, MDs G (up (up c 0 6 wy) 62 0 0) T := fun wy => (M.ki ki_up7).agr (agr_0 _)
    have r64 : ∀ wy, up (up c 0 6 wy) 62 0 0 64 = c 64 := fun wy => by funext j; rw [up_na (by decide), up_na (by decide)]
    have rT : ∀ wy k, up (up c 0 6 wy) 62 0 0 T k = c T k := fun wy k => by rw [up_na (by omega), up_na (by omega)]
    have rTT : ∀ wy (a : Int), 0 ≤ a → up (up c 0 6 wy) 62 0 0 (T + a) = c (T + a) := fun wy a ha => by funext j; rw [up_na (by omega), up_na (by omega)]
    have rS : ∀ wy a b, sld (up (up c 0 6 wy) 62 0 0) T a b = sld c T a b := fun wy a b => sld_eq (fun a j q => by rw [up_na (by omega), up_na (by omega)]) hT
    have hS : ∀ a b, 0 ≤ a → a < u → 0 ≤ b → b < n → sld c T a b = dg (g a) b := fun a b h1 h2 h3 h4 => by unfold sld; rw [v4, if_pos h2]; exact V.tk a b h1 h2 h3 h4
    have V1 : ∀ wy, TV G (up (up c 0 6 wy) 62 0 0) t T n m u q w x s ka ki g := fun wy => (V.kp ki_up7).kp (ki_agr (agr_0 _))
    skip
    refine ev_X10_undoing (d + 39) _ G c 0 b e (by decide) ?_
    simp only [q_isTube _ _ _ _ t I, q_isPerson _ _ _ _ t I, q_isSlot _ _ _ _ t I, q_isTurn _ _ _ _ t I, q_areTwo _ _ _ _ t I, q_isPlace _ _ _ _ t I, e0, e1, e3, e4, hnp, ↓reduceIte]
    simp only [and_self, ↓reduceIte, I.p0, q_changeBy _ _ _ _ t b e I.H hb, tv_chb V b e hb]
    (repeat (refine And.intro (by first | omega | (simp only [true_and, and_true, and_self]; omega) | (simp only [true_and, and_true, and_self])) ?_))
    cases hrow : rowF g n u b e with
    | none =>
      simp only [Option.getD_none, ↓reduceIte, q_refused]
      refine ev_X12_undoing (d + 39) _ G _ 62 b e (by decide) ⟨by decide, ?_⟩
      rintro _ rfl
      try simp only [q_misSlot _ _ _ _ T (M1 _), q_misPerson _ _ _ _ T (M1 _), q_misTurn _ _ _ _ T (M1 _), q_mareTwo _ _ _ _ T (M1 _), q_misPlace _ _ _ _ T (M1 _), (M1 _).p3, hTn, rT, v1, v3, v4, ↓reduceIte, Int.reduceLE, true_and, and_self, ↓reduceIte]
      refine f_layRow _ _ (V1 2) b e hb (fun _ c' A => ?_) (fun p hp => by rw [hrow] at hp; cases hp)
      simp only [Int.reduceLT, ↓reduceIte, q_mrefused]
      exact ⟨rfl, rfl, IV.q H0 (by decide) ((agr_0 _).tr A)⟩
    | some p =>
      have hp := rowF_pm (by omega) b1.2 V.gp hrow
      have hp0 : p ≠ -1 := by have := hp.1; omega
      simp only [Option.getD_some, hp0, ↓reduceIte]
      (repeat (refine And.intro (by first | omega | (simp only [true_and, and_true, and_self]; omega) | (simp only [true_and, and_true, and_self])) ?_))
      refine f_reached _ _ V S (fun c V S C f => ?_)
      have H0 : IV0 G c := ⟨t, z, S, Or.inr ⟨T, n, m, u, q, w, x, s, ka, ki, g, V⟩⟩
      have I := S.ciT V
      have M := V.M; have hT := M.T; have ht := V.t
      have v1 := V.v1; have v3 := V.v3; have v4 := V.v4; have e0 := V.e0; have e1 := V.e1; have e3 := V.e3; have e4 := V.e4; have e5 := V.e5
      have b0 := M.b0; have b1 := M.b1; have b3 := M.b3; have b4 := M.b4
      rw [v1] at b1; rw [v3] at b3; rw [v4] at b4
      have hnp : 0 < n := by omega
      have hTn : ¬ T < 0 := by omega
      have M1 : ∀ wy, MDs G (up (up c 0 6 wy) 62 0 0) T := fun wy => (M.ki ki_up7).agr (agr_0 _)
      have r64 : ∀ wy, up (up c 0 6 wy) 62 0 0 64 = c 64 := fun wy => by funext j; rw [up_na (by decide), up_na (by decide)]
      have rT : ∀ wy k, up (up c 0 6 wy) 62 0 0 T k = c T k := fun wy k => by rw [up_na (by omega), up_na (by omega)]
      have rTT : ∀ wy (a : Int), 0 ≤ a → up (up c 0 6 wy) 62 0 0 (T + a) = c (T + a) := fun wy a ha => by funext j; rw [up_na (by omega), up_na (by omega)]
      have rS : ∀ wy a b, sld (up (up c 0 6 wy) 62 0 0) T a b = sld c T a b := fun wy a b => sld_eq (fun a j q => by rw [up_na (by omega), up_na (by omega)]) hT
      have hS : ∀ a b, 0 ≤ a → a < u → 0 ≤ b → b < n → sld c T a b = dg (g a) b := fun a b h1 h2 h3 h4 => by unfold sld; rw [v4, if_pos h2]; exact V.tk a b h1 h2 h3 h4
      have V1 : ∀ wy, TV G (up (up c 0 6 wy) 62 0 0) t T n m u q w x s ka ki g := fun wy => (V.kp ki_up7).kp (ki_agr (agr_0 _))
      obtain ⟨B, w1, s0, Cl⟩ := tv_bfs V
      have hw := B.w

      simp only [I.p0, e1, q_X7_inverse _ _ _ _ _ n (show n ≤ 1000 by omega)]
      (repeat (refine And.intro (by first | omega | (simp only [true_and, and_true, and_self]; omega) | (simp only [true_and, and_true, and_self])) ?_))
      have hRM : RM n (bfs n g u) p := rowF_rm b1.1 b1.2 (fun i i0 i1 => RM.gen b1.1 b1.2 B Cl V.gp i0 i1) hrow
      have hin := hRM.inv b1.1 b1.2 B (by omega) s0
      obtain ⟨j0, j1, j2⟩ := hin.at b1.1 b1.2 B
      obtain ⟨k0, k1⟩ := rnk_rg b1.1 b1.2 hin.1
      rw [q_depthOf _ _ _ _ 45 n _ C hw (inv6 p n) b1.1 b1.2 hin.1 ⟨j0, j1⟩]
      simp only [q_fine]
      refine ev_X12_undoing (d + 39) _ G _ 62 b e (by decide) ⟨by decide, ?_⟩
      rintro _ rfl
      try simp only [q_misSlot _ _ _ _ T (M1 _), q_misPerson _ _ _ _ T (M1 _), q_misTurn _ _ _ _ T (M1 _), q_mareTwo _ _ _ _ T (M1 _), q_misPlace _ _ _ _ T (M1 _), (M1 _).p3, hTn, rT, v1, v3, v4, ↓reduceIte, Int.reduceLE, true_and, and_self, ↓reduceIte]
      refine f_layRow _ _ (V1 0) b e hb (fun hn => by rw [hrow] at hn; cases hn) (fun p' hp' c' A ho => ?_)
      rw [hrow] at hp'
      cases hp'
      have A0 : Agr (up c 0 6 0) c' := (agr_0 _).tr A
      have M' := (M1 0).agr A
      have e1' : c' T 1 = n := by rw [A T 1 (by unfold scr; omega), rT]; exact v1
      simp only [Int.reduceLT, ↓reduceIte]
      refine f_inverts _ _ G c' n T M' e1' p ho hp (fun c2 A2 ho2 => ?_)
      have M2 := M'.agr A2
      have e12 : c2 T 1 = n := by rw [A2 T 1 (by unfold scr; omega)]; exact e1'
      have Mb2 := ((V1 0).B.ki (ki_agr A)).ki (ki_agr A2)
      simp only [M2.p23, M2.p24, M.l69, M.l70]
      rw [q_ranked _ _ _ _ T M2 (inv6 p n) (by rw [e12]; exact ho2) (by rw [e12]; exact hin.1), e12]
      simp only [M.l69, M.l70, Mb2.x _ k0 k1, (Mb2.f _ j0 j1).1, q_mgood]
      refine ⟨⟨by omega, k0, k1⟩, ⟨by omega, j0, by omega⟩, rfl, rfl, IV.q H0 (by decide) (A0.tr A2)⟩
theorem k_evens (d : Nat) (G : MG) (c : MC) (H : IV G c) : EvI (d + 40) mX10_evens [mR 16 0] (G, c) (fun r1 ν1 => EvI (d + 40) mX12_evens [mR 18 62] (ν1.1, ν1.2) (fun r2 ν2 => K2 G r1 r2 ν2)) := by
  obtain ⟨hr, t, z, S, V⟩ := H
  have H0 : IV0 G c := ⟨t, z, S, V⟩
  rcases V with V | ⟨T, n, m, u, q, w, x, s, ka, ki, g, V⟩
  · have I := S.ciN V
    have e1 := V.e1; have e3 := V.e3; have e4 := V.e4; have N := V.T
    have N1 : ∀ wy, up (up c 0 6 wy) 62 0 0 62 3 = -1 := fun wy => by rw [up_nj (by decide), up_na (by decide)]; exact N
    refine ev_X10_evens (d + 39) _ G c 0 (by decide) ?_
    simp only [z_isTube _ _ _ _ t I e1, z_isPerson _ _ _ _ t I _ e3, z_isSlot _ _ _ _ t I _ e1, z_isTurn _ _ _ _ t I _ e4, z_areTwo _ _ _ _ t I _ _ e3, z_isPlace _ _ _ _ t I _ e1, ↓reduceIte, q_refused]
    refine ev_X12_evens (d + 39) _ G _ 62 (by decide) ⟨by decide, ?_⟩
    rintro _ rfl
    simp only [q_nisSlot _ _ _ _ (N1 _), q_nisPerson _ _ _ _ (N1 _), q_nisTurn _ _ _ _ (N1 _), q_nareTwo _ _ _ _ (N1 _), q_nisPlace _ _ _ _ (N1 _), N1, ↓reduceIte, q_mrefused, Int.reduceNeg, Int.reduceLT, Int.reduceLE, true_and]
    exact ⟨rfl, rfl, IV.q H0 (by decide) (agr_0 _)⟩
  · have I := S.ciT V
    have M := V.M; have hT := M.T; have ht := V.t
    have v1 := V.v1; have v3 := V.v3; have v4 := V.v4; have e0 := V.e0; have e1 := V.e1; have e3 := V.e3; have e4 := V.e4; have e5 := V.e5
    have b0 := M.b0; have b1 := M.b1; have b3 := M.b3; have b4 := M.b4
    rw [v1] at b1; rw [v3] at b3; rw [v4] at b4
    have hnp : 0 < n := by omega
    have hTn : ¬ T < 0 := by omega
    have M1 : ∀ wy, MDs G (up (up c 0 6 wy) 62 0 0) T := fun wy => (M.ki ki_up7).agr (agr_0 _)
    have r64 : ∀ wy, up (up c 0 6 wy) 62 0 0 64 = c 64 := fun wy => by funext j; rw [up_na (by decide), up_na (by decide)]
    have rT : ∀ wy k, up (up c 0 6 wy) 62 0 0 T k = c T k := fun wy k => by rw [up_na (by omega), up_na (by omega)]
    have rTT : ∀ wy (a : Int), 0 ≤ a → up (up c 0 6 wy) 62 0 0 (T + a) = c (T + a) := fun wy a ha => by funext j; rw [up_na (by omega), up_na (by omega)]
    have rS : ∀ wy a b, sld (up (up c 0 6 wy) 62 0 0) T a b = sld c T a b := fun wy a b => sld_eq (fun a j q => by rw [up_na (by omega), up_na (by omega)]) hT
    have hS : ∀ a b, 0 ≤ a → a < u → 0 ≤ b → b < n → sld c T a b = dg (g a) b := fun a b h1 h2 h3 h4 => by unfold sld; rw [v4, if_pos h2]; exact V.tk a b h1 h2 h3 h4
    have V1 : ∀ wy, TV G (up (up c 0 6 wy) 62 0 0) t T n m u q w x s ka ki g := fun wy => (V.kp ki_up7).kp (ki_agr (agr_0 _))
    skip
    refine ev_X10_evens (d + 39) _ G c 0 (by decide) ?_
    simp only [q_isTube _ _ _ _ t I, q_isPerson _ _ _ _ t I, q_isSlot _ _ _ _ t I, q_isTurn _ _ _ _ t I, q_areTwo _ _ _ _ t I, q_isPlace _ _ _ _ t I, e0, e1, e3, e4, hnp, ↓reduceIte]
    refine f_reached _ _ V S (fun c V S C f => ?_)
    have H0 : IV0 G c := ⟨t, z, S, Or.inr ⟨T, n, m, u, q, w, x, s, ka, ki, g, V⟩⟩
    have I := S.ciT V
    have M := V.M; have hT := M.T; have ht := V.t
    have v1 := V.v1; have v3 := V.v3; have v4 := V.v4; have e0 := V.e0; have e1 := V.e1; have e3 := V.e3; have e4 := V.e4; have e5 := V.e5
    have b0 := M.b0; have b1 := M.b1; have b3 := M.b3; have b4 := M.b4
    rw [v1] at b1; rw [v3] at b3; rw [v4] at b4
    have hnp : 0 < n := by omega
    have hTn : ¬ T < 0 := by omega
    have M1 : ∀ wy, MDs G (up (up c 0 6 wy) 62 0 0) T := fun wy => (M.ki ki_up7).agr (agr_0 _)
    have r64 : ∀ wy, up (up c 0 6 wy) 62 0 0 64 = c 64 := fun wy => by funext j; rw [up_na (by decide), up_na (by decide)]
    have rT : ∀ wy k, up (up c 0 6 wy) 62 0 0 T k = c T k := fun wy k => by rw [up_na (by omega), up_na (by omega)]
    have rTT : ∀ wy (a : Int), 0 ≤ a → up (up c 0 6 wy) 62 0 0 (T + a) = c (T + a) := fun wy a ha => by funext j; rw [up_na (by omega), up_na (by omega)]
    have rS : ∀ wy a b, sld (up (up c 0 6 wy) 62 0 0) T a b = sld c T a b := fun wy a b => sld_eq (fun a j q => by rw [up_na (by omega), up_na (by omega)]) hT
    have hS : ∀ a b, 0 ≤ a → a < u → 0 ≤ b → b < n → sld c T a b = dg (g a) b := fun a b h1 h2 h3 h4 => by unfold sld; rw [v4, if_pos h2]; exact V.tk a b h1 h2 h3 h4
    have V1 : ∀ wy, TV G (up (up c 0 6 wy) 62 0 0) t T n m u q w x s ka ki g := fun wy => (V.kp ki_up7).kp (ki_agr (agr_0 _))
    obtain ⟨B, w1, s0, Cl⟩ := tv_bfs V
    have hw := B.w

    rw [q_evenCount _ _ _ _ 45 n _ C hw (by omega) b1.2]
    simp only [q_fine]
    refine ev_X12_evens (d + 39) _ G _ 62 (by decide) ⟨by decide, ?_⟩
    rintro _ rfl
    have Mb := (V1 0).B
    simp only [q_misSlot _ _ _ _ T (M1 _), q_misPerson _ _ _ _ T (M1 _), q_misTurn _ _ _ _ T (M1 _), q_mareTwo _ _ _ _ T (M1 _), q_misPlace _ _ _ _ T (M1 _), (M1 _).p3, hTn, rT, v1, v3, v4, ↓reduceIte, Int.reduceLE, true_and]
    have hpms : ∀ i, 0 ≤ i → i < bfs n g u 0 0 → PM (bfs n g u 1 i) n := fun i a b => (B.2.1 i a b).1
    refine l_mevens (d + 36) _ G _ n T (bfs n g u) (M1 0) Mb hw (by rw [rT]; exact v1) hpms (fun r => r = fo (fun i s => if evn (cyc (bfs n g u 1 i) n) n = 0 then w32 (s + 0) else w32 (s + 1)) (bfs n g u 0 0).toNat 0 0) (fun r c' hr' A => ?_) (bfs n g u 0 0).toNat 0 0 _ (by omega) (by omega) Agr.rf rfl
    refine ⟨?_, rfl, IV.q H0 (by decide) ((agr_0 _).tr A)⟩
    rw [hr']
    have hcy : ∀ i, 0 ≤ i → i < bfs n g u 0 0 → 0 ≤ cyc (bfs n g u 1 i) n ∧ cyc (bfs n g u 1 i) n < n + 1 := fun i a b => by have := cyc_rg b1.1 b1.2 (hpms i a b); omega
    have key := sm_sorts (fun k => if evn k n = 0 then 0 else 1) (fun i => cyc (bfs n g u 1 i) n) (N := n + 1) (by omega) (bfs n g u 0 0) hw.1 hcy
    have l1 : fo (fun i s => if evn (cyc (bfs n g u 1 i) n) n = 0 then w32 (s + 0) else w32 (s + 1)) (bfs n g u 0 0).toNat 0 0 = sm (fun i => if evn (cyc (bfs n g u 1 i) n) n = 0 then 0 else 1) (bfs n g u 0 0) := by
      have := cw_fo (p := fun i => decide (evn (cyc (bfs n g u 1 i) n) n ≠ 0)) (bfs n g u 0 0).toNat 0 0 (by omega) (by omega)
      have e2 := cnt_sm (fun i => decide (evn (cyc (bfs n g u 1 i) n) n ≠ 0)) (bfs n g u 0 0) hw.1
      unfold cnt at e2
      rw [← this] at e2
      rw [show fo (fun i s => if evn (cyc (bfs n g u 1 i) n) n = 0 then w32 (s + 0) else w32 (s + 1)) (bfs n g u 0 0).toNat 0 0 = fo (fun k s => if decide (evn (cyc (bfs n g u 1 k) n) n ≠ 0) = true then w32 (s + 1) else w32 (s + 0)) (bfs n g u 0 0).toNat 0 0 from fo_congr _ _ _ (fun k s _ _ => by by_cases h : evn (cyc (bfs n g u 1 k) n) n = 0 <;> simp [h]), e2]
      exact sm_congr (fun k _ _ => by by_cases h : evn (cyc (bfs n g u 1 k) n) n = 0 <;> simp [h])
    rw [l1, key]
    have l2 : ∀ (j : Nat) (i s : Int), 0 ≤ s → s + 720 * j < 1000000 → fo (fun k s => if evn k n = 0 then w32 (s + 0) else w32 (s + cnt (fun i => decide (cyc (bfs n g u 1 i) n = k)) (bfs n g u 0 0))) j i s = fo (fun q (s : Int) => s + cnt (fun i => decide (cyc (bfs n g u 1 i) n = q)) (bfs n g u 0 0) * (if evn q n = 0 then 0 else 1)) j i s := by
      intro j
      induction j with
      | zero => intro i s _ _; rfl
      | succ j ih =>
        intro i s s0 s1
        have hc := cnt_b (fun k => decide (cyc (bfs n g u 1 k) n = i)) hw.1
        simp only [fo]
        by_cases h : evn i n = 0
        · rw [if_pos h, if_pos h, w32i (by omega) (by omega), Int.mul_zero]
          exact ih _ _ (by omega) (by omega)
        · rw [if_neg h, if_neg h, w32i (by omega) (by omega), Int.mul_one]
          exact ih _ _ (by omega) (by omega)
    exact l2 (n + 1).toNat 0 0 (by omega) (by omega)
