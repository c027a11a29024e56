section
variable {G : MG} {c : MC} {t T n m u q w x s ka ki z : Int} {g : Int → Int}
theorem tv_qcn (V : TV G c t T n m u q w x s ka ki g) {i : Int} (i0 : 0 ≤ i) (i1 : i < bfs n g u 0 0) : pop (hld c (t + 6) (thr (c 42 0) (bfs n g u 1 i) m)) = qcn c t q i := by
  have b5 := V.M.b5
  rw [V.v5] at b5
  rw [V.quar (tv_wf V i0 i1), (bs_all _ (by omega) (by omega)).2.1]
  rfl
theorem tv_qcn0 (V : TV G c t T n m u q w x s ka ki g) : pop (hld c (t + 6) (c 42 0)) = qcn c t q 0 := by
  have b5 := V.M.b5; have b1 := V.M.b1
  rw [V.v5] at b5; rw [V.v1] at b1
  obtain ⟨B, w1, s0, Cl⟩ := tv_bfs V
  rw [V.quar (xf := Wf c 0) (fun p a b => by
    have hv := V.sv p a b
    rw [hv.1]
    unfold Wf
    rw [V.B.e 0 _ (by omega) (by omega) hv.2.1 hv.2.2, s0, (sam_all (by omega) (by omega)).2.1 _ hv.2.1 hv.2.2]), (bs_all _ (by omega) (by omega)).2.1]
  rfl
theorem qcn_rg (c : MC) (t i : Int) {q : Int} (h : 0 ≤ q) : 0 ≤ qcn c t q i ∧ qcn c t q i ≤ q := cnt_b _ h
def mnF (Q : Int → Int) (j : Nat) (i s : Int) : Int := fo (fun i s => if Q i < s then Q i else s) j i s
theorem mnF_zero {Q : Int → Int} (hQ : ∀ i, 0 ≤ Q i) : ∀ (j : Nat) (i s : Int), s ≤ 0 → mnF Q j i s = s := by
  intro j
  induction j with
  | zero => intro i s _; rfl
  | succ j ih =>
    intro i s h
    have := hQ i
    show mnF Q j (i + 1) (if Q i < s then Q i else s) = s
    rw [if_neg (by omega)]
    exact ih _ _ h
variable (d : Nat) (P : Int → MM → Prop)
theorem l_ccalm (V : TV G c t T n m u q w x s ka ki g) (S : SH G c t z) (C : CBT G c 45 n (bfs n g u)) : ∀ (j : Nat) (i v : Int), 0 ≤ i → i + j = bfs n g u 0 0 → P (mnF (qcn c t q) j i v) (G, up c 0 6 0) → At (d + 4) mX10_calmest 32 [mR 16 0, mR 11 45, mI v, mI i] [] (G, c) (QI P) := by
  have I := S.ciT V
  have hw := (tv_bfs V).1.w
  have b3 := V.M.b3; have b5 := V.M.b5; have ht := V.t
  rw [V.v3] at b3; rw [V.v5] at b5
  intro j
  induction j with
  | zero =>
    intro i v i0 hi hP
    apply wp_X10_calmest_32
    simp only [C.w, q_fine]
    refine ⟨by omega, ?_⟩
    rw [if_neg (by omega)]
    exact hP
  | succ j ih =>
    intro i v i0 hi hP
    have wi : w32 (i + 1) = i + 1 := w32i (by omega) (by omega)
    apply wp_X10_calmest_32
    simp only [C.w, q_fine, I.p3, I.p0, V.e3, wi]
    refine ⟨by omega, ?_⟩
    rw [if_pos (by omega)]
    by_cases hv : 0 < v
    · rw [if_pos hv]
      refine ⟨by omega, by omega, by omega, by omega, ?_⟩
      rw [q_standBehind _ _ _ _ 45 n _ C hw i _ m i0 (by omega) (by omega)]
      simp only [q_quarrelsBy _ _ _ _ t I, q_J9_min, tv_qcn V i0 (show i < bfs n g u 0 0 by omega)]
      exact ih _ _ (by omega) (by omega) hP
    · rw [if_neg hv]
      rw [mnF_zero (fun i => (qcn_rg c t i (by omega)).1) (j + 1) i v (by omega)] at hP
      exact hP
theorem f_mcalm (V : TV G c t T n m u q w x s ka ki g) (K : Int → Prop) (hK : ∀ v c', K v → Agr c c' → P v (G, mtr c' 0)) : ∀ (j : Nat) (i v : Int) (c' : MC), 0 ≤ i → i + j = bfs n g u 0 0 → Agr c c' → K (mnF (qcn c t q) j i v) → At (d + 4) mX12_calmest 24 [mR 18 62, mI v, mI i] [] (G, c') (QI P) := by
  have M := V.M; have hT := M.T; have ht := V.t
  have hw := (tv_bfs V).1.w
  have b3 := M.b3; have b1 := M.b1
  rw [V.v3] at b3; rw [V.v1] at b1
  intro j
  induction j with
  | zero =>
    intro i v c' i0 hi A hk
    have Mb := V.B.ki (ki_agr A)
    apply wp_X12_calmest_24
    simp only [Mb.w, q_mgood]
    refine ⟨by omega, ?_⟩
    rw [if_neg (by omega)]
    exact hK _ _ hk A
  | succ j ih =>
    intro i v c' i0 hi A hk
    have Mb := V.B.ki (ki_agr A)
    have V' := V.kp (ki_agr A)
    have M' := V'.M
    have wi : w32 (i + 1) = i + 1 := w32i (by omega) (by omega)
    apply wp_X12_calmest_24
    simp only [Mb.w, wi]
    refine ⟨by omega, ?_⟩
    rw [if_pos (by omega), q_goesBy _ _ _ _ T M' (fun p a b => by rw [V'.v3] at b; have := V'.sv p a b; omega) i i0 (by omega), V'.v3]
    have A2 : Agr c (wr c' 65 0 m (fun p => c' 68 (6 * i + c' 64 p))) := A.w (fun j => by unfold scr; omega)
    have V2 := V.kp (ki_agr A2)
    have e64 : ∀ j, c' 64 j = c 64 j := fun j => A 64 j (by unfold scr; omega)
    have e68 : ∀ j, c' 68 j = c 68 j := fun j => A 68 j (by unfold scr; omega)
    have hq : qrl (wr c' 65 0 m (fun p => c' 68 (6 * i + c' 64 p)) 65) (wr c' 65 0 m (fun p => c' 68 (6 * i + c' 64 p)) (T + 3)) m = qcn c t q i := by
      rw [tv_qrl V2]
      unfold qcn
      apply cnt_congr
      intro k k0 k1
      have h := V.qu k k0 k1
      rw [A2 (t + 6 + 1) k (by unfold scr; omega), A2 (t + 6 + 2) k (by unfold scr; omega), wr_in h.1.1 (by omega), wr_in h.2.1.1 (by omega)]
      simp only [e64, e68]
      rfl
    simp only [q_quarrelsNow _ _ _ _ T V2.M (fun p a b => by rw [V2.v3] at *; have := V2.foeb (wr c' 65 0 m (fun p => c' 68 (6 * i + c' 64 p)) 65) p a b; omega), V2.v3, hq]
    have hk2 : K (mnF (qcn c t q) j (i + 1) (if qcn c t q i < v then qcn c t q i else v)) := hk
    split <;> rename_i hc
    · rw [if_pos hc] at hk2; exact ih _ _ _ (by omega) (by omega) A2 hk2
    · rw [if_neg hc] at hk2; exact ih _ _ _ (by omega) (by omega) A2 hk2
end
theorem k_calmest (d : Nat) (G : MG) (c : MC) (H : IV G c) : EvI (d + 40) mX10_calmest [mR 16 0] (G, c) (fun r1 ν1 => EvI (d + 40) mX12_calmest [mR 18 62] (ν1.1, ν1.2) (fun r2 ν2 => K2 G r1 r2 ν2)) := by
  obtain ⟨hr, t, z, S, V⟩ := H
  have H0 : IV0 G c := ⟨t, z, S, V⟩
  rcases V with V | ⟨T, n, m, u, q, w, x, s, ka, ki, g, V⟩
  · have I := S.ciN V
    have e1 := V.e1; have e3 := V.e3; have e4 := V.e4; have N := V.T
    have N1 : ∀ wy, up (up c 0 6 wy) 62 0 0 62 3 = -1 := fun wy => by rw [up_nj (by decide), up_na (by decide)]; exact N
    refine ev_X10_calmest (d + 39) _ G c 0 (by decide) ?_
    simp only [z_isTube _ _ _ _ t I e1, z_isPerson _ _ _ _ t I _ e3, z_isSlot _ _ _ _ t I _ e1, z_isTurn _ _ _ _ t I _ e4, z_areTwo _ _ _ _ t I _ _ e3, z_isPlace _ _ _ _ t I _ e1, ↓reduceIte, q_refused]
    refine ev_X12_calmest (d + 39) _ G _ 62 (by decide) ⟨by decide, ?_⟩
    rintro _ rfl
    simp only [q_nisSlot _ _ _ _ (N1 _), q_nisPerson _ _ _ _ (N1 _), q_nisTurn _ _ _ _ (N1 _), q_nareTwo _ _ _ _ (N1 _), q_nisPlace _ _ _ _ (N1 _), N1, ↓reduceIte, q_mrefused, Int.reduceNeg, Int.reduceLT, Int.reduceLE, true_and]
    exact ⟨rfl, rfl, IV.q H0 (by decide) (agr_0 _)⟩
  · have I := S.ciT V
    have M := V.M; have hT := M.T; have ht := V.t
    have v1 := V.v1; have v3 := V.v3; have v4 := V.v4; have e0 := V.e0; have e1 := V.e1; have e3 := V.e3; have e4 := V.e4; have e5 := V.e5
    have b0 := M.b0; have b1 := M.b1; have b3 := M.b3; have b4 := M.b4
    rw [v1] at b1; rw [v3] at b3; rw [v4] at b4
    have hnp : 0 < n := by omega
    have hTn : ¬ T < 0 := by omega
    have M1 : ∀ wy, MDs G (up (up c 0 6 wy) 62 0 0) T := fun wy => (M.ki ki_up7).agr (agr_0 _)
    have r64 : ∀ wy, up (up c 0 6 wy) 62 0 0 64 = c 64 := fun wy => by funext j; rw [up_na (by decide), up_na (by decide)]
    have rT : ∀ wy k, up (up c 0 6 wy) 62 0 0 T k = c T k := fun wy k => by rw [up_na (by omega), up_na (by omega)]
    have rTT : ∀ wy (a : Int), 0 ≤ a → up (up c 0 6 wy) 62 0 0 (T + a) = c (T + a) := fun wy a ha => by funext j; rw [up_na (by omega), up_na (by omega)]
    have rS : ∀ wy a b, sld (up (up c 0 6 wy) 62 0 0) T a b = sld c T a b := fun wy a b => sld_eq (fun a j q => by rw [up_na (by omega), up_na (by omega)]) hT
    have hS : ∀ a b, 0 ≤ a → a < u → 0 ≤ b → b < n → sld c T a b = dg (g a) b := fun a b h1 h2 h3 h4 => by unfold sld; rw [v4, if_pos h2]; exact V.tk a b h1 h2 h3 h4
    have V1 : ∀ wy, TV G (up (up c 0 6 wy) 62 0 0) t T n m u q w x s ka ki g := fun wy => (V.kp ki_up7).kp (ki_agr (agr_0 _))
    skip
    refine ev_X10_calmest (d + 39) _ G c 0 (by decide) ?_
    simp only [q_isTube _ _ _ _ t I, q_isPerson _ _ _ _ t I, q_isSlot _ _ _ _ t I, q_isTurn _ _ _ _ t I, q_areTwo _ _ _ _ t I, q_isPlace _ _ _ _ t I, e0, e1, e3, e4, hnp, ↓reduceIte]
    refine f_reached _ _ V S (fun c V S C f => ?_)
    have H0 : IV0 G c := ⟨t, z, S, Or.inr ⟨T, n, m, u, q, w, x, s, ka, ki, g, V⟩⟩
    have I := S.ciT V
    have M := V.M; have hT := M.T; have ht := V.t
    have v1 := V.v1; have v3 := V.v3; have v4 := V.v4; have e0 := V.e0; have e1 := V.e1; have e3 := V.e3; have e4 := V.e4; have e5 := V.e5
    have b0 := M.b0; have b1 := M.b1; have b3 := M.b3; have b4 := M.b4
    rw [v1] at b1; rw [v3] at b3; rw [v4] at b4
    have hnp : 0 < n := by omega
    have hTn : ¬ T < 0 := by omega
    have M1 : ∀ wy, MDs G (up (up c 0 6 wy) 62 0 0) T := fun wy => (M.ki ki_up7).agr (agr_0 _)
    have r64 : ∀ wy, up (up c 0 6 wy) 62 0 0 64 = c 64 := fun wy => by funext j; rw [up_na (by decide), up_na (by decide)]
    have rT : ∀ wy k, up (up c 0 6 wy) 62 0 0 T k = c T k := fun wy k => by rw [up_na (by omega), up_na (by omega)]
    have rTT : ∀ wy (a : Int), 0 ≤ a → up (up c 0 6 wy) 62 0 0 (T + a) = c (T + a) := fun wy a ha => by funext j; rw [up_na (by omega), up_na (by omega)]
    have rS : ∀ wy a b, sld (up (up c 0 6 wy) 62 0 0) T a b = sld c T a b := fun wy a b => sld_eq (fun a j q => by rw [up_na (by omega), up_na (by omega)]) hT
    have hS : ∀ a b, 0 ≤ a → a < u → 0 ≤ b → b < n → sld c T a b = dg (g a) b := fun a b h1 h2 h3 h4 => by unfold sld; rw [v4, if_pos h2]; exact V.tk a b h1 h2 h3 h4
    have V1 : ∀ wy, TV G (up (up c 0 6 wy) 62 0 0) t T n m u q w x s ka ki g := fun wy => (V.kp ki_up7).kp (ki_agr (agr_0 _))
    obtain ⟨B, w1, s0, Cl⟩ := tv_bfs V
    have hw := B.w

    simp only [I.p3, q_quarrelsBy _ _ _ _ t I, tv_qcn0 V]
    (repeat (refine And.intro (by first | omega | (simp only [true_and, and_true, and_self]; omega) | (simp only [true_and, and_true, and_self])) ?_))
    have hq0 := qcn_rg c t 0 (q := q) (by have := M.b5; rw [V.v5] at this; omega)
    have b5 := M.b5
    rw [V.v5] at b5
    refine l_ccalm (d + 36) _ V S C (bfs n g u 0 0).toNat 0 _ (by omega) (by omega) ?_
    refine ev_X12_calmest (d + 39) _ G _ 62 (by decide) ⟨by decide, ?_⟩
    rintro _ rfl
    simp only [q_misSlot _ _ _ _ T (M1 _), q_misPerson _ _ _ _ T (M1 _), q_misTurn _ _ _ _ T (M1 _), q_mareTwo _ _ _ _ T (M1 _), q_misPlace _ _ _ _ T (M1 _), (M1 _).p3, hTn, rT, v1, v3, v4, ↓reduceIte, Int.reduceLE, true_and]
    (repeat (refine And.intro (by first | omega | (simp only [true_and, and_true, and_self]; omega) | (simp only [true_and, and_true, and_self])) ?_))
    have eq : ∀ i, qcn (up (up c 0 6 0) 62 0 0) t q i = qcn c t q i := fun i => (er_fr ht hT (fun j => by rw [up_na (by decide), up_na (by decide)]) (fun j => by rw [up_na (by decide), up_na (by decide)]) (fun a j h h0 => by rw [up_na (by omega), up_na (by omega)]) (fun a j h => by rw [up_na (by omega), up_na (by omega)]) w q 0 i).2.1
    refine f_mcalm (d + 36) _ (V1 0) (fun v => v = mnF (qcn c t q) (bfs n g u 0 0).toNat 0 9999) (fun v c' hv A => ?_) (bfs n g u 0 0).toNat 0 9999 _ (by omega) (by omega) Agr.rf (by rw [show qcn (up (up c 0 6 0) 62 0 0) t q = qcn c t q from funext eq])
    refine ⟨?_, rfl, IV.q H0 (by decide) ((agr_0 _).tr A)⟩
    rw [hv]
    obtain ⟨j, hj⟩ : ∃ j, (bfs n g u 0 0).toNat = j + 1 := ⟨(bfs n g u 0 0).toNat - 1, by omega⟩
    rw [hj]
    show mnF (qcn c t q) j (0 + 1) (if qcn c t q 0 < qcn c t q 0 then qcn c t q 0 else qcn c t q 0) = mnF (qcn c t q) j (0 + 1) (if qcn c t q 0 < 9999 then qcn c t q 0 else 9999)
    rw [if_neg (by omega), if_pos (by omega)]
section
variable (d : Nat) (P : Int → MM → Prop) (G : MG) (c : MC) (n T : Int) (S : MC)
theorem l_mbring (M : MDs G c T) (Mb : MBT c n S) (hw : 0 ≤ S 0 0 ∧ S 0 0 ≤ 720) (n6 : n ≤ 6) (p b : Int) (hp : 0 ≤ p ∧ p < 6) (hv : 0 ≤ c 64 p ∧ c 64 p < n) (K : Option Int → Prop) (hF : ∀ i, 0 ≤ i → i < S 0 0 → dg (S 1 i) (c 64 p) = b → K (some i) → P (S 2 i) (G, mtr c 0)) (hE : K none → P (-2) (G, mtr c 0)) : ∀ (j : Nat) (i : Int), 0 ≤ i → i + j = S 0 0 → K (fi (fun i => decide (dg (S 1 i) (c 64 p) = b)) (fun i => some i) none j i) → At (d + 2) mX12_bring 29 [mR 18 62, mI p, mI b, mI i] [] (G, c) (QI P) := by
  have hT := M.T
  intro j
  induction j with
  | zero =>
    intro i h0 hi hP
    apply wp_X12_bring_29
    try simp only [Mb.w, M.p16, M.l64, M.p24, M.l70, q_mgood]
    (repeat (refine And.intro (by first | omega | (simp only [true_and, and_true, and_self]; omega) | (simp only [true_and, and_true, and_self])) ?_))
    rw [if_neg (by omega)]
    (repeat (refine And.intro (by first | omega | (simp only [true_and, and_true, and_self]; omega) | (simp only [true_and, and_true, and_self])) ?_))
    skip
    exact hE hP
  | succ j ih =>
    intro i h0 hi hP
    have wi : w32 (i + 1) = i + 1 := w32i (by omega) (by omega)
    apply wp_X12_bring_29
    simp only [Mb.w, M.p16, M.l64, M.p24, M.l70, q_mgood, wi]
    (repeat (refine And.intro (by first | omega | (simp only [true_and, and_true, and_self]; omega) | (simp only [true_and, and_true, and_self])) ?_))
    rw [if_pos (by omega)]
    simp only [fi] at hP
    (repeat (refine And.intro (by first | omega | (simp only [true_and, and_true, and_self]; omega) | (simp only [true_and, and_true, and_self])) ?_)); rw [q_comes _ _ _ _ T M i _ (by omega) (by omega) hv.1 (by omega)]; simp only [M.p24, M.l70]; rw [Mb.e i _ (by omega) (by omega) hv.1 hv.2]
    (repeat (refine And.intro (by first | omega | (simp only [true_and, and_true, and_self]; omega) | (simp only [true_and, and_true, and_self])) ?_))
    by_cases hq : dg (S 1 i) (c 64 p) = b
    · rw [if_pos (decide_eq_true hq)] at hP
      rw [if_pos hq]
      rw [(Mb.f i (by omega) (by omega)).1]
      (repeat (refine And.intro (by first | omega | (simp only [true_and, and_true, and_self]; omega) | (simp only [true_and, and_true, and_self])) ?_))
      exact hF i h0 (by omega) hq hP
    · rw [if_neg (by simpa using hq)] at hP
      rw [if_neg hq]
      exact ih _ (by omega) (by omega) hP
end
theorem fi_opt {p : Int → Bool} (f : Option Int → Int) (hf : ∀ i : Int, f (some i) = f (some i)) : ∀ (j : Nat) (i : Int), (fi p (fun i => some i) none j i = none ∧ fi p (fun i => i) (-1) j i = -1) ∨ (fi p (fun i => some i) none j i = some (fi p (fun i => i) (-1) j i)) := by
  intro j
  induction j with
  | zero => intro i; exact Or.inl ⟨rfl, rfl⟩
  | succ j ih =>
    intro i
    simp only [fi]
    split
    · exact Or.inr rfl
    · exact ih _
theorem k_bring (d : Nat) (G : MG) (c : MC) (a b : Int) (H : IV G c) : EvI (d + 40) mX10_bring [mR 16 0, mI a, mI b] (G, c) (fun r1 ν1 => EvI (d + 40) mX12_bring [mR 18 62, mI a, mI b] (ν1.1, ν1.2) (fun r2 ν2 => K2 G r1 r2 ν2)) := by
  obtain ⟨hr, t, z, S, V⟩ := H
  have H0 : IV0 G c := ⟨t, z, S, V⟩
  rcases V with V | ⟨T, n, m, u, q, w, x, s, ka, ki, g, V⟩
  · have I := S.ciN V
    have e1 := V.e1; have e3 := V.e3; have e4 := V.e4; have N := V.T
    have N1 : ∀ wy, up (up c 0 6 wy) 62 0 0 62 3 = -1 := fun wy => by rw [up_nj (by decide), up_na (by decide)]; exact N
    refine ev_X10_bring (d + 39) _ G c 0 a b (by decide) ?_
    simp only [z_isTube _ _ _ _ t I e1, z_isPerson _ _ _ _ t I _ e3, z_isSlot _ _ _ _ t I _ e1, z_isTurn _ _ _ _ t I _ e4, z_areTwo _ _ _ _ t I _ _ e3, z_isPlace _ _ _ _ t I _ e1, ↓reduceIte, q_refused]
    refine ev_X12_bring (d + 39) _ G _ 62 a b (by decide) ⟨by decide, ?_⟩
    rintro _ rfl
    simp only [q_nisSlot _ _ _ _ (N1 _), q_nisPerson _ _ _ _ (N1 _), q_nisTurn _ _ _ _ (N1 _), q_nareTwo _ _ _ _ (N1 _), q_nisPlace _ _ _ _ (N1 _), N1, ↓reduceIte, q_mrefused, Int.reduceNeg, Int.reduceLT, Int.reduceLE, true_and]
    exact ⟨rfl, rfl, IV.q H0 (by decide) (agr_0 _)⟩
  · have I := S.ciT V
    have M := V.M; have hT := M.T; have ht := V.t
    have v1 := V.v1; have v3 := V.v3; have v4 := V.v4; have e0 := V.e0; have e1 := V.e1; have e3 := V.e3; have e4 := V.e4; have e5 := V.e5
    have b0 := M.b0; have b1 := M.b1; have b3 := M.b3; have b4 := M.b4
    rw [v1] at b1; rw [v3] at b3; rw [v4] at b4
    have hnp : 0 < n := by omega
    have hTn : ¬ T < 0 := by omega
    have M1 : ∀ wy, MDs G (up (up c 0 6 wy) 62 0 0) T := fun wy => (M.ki ki_up7).agr (agr_0 _)
    have r64 : ∀ wy, up (up c 0 6 wy) 62 0 0 64 = c 64 := fun wy => by funext j; rw [up_na (by decide), up_na (by decide)]
    have rT : ∀ wy k, up (up c 0 6 wy) 62 0 0 T k = c T k := fun wy k => by rw [up_na (by omega), up_na (by omega)]
    have rTT : ∀ wy (a : Int), 0 ≤ a → up (up c 0 6 wy) 62 0 0 (T + a) = c (T + a) := fun wy a ha => by funext j; rw [up_na (by omega), up_na (by omega)]
    have rS : ∀ wy a b, sld (up (up c 0 6 wy) 62 0 0) T a b = sld c T a b := fun wy a b => sld_eq (fun a j q => by rw [up_na (by omega), up_na (by omega)]) hT
    have hS : ∀ a b, 0 ≤ a → a < u → 0 ≤ b → b < n → sld c T a b = dg (g a) b := fun a b h1 h2 h3 h4 => by unfold sld; rw [v4, if_pos h2]; exact V.tk a b h1 h2 h3 h4
    have V1 : ∀ wy, TV G (up (up c 0 6 wy) 62 0 0) t T n m u q w x s ka ki g := fun wy => (V.kp ki_up7).kp (ki_agr (agr_0 _))
    skip
    refine ev_X10_bring (d + 39) _ G c 0 a b (by decide) ?_
    simp only [q_isTube _ _ _ _ t I, q_isPerson _ _ _ _ t I, q_isSlot _ _ _ _ t I, q_isTurn _ _ _ _ t I, q_areTwo _ _ _ _ t I, q_isPlace _ _ _ _ t I, e0, e1, e3, e4, hnp, ↓reduceIte]
    by_cases h1 : 0 ≤ a ∧ a < m
    · by_cases h2 : 0 ≤ b ∧ b < n
      · simp only [h1, h2, and_self, ↓reduceIte]
        refine f_reached _ _ V S (fun c V S C f => ?_)
        have H0 : IV0 G c := ⟨t, z, S, Or.inr ⟨T, n, m, u, q, w, x, s, ka, ki, g, V⟩⟩
        have I := S.ciT V
        have M := V.M; have hT := M.T; have ht := V.t
        have v1 := V.v1; have v3 := V.v3; have v4 := V.v4; have e0 := V.e0; have e1 := V.e1; have e3 := V.e3; have e4 := V.e4; have e5 := V.e5
        have b0 := M.b0; have b1 := M.b1; have b3 := M.b3; have b4 := M.b4
        rw [v1] at b1; rw [v3] at b3; rw [v4] at b4
        have hnp : 0 < n := by omega
        have hTn : ¬ T < 0 := by omega
        have M1 : ∀ wy, MDs G (up (up c 0 6 wy) 62 0 0) T := fun wy => (M.ki ki_up7).agr (agr_0 _)
        have r64 : ∀ wy, up (up c 0 6 wy) 62 0 0 64 = c 64 := fun wy => by funext j; rw [up_na (by decide), up_na (by decide)]
        have rT : ∀ wy k, up (up c 0 6 wy) 62 0 0 T k = c T k := fun wy k => by rw [up_na (by omega), up_na (by omega)]
        have rTT : ∀ wy (a : Int), 0 ≤ a → up (up c 0 6 wy) 62 0 0 (T + a) = c (T + a) := fun wy a ha => by funext j; rw [up_na (by omega), up_na (by omega)]
        have rS : ∀ wy a b, sld (up (up c 0 6 wy) 62 0 0) T a b = sld c T a b := fun wy a b => sld_eq (fun a j q => by rw [up_na (by omega), up_na (by omega)]) hT
        have hS : ∀ a b, 0 ≤ a → a < u → 0 ≤ b → b < n → sld c T a b = dg (g a) b := fun a b h1 h2 h3 h4 => by unfold sld; rw [v4, if_pos h2]; exact V.tk a b h1 h2 h3 h4
        have V1 : ∀ wy, TV G (up (up c 0 6 wy) 62 0 0) t T n m u q w x s ka ki g := fun wy => (V.kp ki_up7).kp (ki_agr (agr_0 _))
        obtain ⟨B, w1, s0, Cl⟩ := tv_bfs V
        have hw := B.w

        simp only [q_slotOf _ _ _ _ t I, q_firstBringing _ _ _ _ 45 n _ C hw, (V.sv a h1.1 h1.2).1]
        have hfo := fi_opt (p := fun i => decide (dg (bfs n g u 1 i) (c 64 a) = b)) (fun _ => 0) (fun _ => rfl) (bfs n g u 0 0).toNat 0
        have hN := fi_at (p := fun i => decide (dg (bfs n g u 1 i) (c 64 a) = b)) (bfs n g u 0 0).toNat 0
        obtain ⟨r, hre⟩ : ∃ r, r = fi (fun i => decide (dg (bfs n g u 1 i) (c 64 a) = b)) (fun i => i) (-1) (bfs n g u 0 0).toNat 0 := ⟨_, rfl⟩
        rw [← hre] at hfo hN ⊢
        have hv0 : ∀ c', FrR 45 c c' → c' 64 a = c 64 a := fun c' f' => f' 64 a (by omega)
        have hrr : r = -1 ∨ (0 ≤ r ∧ r < bfs n g u 0 0) := by omega
        obtain ⟨va, hva⟩ : ∃ va, va = c 64 a := ⟨_, rfl⟩
        rw [← hva] at hfo
        refine f_depthOrNot _ _ V S r hrr (fun c V S f => ?_)
        have H0 : IV0 G c := ⟨t, z, S, Or.inr ⟨T, n, m, u, q, w, x, s, ka, ki, g, V⟩⟩
        have I := S.ciT V
        have M := V.M; have hT := M.T; have ht := V.t
        have v1 := V.v1; have v3 := V.v3; have v4 := V.v4; have e0 := V.e0; have e1 := V.e1; have e3 := V.e3; have e4 := V.e4; have e5 := V.e5
        have b0 := M.b0; have b1 := M.b1; have b3 := M.b3; have b4 := M.b4
        rw [v1] at b1; rw [v3] at b3; rw [v4] at b4
        have hnp : 0 < n := by omega
        have hTn : ¬ T < 0 := by omega
        have M1 : ∀ wy, MDs G (up (up c 0 6 wy) 62 0 0) T := fun wy => (M.ki ki_up7).agr (agr_0 _)
        have r64 : ∀ wy, up (up c 0 6 wy) 62 0 0 64 = c 64 := fun wy => by funext j; rw [up_na (by decide), up_na (by decide)]
        have rT : ∀ wy k, up (up c 0 6 wy) 62 0 0 T k = c T k := fun wy k => by rw [up_na (by omega), up_na (by omega)]
        have rTT : ∀ wy (a : Int), 0 ≤ a → up (up c 0 6 wy) 62 0 0 (T + a) = c (T + a) := fun wy a ha => by funext j; rw [up_na (by omega), up_na (by omega)]
        have rS : ∀ wy a b, sld (up (up c 0 6 wy) 62 0 0) T a b = sld c T a b := fun wy a b => sld_eq (fun a j q => by rw [up_na (by omega), up_na (by omega)]) hT
        have hS : ∀ a b, 0 ≤ a → a < u → 0 ≤ b → b < n → sld c T a b = dg (g a) b := fun a b h1 h2 h3 h4 => by unfold sld; rw [v4, if_pos h2]; exact V.tk a b h1 h2 h3 h4
        have V1 : ∀ wy, TV G (up (up c 0 6 wy) 62 0 0) t T n m u q w x s ka ki g := fun wy => (V.kp ki_up7).kp (ki_agr (agr_0 _))
        obtain ⟨B, w1, s0, Cl⟩ := tv_bfs V
        have hw := B.w
        simp only [q_fine]
        refine ev_X12_bring (d + 39) _ G _ 62 a b (by decide) ⟨by decide, ?_⟩
        rintro _ rfl
        have e64 : c 64 a = va := by rw [hva]; exact f 64 a (by omega)
        have e64' : up (up c 0 6 0) 62 0 0 64 a = va := by rw [r64]; exact e64
        have hva2 := V.sv a h1.1 h1.2
        simp only [q_misSlot _ _ _ _ T (M1 _), q_misPerson _ _ _ _ T (M1 _), q_misTurn _ _ _ _ T (M1 _), q_mareTwo _ _ _ _ T (M1 _), q_misPlace _ _ _ _ T (M1 _), (M1 _).p3, hTn, rT, v1, v3, v4, ↓reduceIte, Int.reduceLE, true_and, h1, h2, and_self, ↓reduceIte]
        refine l_mbring (d + 38) _ G _ n T _ (M1 0) (V1 0).B hw b1.2 a b ⟨h1.1, by omega⟩ (by rw [e64']; omega) (fun o => o = fi (fun i => decide (dg (bfs n g u 1 i) va = b)) (fun i => some i) none (bfs n g u 0 0).toNat 0) (fun i i0 i1 hp hk => ?_) (fun hk => ?_) (bfs n g u 0 0).toNat 0 (by omega) (by omega) (by rw [e64'])
        · rcases hfo with ⟨k1, k2⟩ | k1
          · rw [k1] at hk; cases hk
          · rw [k1] at hk
            have : i = r := Option.some.inj hk
            rw [if_neg (by omega), this]
            exact ⟨rfl, rfl, IV.q H0 (by decide) (agr_0 _)⟩
        · rcases hfo with ⟨k1, k2⟩ | k1
          · rw [if_pos k2]; exact ⟨rfl, rfl, IV.q H0 (by decide) (agr_0 _)⟩
          · rw [k1] at hk; cases hk
      · simp only [h1, h2, and_self, ↓reduceIte, q_refused]
        refine ev_X12_bring (d + 39) _ G _ 62 a b (by decide) ⟨by decide, ?_⟩
        rintro _ rfl
        simp only [q_misSlot _ _ _ _ T (M1 _), q_misPerson _ _ _ _ T (M1 _), q_misTurn _ _ _ _ T (M1 _), q_mareTwo _ _ _ _ T (M1 _), q_misPlace _ _ _ _ T (M1 _), (M1 _).p3, hTn, rT, v1, v3, v4, ↓reduceIte, Int.reduceLE, true_and, h1, h2, and_self, ↓reduceIte, q_mrefused]
        exact ⟨rfl, rfl, IV.q H0 (by decide) (agr_0 _)⟩
    · simp only [h1, and_self, ↓reduceIte, q_refused]
      refine ev_X12_bring (d + 39) _ G _ 62 a b (by decide) ⟨by decide, ?_⟩
      rintro _ rfl
      simp only [q_misSlot _ _ _ _ T (M1 _), q_misPerson _ _ _ _ T (M1 _), q_misTurn _ _ _ _ T (M1 _), q_mareTwo _ _ _ _ T (M1 _), q_misPlace _ _ _ _ T (M1 _), (M1 _).p3, hTn, rT, v1, v3, v4, ↓reduceIte, Int.reduceLE, true_and, h1, and_self, ↓reduceIte, q_mrefused]
      exact ⟨rfl, rfl, IV.q H0 (by decide) (agr_0 _)⟩
