theorem fi_zero {p : Int → Bool} : ∀ (j : Nat) (i : Int), fi p (fun _ => (0 : Int)) 0 j i = 0 := by
  intro j
  induction j with
  | zero => intro i; rfl
  | succ j ih => intro i; simp only [fi]; split
                 · rfl
                 · exact ih _
def cmT (n : Int) (x y : Int) : Bool := decide (¬ thr x y n = thr y x n)
def cmK (x y k : Int) : Bool := decide (¬ dg x (dg y k) = dg y (dg x k))
def cenV (n : Int) (g : Int → Int) (u x : Int) : Int := fi (fun t => cmT n x (g t)) (fun _ => 0) 1 u.toNat 0
theorem cm_all {x y n s : Int} (n2 : 2 ≤ n) (n6 : n ≤ 6) (hx : PM x n) (hy : PM y n) : fi (cmK x y) (fun _ => (0 : Int)) s n.toNat 0 = if cmT n x y = true then 0 else s := by
  by_cases h : thr x y n = thr y x n
  · rw [if_neg (by unfold cmT; simp [h])]
    refine fi_none n.toNat 0 (fun k k0 k1 => ?_)
    have e := congrArg (fun y => dg y k) h
    simp only [(thr_all (a := x) (b := y) (n := n) (by omega) (by omega)).2 k k0 (by omega), (thr_all (a := y) (b := x) (n := n) (by omega) (by omega)).2 k k0 (by omega)] at e
    unfold cmK
    simp [e]
  · rw [if_pos (by unfold cmT; simp [h])]
    have hex : ∃ k, 0 ≤ k ∧ k < n ∧ dg (thr x y n) k ≠ dg (thr y x n) k := Classical.byContradiction fun hn => h ((thr_pm (by omega) (by omega) hx hy).ext (by omega) (by omega) (thr_pm (by omega) (by omega) hy hx) fun k k0 k1 => Decidable.not_not.mp fun q => hn ⟨k, k0, k1, q⟩)
    obtain ⟨k, k0, k1, k2⟩ := hex
    rw [(thr_all (by omega) (by omega)).2 k k0 k1, (thr_all (by omega) (by omega)).2 k k0 k1] at k2
    exact fi_some n.toNat 0 k k0 (by omega) (by unfold cmK; simpa using Ne.symm k2)
section
variable {G : MG} {c : MC} {t T n u r : Int} {S : MC} {g : Int → Int} (d : Nat) (P : Int → MM → Prop)
theorem l_central18 (C : CBT G c r n S) (H : TLs G c t) (n6 : n ≤ 1000) (hw : S 0 0 ≤ 720) (hu : c t 4 = u) (u3 : u ≤ 3) (hg : ∀ i, 0 ≤ i → i < u → c (t + 3) i = g i) {a b : Int} (b0 : 0 ≤ b) (b1 : b < S 0 0) (hk : ∀ v, v = fi (fun t => cmT n (S 1 b) (g t)) (fun _ => 0) 1 u.toNat 0 → At (d + 4) mX4_central 4 [mR 11 r, mR 15 t, mI (w32 (a + v)), mI (b + 1), MU, MU] [] (G, c) (QI P)) : ∀ (j : Nat) (i : Int), 0 ≤ i → i + j = u → fi (fun t => cmT n (S 1 b) (g t)) (fun _ => (0 : Int)) 1 u.toNat 0 = fi (fun t => cmT n (S 1 b) (g t)) (fun _ => 0) 1 j i → At (d + 4) mX4_central 18 [mR 11 r, mR 15 t, mI a, mI b, mI 1, mI i] [] (G, c) (QI P) := by
  have hr := C.h.r; have hcw := C.w; have hn := H.n
  have wb : w32 (b + 1) = b + 1 := w32i (by omega) (by omega)
  intro j
  induction j with
  | zero =>
    intro i i0 hi he
    apply wp_X4_central_18
    rw [hu, if_neg (by omega), if_neg (by decide), wb]
    exact ⟨hn, hk 1 he.symm⟩
  | succ j ih =>
    intro i i0 hi he
    have wi : w32 (i + 1) = i + 1 := w32i (by omega) (by omega)
    simp only [fi] at he
    apply wp_X4_central_18
    rw [hu, if_pos (by omega), if_neg (by decide), C.h.p3, C.h.l1, (C.e b b0 b1).1, H.p8, H.g3, C.n, hg i i0 (by omega), q_X7_commuting _ _ _ _ _ _ n n6]
    refine ⟨by omega, by omega, ⟨by omega, by omega, by omega⟩, by omega, ⟨by omega, by omega, by omega⟩, by omega, ?_⟩
    by_cases h : thr (S 1 b) (g i) n = thr (g i) (S 1 b) n
    · rw [if_pos h, wi]
      rw [if_neg (by unfold cmT; simp [h])] at he
      exact ih _ (by omega) (by omega) he
    · rw [if_neg h, wi]
      rw [if_pos (by unfold cmT; simp [h])] at he
      dsimp only
      apply wp_X4_central_18
      rw [hu]
      refine ⟨by omega, ?_⟩
      split
      · rw [if_pos rfl, if_pos rfl, wb]
        exact hk 0 he.symm
      · rw [if_pos rfl, wb]
        exact hk 0 he.symm
theorem l_central (C : CBT G c r n S) (H : TLs G c t) (n6 : n ≤ 1000) (hw : S 0 0 ≤ 720) (hu : c t 4 = u) (u0 : 0 ≤ u) (u3 : u ≤ 3) (hg : ∀ i, 0 ≤ i → i < u → c (t + 3) i = g i) : ∀ (j : Nat) (i s : Int), 0 ≤ i → i + j = S 0 0 → P (fo (fun i s => w32 (s + cenV n g u (S 1 i))) j i s) (G, c) → At (d + 4) mX4_central 4 [mR 11 r, mR 15 t, mI s, mI i, MU, MU] [] (G, c) (QI P) := by
  have hr := C.h.r; have hcw := C.w
  intro j
  induction j with
  | zero =>
    intro i s i0 hi hP
    apply wp_X4_central_4
    rw [hcw, if_neg (by omega)]
    exact ⟨by omega, hP⟩
  | succ j ih =>
    intro i s i0 hi hP
    simp only [fo] at hP
    apply wp_X4_central_4
    rw [hcw, if_pos (by omega)]
    refine ⟨by omega, l_central18 d P C H n6 hw hu u3 hg i0 (by omega) (fun v hv => ?_) u.toNat 0 (by omega) (by omega) rfl⟩
    rw [hv]
    exact ih _ _ (by omega) (by omega) hP
theorem l_centre50 (M : MDs G c T) (Mb : MBT c n S) (hw : S 0 0 ≤ 720) (hn : c T 1 = n) (n2 : 2 ≤ n) (n6 : n ≤ 6) {a b i : Int} (i0 : 0 ≤ i) (i3 : i < 3) (hg : PM (g i) n) (hs : ∀ k, 0 ≤ k → k < n → sld c T i k = dg (g i) k) (b0 : 0 ≤ b) (b1 : b < S 0 0) (hb : PM (S 1 b) n) (K : Int → Prop) (hk : ∀ v, K v → At (d + 2) mX12_centre 35 [mR 18 62, mI a, mI b, mI v, mI (i + 1), MU] [] (G, c) (QI P)) : ∀ (j : Nat) (k s : Int), 0 ≤ k → k + j = n → K (fi (cmK (S 1 b) (g i)) (fun _ => (0 : Int)) s j k) → At (d + 2) mX12_centre 50 [mR 18 62, mI a, mI b, mI s, mI i, mI k] [] (G, c) (QI P) := by
  have hT := M.T
  have wi : w32 (i + 1) = i + 1 := w32i (by omega) (by omega)
  intro j
  induction j with
  | zero =>
    intro k s k0 hj hK
    apply wp_X12_centre_50
    rw [M.p3, hn, if_neg (by omega), wi]
    exact ⟨by omega, by omega, hk _ hK⟩
  | succ j ih =>
    intro k s k0 hj hK
    have wk : w32 (k + 1) = k + 1 := w32i (by omega) (by omega)
    have r1 := hg.rg k k0 (by omega)
    have r2 := hb.rg k k0 (by omega)
    simp only [fi] at hK
    apply wp_X12_centre_50
    rw [M.p3, hn, if_pos (by omega), wk]
    refine ⟨by omega, by omega, ?_⟩
    simp only [q_slid _ _ _ _ T M i k i0 (by omega) k0 (by omega), hs k k0 (by omega), q_comes _ _ _ _ T M b _ b0 (by omega) r1.1 (by omega), q_comes _ _ _ _ T M b _ b0 (by omega) k0 (by omega), Mb.e b _ b0 b1 k0 (show k < n by omega), Mb.e b _ b0 b1 r1.1 r1.2, q_slid _ _ _ _ T M i _ i0 (by omega) r2.1 (by omega), hs _ r2.1 r2.2]
    by_cases h : dg (S 1 b) (dg (g i) k) = dg (g i) (dg (S 1 b) k)
    · rw [if_pos h]
      rw [if_neg (by unfold cmK; simp [h])] at hK
      exact ih _ _ (by omega) (by omega) hK
    · rw [if_neg h]
      rw [if_pos (by unfold cmK; simp [h])] at hK
      exact ih _ _ (by omega) (by omega) (by rw [fi_zero]; exact hK)
theorem l_centre35 (M : MDs G c T) (Mb : MBT c n S) (hw : S 0 0 ≤ 720) (hn : c T 1 = n) (n2 : 2 ≤ n) (n6 : n ≤ 6) (hu : c T 4 = u) (u3 : u ≤ 3) (hg : ∀ i, 0 ≤ i → i < u → PM (g i) n) (hs : ∀ i k, 0 ≤ i → i < u → 0 ≤ k → k < n → sld c T i k = dg (g i) k) {a b : Int} (b0 : 0 ≤ b) (b1 : b < S 0 0) (hb : PM (S 1 b) n) (K : Int → Prop) (hk : ∀ v, K v → (v = 0 ∨ v = 1) → At (d + 2) mX12_centre 22 [mR 18 62, mI (w32 (a + v)), mI (b + 1), MU, MU, MU] [] (G, c) (QI P)) : ∀ (j : Nat) (i s : Int), 0 ≤ i → i + j = u → (s = 0 ∨ s = 1) → K (fi (fun t => cmT n (S 1 b) (g t)) (fun _ => (0 : Int)) s j i) → At (d + 2) mX12_centre 35 [mR 18 62, mI a, mI b, mI s, mI i, MU] [] (G, c) (QI P) := by
  have hT := M.T
  have wb : w32 (b + 1) = b + 1 := w32i (by omega) (by omega)
  intro j
  induction j with
  | zero =>
    intro i s i0 hj h01 hK
    apply wp_X12_centre_35
    rw [M.p3, hu, if_neg (by omega), wb]
    refine ⟨by omega, by omega, ?_⟩
    rcases h01 with rfl | rfl
    · rw [if_pos rfl]; exact hk _ hK (Or.inl rfl)
    · rw [if_neg (by decide)]; exact hk _ hK (Or.inr rfl)
  | succ j ih =>
    intro i s i0 hj h01 hK
    simp only [fi] at hK
    apply wp_X12_centre_35
    rw [M.p3, hu, if_pos (by omega)]
    refine ⟨by omega, by omega, ?_⟩
    refine l_centre50 d P M Mb hw hn n2 n6 i0 (by omega) (hg i i0 (by omega)) (fun k => hs i k i0 (by omega)) b0 b1 hb (fun v => v = fi (cmK (S 1 b) (g i)) (fun _ => (0 : Int)) s n.toNat 0) (fun v hv => ?_) n.toNat 0 s (by omega) (by omega) rfl
    rw [cm_all n2 n6 hb (hg i i0 (by omega))] at hv
    by_cases h : cmT n (S 1 b) (g i) = true
    · rw [if_pos h] at hv hK
      rw [hv]
      exact ih _ _ (by omega) (by omega) (Or.inl rfl) (by rw [fi_zero]; exact hK)
    · rw [if_neg h] at hv hK
      rw [hv]
      exact ih _ _ (by omega) (by omega) h01 hK
theorem l_centre (M : MDs G c T) (Mb : MBT c n S) (hw : S 0 0 ≤ 720) (hn : c T 1 = n) (n2 : 2 ≤ n) (n6 : n ≤ 6) (hu : c T 4 = u) (u0 : 0 ≤ u) (u3 : u ≤ 3) (hg : ∀ i, 0 ≤ i → i < u → PM (g i) n) (hs : ∀ i k, 0 ≤ i → i < u → 0 ≤ k → k < n → sld c T i k = dg (g i) k) (hb : ∀ b, 0 ≤ b → b < S 0 0 → PM (S 1 b) n) : ∀ (j : Nat) (i s : Int), 0 ≤ i → i + j = S 0 0 → P (fo (fun i s => w32 (s + cenV n g u (S 1 i))) j i s) (G, mtr c 0) → At (d + 2) mX12_centre 22 [mR 18 62, mI s, mI i, MU, MU, MU] [] (G, c) (QI P) := by
  intro j
  induction j with
  | zero =>
    intro i s i0 hi hP
    apply wp_X12_centre_22
    rw [Mb.w, if_neg (by omega), q_mgood]
    exact ⟨by omega, hP⟩
  | succ j ih =>
    intro i s i0 hi hP
    simp only [fo] at hP
    apply wp_X12_centre_22
    rw [Mb.w, if_pos (by omega)]
    refine ⟨by omega, ?_⟩
    refine l_centre35 d P M Mb hw hn n2 n6 hu u3 hg hs i0 (by omega) (hb i i0 (by omega)) (fun v => v = cenV n g u (S 1 i)) (fun v hv _ => ?_) u.toNat 0 1 (by omega) (by omega) (Or.inr rfl) rfl
    rw [hv]
    exact ih _ _ (by omega) (by omega) hP
end
theorem k_centre (d : Nat) (G : MG) (c : MC) (H : IV G c) : EvI (d + 40) mX10_centre [mR 16 0] (G, c) (fun r1 ν1 => EvI (d + 40) mX12_centre [mR 18 62] (ν1.1, ν1.2) (fun r2 ν2 => K2 G r1 r2 ν2)) := by
  obtain ⟨hr, t, z, S, V⟩ := H
  have H0 : IV0 G c := ⟨t, z, S, V⟩
  rcases V with V | ⟨T, n, m, u, q, w, x, s, ka, ki, g, V⟩
  · have I := S.ciN V
    have e1 := V.e1; have e3 := V.e3; have e4 := V.e4; have N := V.T
    have N1 : ∀ wy, up (up c 0 6 wy) 62 0 0 62 3 = -1 := fun wy => by rw [up_nj (by decide), up_na (by decide)]; exact N
    refine ev_X10_centre (d + 39) _ G c 0 (by decide) ?_
    simp only [z_isTube _ _ _ _ t I e1, z_isPerson _ _ _ _ t I _ e3, z_isSlot _ _ _ _ t I _ e1, z_isTurn _ _ _ _ t I _ e4, z_areTwo _ _ _ _ t I _ _ e3, z_isPlace _ _ _ _ t I _ e1, ↓reduceIte, q_refused]
    refine ev_X12_centre (d + 39) _ G _ 62 (by decide) ⟨by decide, ?_⟩
    rintro _ rfl
    simp only [q_nisSlot _ _ _ _ (N1 _), q_nisPerson _ _ _ _ (N1 _), q_nisTurn _ _ _ _ (N1 _), q_nareTwo _ _ _ _ (N1 _), q_nisPlace _ _ _ _ (N1 _), N1, ↓reduceIte, q_mrefused, Int.reduceNeg, Int.reduceLT, Int.reduceLE, true_and]
    exact ⟨rfl, rfl, IV.q H0 (by decide) (agr_0 _)⟩
  · have I := S.ciT V
    have M := V.M; have hT := M.T; have ht := V.t
    have v1 := V.v1; have v3 := V.v3; have v4 := V.v4; have e0 := V.e0; have e1 := V.e1; have e3 := V.e3; have e4 := V.e4; have e5 := V.e5
    have b0 := M.b0; have b1 := M.b1; have b3 := M.b3; have b4 := M.b4
    rw [v1] at b1; rw [v3] at b3; rw [v4] at b4
    have hnp : 0 < n := by omega
    have hTn : ¬ T < 0 := by omega
    have M1 : ∀ wy, MDs G (up (up c 0 6 wy) 62 0 0) T := fun wy => (M.ki ki_up7).agr (agr_0 _)
    have r64 : ∀ wy, up (up c 0 6 wy) 62 0 0 64 = c 64 := fun wy => by funext j; rw [up_na (by decide), up_na (by decide)]
    have rT : ∀ wy k, up (up c 0 6 wy) 62 0 0 T k = c T k := fun wy k => by rw [up_na (by omega), up_na (by omega)]
    have rTT : ∀ wy (a : Int), 0 ≤ a → up (up c 0 6 wy) 62 0 0 (T + a) = c (T + a) := fun wy a ha => by funext j; rw [up_na (by omega), up_na (by omega)]
    have rS : ∀ wy a b, sld (up (up c 0 6 wy) 62 0 0) T a b = sld c T a b := fun wy a b => sld_eq (fun a j q => by rw [up_na (by omega), up_na (by omega)]) hT
    have hS : ∀ a b, 0 ≤ a → a < u → 0 ≤ b → b < n → sld c T a b = dg (g a) b := fun a b h1 h2 h3 h4 => by unfold sld; rw [v4, if_pos h2]; exact V.tk a b h1 h2 h3 h4
    have V1 : ∀ wy, TV G (up (up c 0 6 wy) 62 0 0) t T n m u q w x s ka ki g := fun wy => (V.kp ki_up7).kp (ki_agr (agr_0 _))
    skip
    refine ev_X10_centre (d + 39) _ G c 0 (by decide) ?_
    simp only [q_isTube _ _ _ _ t I, q_isPerson _ _ _ _ t I, q_isSlot _ _ _ _ t I, q_isTurn _ _ _ _ t I, q_areTwo _ _ _ _ t I, q_isPlace _ _ _ _ t I, e0, e1, e3, e4, hnp, ↓reduceIte]
    refine f_reached _ _ V S (fun c V S C f => ?_)
    have H0 : IV0 G c := ⟨t, z, S, Or.inr ⟨T, n, m, u, q, w, x, s, ka, ki, g, V⟩⟩
    have I := S.ciT V
    have M := V.M; have hT := M.T; have ht := V.t
    have v1 := V.v1; have v3 := V.v3; have v4 := V.v4; have e0 := V.e0; have e1 := V.e1; have e3 := V.e3; have e4 := V.e4; have e5 := V.e5
    have b0 := M.b0; have b1 := M.b1; have b3 := M.b3; have b4 := M.b4
    rw [v1] at b1; rw [v3] at b3; rw [v4] at b4
    have hnp : 0 < n := by omega
    have hTn : ¬ T < 0 := by omega
    have M1 : ∀ wy, MDs G (up (up c 0 6 wy) 62 0 0) T := fun wy => (M.ki ki_up7).agr (agr_0 _)
    have r64 : ∀ wy, up (up c 0 6 wy) 62 0 0 64 = c 64 := fun wy => by funext j; rw [up_na (by decide), up_na (by decide)]
    have rT : ∀ wy k, up (up c 0 6 wy) 62 0 0 T k = c T k := fun wy k => by rw [up_na (by omega), up_na (by omega)]
    have rTT : ∀ wy (a : Int), 0 ≤ a → up (up c 0 6 wy) 62 0 0 (T + a) = c (T + a) := fun wy a ha => by funext j; rw [up_na (by omega), up_na (by omega)]
    have rS : ∀ wy a b, sld (up (up c 0 6 wy) 62 0 0) T a b = sld c T a b := fun wy a b => sld_eq (fun a j q => by rw [up_na (by omega), up_na (by omega)]) hT
    have hS : ∀ a b, 0 ≤ a → a < u → 0 ≤ b → b < n → sld c T a b = dg (g a) b := fun a b h1 h2 h3 h4 => by unfold sld; rw [v4, if_pos h2]; exact V.tk a b h1 h2 h3 h4
    have V1 : ∀ wy, TV G (up (up c 0 6 wy) 62 0 0) t T n m u q w x s ka ki g := fun wy => (V.kp ki_up7).kp (ki_agr (agr_0 _))
    obtain ⟨B, w1, s0, Cl⟩ := tv_bfs V
    have hw := B.w
    refine And.intro (by omega) ?_
    dsimp only
    rw [I.p0]
    have hb : ∀ b, 0 ≤ b → b < bfs n g u 0 0 → PM (bfs n g u 1 b) n := fun b b0 b1 => (B.2.1 b b0 b1).1
    refine ev_X4_central (d + 38) _ G c 45 t (by decide) (l_central (d + 35) _ C I.H (by omega) (by omega) e4 (by omega) (by omega) V.g (bfs n g u 0 0).toNat 0 0 (by omega) (by omega) ?_)
    simp only [q_fine]
    refine ev_X12_centre (d + 39) _ G _ 62 (by decide) ⟨by decide, ?_⟩
    rintro _ rfl
    simp only [q_misSlot _ _ _ _ T (M1 _), q_misPerson _ _ _ _ T (M1 _), q_misTurn _ _ _ _ T (M1 _), q_mareTwo _ _ _ _ T (M1 _), q_misPlace _ _ _ _ T (M1 _), (M1 _).p3, hTn, rT, v1, v3, v4, ↓reduceIte, Int.reduceLE, true_and]
    refine l_centre (u := u) (d + 38) _ (M1 _) (V1 _).B (by omega) (by rw [rT]; exact v1) (by omega) (by omega) (by rw [rT]; exact v4) (by omega) (by omega) V.gp (fun i k => by rw [rS]; exact hS i k) hb (bfs n g u 0 0).toNat 0 0 (by omega) (by omega) ?_
    exact ⟨rfl, rfl, IV.q H0 (by decide) (agr_0 _)⟩
