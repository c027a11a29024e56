theorem up_up {c : MC} {a j v v' : Int} : up (up c a j v) a j v' = up c a j v' := by
  funext x y
  unfold up
  split <;> rfl
def sdN (s : Int) : Int := (75 * s + 74) % 65537
theorem sdN_rg (s : Int) : 0 ≤ sdN s ∧ sdN s ≤ 65536 := by unfold sdN; omega
def shS (g : Int → Int) (u m sh : Int) (r : Int × Int) : Int × Int := if sdN r.2 % 100 < sh then (thr r.1 (g (sdN (sdN r.2) % u)) m, sdN (sdN r.2)) else (r.1, sdN r.2)
theorem shS_rg {g : Int → Int} {u m sh : Int} {r : Int × Int} : 0 ≤ (shS g u m sh r).2 ∧ (shS g u m sh r).2 ≤ 65536 := by unfold shS; split <;> exact sdN_rg _
section
variable {G : MG} {c : MC} {t z T n m u q w x s ka ki : Int} {g : Int → Int} (d : Nat) (P : Int → MM → Prop)
theorem shS_dg (V : TV G c t T n m u q w x s ka ki g) {sh : Int} {r : Int × Int} (hr : ∀ p, 0 ≤ p → p < m → 0 ≤ dg r.1 p ∧ dg r.1 p < n) : ∀ p, 0 ≤ p → p < m → 0 ≤ dg (shS g u m sh r).1 p ∧ dg (shS g u m sh r).1 p < n := by
  have b4 := V.M.b4; rw [V.v4] at b4
  have b3 := V.M.b3; rw [V.v3] at b3
  intro p p0 p1
  unfold shS
  split
  · show 0 ≤ dg (thr r.1 (g (sdN (sdN r.2) % u)) m) p ∧ _
    have h1 := Int.emod_nonneg (sdN (sdN r.2)) (show u ≠ 0 by omega)
    have h2 := Int.emod_lt_of_pos (sdN (sdN r.2)) (show 0 < u by omega)
    have h3 := hr p p0 p1
    show 0 ≤ dg (thr r.1 (g (sdN (sdN r.2) % u)) m) p ∧ dg (thr r.1 (g (sdN (sdN r.2) % u)) m) p < n
    rw [(thr_all (by omega) (by omega)).2 p p0 p1]
    exact (V.gp _ h1 h2).rg _ h3.1 h3.2
  · exact hr p p0 p1
theorem q_draw (s0 : 0 ≤ c 59 3) (s1 : c 59 3 ≤ 65536) : EvI (d + 1) mX6_draw [mR 13 59] (G, c) P = P (sdN (c 59 3)) (G, up c 59 3 (sdN (c 59 3))) := evI_eq (ev_X6_draw d _ G c 59 (by decide) (by
  rw [w32i (x := 75 * c 59 3) (by omega) (by omega), w32i (by omega) (by omega), o_rem_of (by omega) (by omega) (by omega) (by omega)]
  refine ⟨by decide, by decide, by decide, ?_⟩
  rintro _ rfl
  refine ⟨by decide, ?_, rfl⟩
  rw [up_eq]
  rfl)) P
theorem q_drawn (V : TV G c t T n m u q w x s ka ki g) (I : CI G c t) (st sd : Int) (s0 : 0 ≤ sd) (s1 : sd ≤ 65536) : EvI (d + 3) mX6_drawnShake [mR 13 59, mR 15 t, mI st] (G, up c 59 3 sd) P = P (shS g u m (c T 2) (st, sd)).1 (G, up c 59 3 (shS g u m (c T 2) (st, sd)).2) := by
  have b4 := V.M.b4; rw [V.v4] at b4
  have b3 := V.M.b3; rw [V.v3] at b3
  have ht := V.t
  have k1 := sdN_rg sd
  have k2 := sdN_rg (sdN sd)
  have r : ∀ v j, up c 59 3 v t j = c t j := fun v j => up_na (by omega)
  have r3 : ∀ v j, up c 59 3 v (t + 3) j = c (t + 3) j := fun v j => up_na (by omega)
  have h1 := Int.emod_nonneg (sdN (sdN sd)) (show u ≠ 0 by omega)
  have h2 := Int.emod_lt_of_pos (sdN (sdN sd)) (show 0 < u by omega)
  have e1 : o_rem (sdN sd) 100 = sdN sd % 100 := o_rem_of k1.1 (by omega) (by omega) (by omega)
  have e2 : o_rem (sdN (sdN sd)) u = sdN (sdN sd) % u := o_rem_of k2.1 (by omega) (by omega) (by omega)
  refine evI_eq (ev_X6_drawnShake (d + 2) _ G _ 59 t st (by decide) ?_) P
  rw [r, V.e4, if_neg (by omega), q_draw _ _ (by rw [up_eq]; exact s0) (by rw [up_eq]; exact s1), up_eq, up_up]
  simp only [r, V.e2, e1]
  refine ⟨by omega, by decide, by omega, ?_⟩
  unfold shS
  dsimp only
  by_cases h : sdN sd % 100 < c T 2
  · rw [if_pos h, if_pos h, q_draw _ _ (by rw [up_eq]; exact k1.1) (by rw [up_eq]; exact k1.2), up_eq, up_up]
    simp only [r, V.e4, e2, I.H.p8, I.H.g3, r3, V.e3, V.g _ h1 h2, q_X7_through _ _ _ _ _ _ m (show m ≤ 1000 by omega)]
    exact ⟨by omega, by omega, by omega, ⟨by omega, by omega, by omega⟩, by omega, by first | trivial | exact ⟨rfl, rfl⟩⟩
  · rw [if_neg h, if_neg h]
    exact ⟨rfl, rfl⟩
theorem f_aShake (V : TV G c t T n m u q w x s ka ki g) {c0 : MC} (A : Agr c c0) (Q : MM → Prop) (st sd : Int) (s0 : 0 ≤ sd) (s1 : sd ≤ 65536) (hr : ∀ p, 0 ≤ p → p < m → 0 ≤ dg st p ∧ dg st p < n) (h65 : ∀ p, 0 ≤ p → p < m → c0 65 p = dg st p) (h39 : c0 62 39 = sd) (hQ : ∀ c', Agr c c' → (∀ p, 0 ≤ p → p < m → c' 65 p = dg (shS g u m (c T 2) (st, sd)).1 p) → c' 62 39 = (shS g u m (c T 2) (st, sd)).2 → Q (G, c')) : EvV (d + 2) mX12_aShake [mR 18 62] (G, c0) Q := by
  have b4 := V.M.b4; rw [V.v4] at b4
  have b3 := V.M.b3; rw [V.v3] at b3
  have b1 := V.M.b1; rw [V.v1] at b1
  have hT := V.M.T
  have M0 := V.M.agr A
  have k1 := sdN_rg sd
  have k2 := sdN_rg (sdN sd)
  have eT : ∀ j, c0 T j = c T j := fun j => A T j (by unfold scr; omega)
  have step : ∀ y, 0 ≤ y → y ≤ 65536 → w32 (o_lrem (w64 (w64 (75 * y) + 74)) 65537) = sdN y := fun y y0 y1 => by
    rw [w64i (x := 75 * y) (by omega) (by omega), w64i (by omega) (by omega), o_lrem_of (by omega) (by omega) (by omega) (by omega), w32i (by omega) (by omega)]
    rfl
  have h1 := Int.emod_nonneg (sdN (sdN sd)) (show u ≠ 0 by omega)
  have h2 := Int.emod_lt_of_pos (sdN (sdN sd)) (show 0 < u by omega)
  have e1 : o_rem (sdN sd) 100 = sdN sd % 100 := o_rem_of k1.1 (by omega) (by omega) (by omega)
  have e2 : o_rem (sdN (sdN sd)) u = sdN (sdN sd) % u := o_rem_of k2.1 (by omega) (by omega) (by omega)
  refine ev_X12_aShake (d + 1) _ G c0 62 (by decide) ?_
  rw [h39, step sd s0 s1]
  refine ⟨by decide, by decide, by decide, ?_⟩
  rintro _ rfl
  rw [up_eq, up_nj (by decide), M0.p3, up_na (by omega), eT, e1]
  refine ⟨by decide, by decide, by decide, by omega, ?_⟩
  have A1 : Agr c (up c0 62 39 (sdN sd)) := A.u (by unfold scr; omega)
  unfold shS at hQ
  dsimp only at hQ
  by_cases h : sdN sd % 100 < c T 2
  · rw [if_pos h] at hQ ⊢
    rw [step _ k1.1 k1.2, up_up]
    refine ⟨by decide, by decide, by decide, ?_⟩
    rintro _ rfl
    have A2 : Agr c (up c0 62 39 (sdN (sdN sd))) := A.u (by unfold scr; omega)
    generalize hc2 : up c0 62 39 (sdN (sdN sd)) = c2 at *
    have h39' : c2 62 39 = sdN (sdN sd) := by rw [← hc2, up_eq]
    have h65' : ∀ p, 0 ≤ p → p < m → c2 65 p = dg st p := fun p p0 p1 => by rw [← hc2, up_na (by decide)]; exact h65 p p0 p1
    have lp : ∀ (j : Nat) (i : Int), 0 ≤ i → i + j = m → At (d + 1 + 1) mX12_aShake 64 [mR 18 62, mI i] [] (G, wr c2 65 0 i (fun p => dg (g (sdN (sdN sd) % u)) (dg st p))) (QV Q) := by
      intro j
      induction j with
      | zero =>
        intro i i0 hi
        have A3 : Agr c (wr c2 65 0 i (fun p => dg (g (sdN (sdN sd) % u)) (dg st p))) := A2.w (by intro j; unfold scr; omega)
        have M3 := V.M.agr A3
        apply wp_X12_aShake_64
        rw [M3.p3, A3 T 3 (by unfold scr; omega), V.v3, if_neg (by omega)]
        refine ⟨by decide, by omega, hQ _ A3 (fun p p0 p1 => ?_) ?_⟩
        · rw [wr_in p0 (by omega), (thr_all (by omega) (by omega)).2 p p0 p1]
        · rw [wr_ne (by decide)]; exact h39'
      | succ j ih =>
        intro i i0 hi
        have A3 : Agr c (wr c2 65 0 i (fun p => dg (g (sdN (sdN sd) % u)) (dg st p))) := A2.w (by intro j; unfold scr; omega)
        have M3 := V.M.agr A3
        have wi : w32 (i + 1) = i + 1 := w32i (by omega) (by omega)
        have hri := hr i i0 (by omega)
        have e39 : wr c2 65 0 i (fun p => dg (g (sdN (sdN sd) % u)) (dg st p)) 62 39 = sdN (sdN sd) := by rw [wr_ne (by decide)]; exact h39'
        have e65 : wr c2 65 0 i (fun p => dg (g (sdN (sdN sd) % u)) (dg st p)) 65 i = dg st i := by rw [wr_out (by omega)]; exact h65' i i0 (by omega)
        have eT4 : wr c2 65 0 i (fun p => dg (g (sdN (sdN sd) % u)) (dg st p)) T 4 = u := by rw [A3 T 4 (by unfold scr; omega)]; exact V.v4
        have eT3 : wr c2 65 0 i (fun p => dg (g (sdN (sdN sd) % u)) (dg st p)) T 3 = m := by rw [A3 T 3 (by unfold scr; omega)]; exact V.v3
        have esl : sld (wr c2 65 0 i (fun p => dg (g (sdN (sdN sd) % u)) (dg st p))) T (sdN (sdN sd) % u) (dg st i) = dg (g (sdN (sdN sd) % u)) (dg st i) := by
          unfold sld
          rw [eT4, if_pos h2, A3 (T + 4) _ (by unfold scr; omega)]
          exact V.tk _ _ h1 h2 hri.1 hri.2
        apply wp_X12_aShake_64
        simp only [M3.p3, eT3, eT4, e39, e2, M3.p17, M3.l65, e65, q_slid _ _ _ _ T M3 (sdN (sdN sd) % u) (dg st i) h1 (by omega) hri.1 (by omega), esl, wi]
        rw [if_pos (by omega)]
        refine ⟨by decide, by omega, by decide, by decide, by decide, by omega, by omega, by decide, ⟨by omega, by omega, by omega⟩, ⟨by omega, by omega, by omega⟩, ?_⟩
        rintro _ rfl
        rw [wr_up i0 (by omega) rfl]
        exact ih _ (by omega) (by omega)
    have := lp m.toNat 0 (by omega) (by omega)
    rw [wr_zero (by omega)] at this
    exact this
  · rw [if_neg h] at hQ ⊢
    exact hQ _ A1 (fun p p0 p1 => by rw [up_na (by decide)]; exact h65 p p0 p1) up_eq
theorem l_cshaken (V : TV G c t T n m u q w x s ka ki g) (I : CI G c t) (a k : Int) (k60 : k ≤ 60) : ∀ (j : Nat) (i : Int) (r : Int × Int), 0 ≤ i → i + j = k → 0 ≤ r.2 → r.2 ≤ 65536 → (∀ f : Int × Int, f = fo (fun _ r => shS g u m (c T 2) r) j i r → P (dg f.1 a) (G, up (up c 59 3 f.2) 0 6 0)) → At (d + 4) mX10_shaken 57 [mR 16 0, mI a, MU, mI k, mI r.1, mI i] [] (G, up c 59 3 r.2) (QI P) := by
  intro j
  induction j with
  | zero =>
    intro i r i0 hi r0 r1 hP
    apply wp_X10_shaken_57
    rw [if_neg (by omega)]
    simp only [q_X7_at, q_fine]
    exact hP r rfl
  | succ j ih =>
    intro i r i0 hi r0 r1 hP
    have wi : w32 (i + 1) = i + 1 := w32i (by omega) (by omega)
    have hs := shS_rg (g := g) (u := u) (m := m) (sh := c T 2) (r := r)
    apply wp_X10_shaken_57
    rw [if_pos (by omega), up_na (by decide), up_na (by decide), I.p6, I.p0, q_drawn d _ V I _ _ r0 r1, wi]
    exact ⟨by decide, by decide, ih _ _ (by omega) (by omega) hs.1 hs.2 hP⟩
theorem l_mshaken (V : TV G c t T n m u q w x s ka ki g) (a k : Int) (a0 : 0 ≤ a) (a1 : a < m) (k60 : k ≤ 60) : ∀ (j : Nat) (i : Int) (r : Int × Int) (c0 : MC), 0 ≤ i → i + j = k → 0 ≤ r.2 → r.2 ≤ 65536 → Agr c c0 → (∀ p, 0 ≤ p → p < m → 0 ≤ dg r.1 p ∧ dg r.1 p < n) → (∀ p, 0 ≤ p → p < m → c0 65 p = dg r.1 p) → c0 62 39 = r.2 → (∀ c', Agr c c' → P (dg (fo (fun _ r => shS g u m (c T 2) r) j i r).1 a) (G, mtr c' 0)) → At (d + 3) mX12_shaken 42 [mR 18 62, mI a, MU, mI k, MU, mI i] [] (G, c0) (QI P) := by
  have b3 := V.M.b3; rw [V.v3] at b3
  intro j
  induction j with
  | zero =>
    intro i r c0 i0 hi r0 r1 A hr h65 h39 hP
    have M0 := V.M.agr A
    apply wp_X12_shaken_42
    rw [if_neg (by omega), M0.p17, M0.l65, h65 a a0 a1]
    simp only [q_mgood]
    exact ⟨by decide, ⟨by omega, by omega, by omega⟩, hP c0 A⟩
  | succ j ih =>
    intro i r c0 i0 hi r0 r1 A hr h65 h39 hP
    have wi : w32 (i + 1) = i + 1 := w32i (by omega) (by omega)
    have hs := shS_rg (g := g) (u := u) (m := m) (sh := c T 2) (r := r)
    apply wp_X12_shaken_42
    rw [if_pos (by omega), wi]
    exact f_aShake d V A _ r.1 r.2 r0 r1 hr h65 h39 (fun c' A' h65' h39' => ih _ (shS g u m (c T 2) r) c' (by omega) (by omega) hs.1 hs.2 A' (shS_dg V hr) h65' h39' hP)
def pcF (Q : Int → Int) (F : Int × Int → Int × Int) : Nat → Int → Int × Int → Int
  | 0, _, _ => -2
  | j + 1, i, r => if Q r.1 = 0 then i else pcF Q F j (i + 1) (F r)
theorem l_cpeace (V : TV G c t T n m u q w x s ka ki g) (S : SH G c t z) (k : Int) (k60 : k ≤ 60) : ∀ (j : Nat) (i : Int) (r : Int × Int), 0 ≤ i → i + j = k + 1 → 0 ≤ r.2 → r.2 ≤ 65536 → (∀ sd, P (pcF (fun st => pop (hld c (t + 6) st)) (shS g u m (c T 2)) j i r) (G, up (up c 59 3 sd) 0 6 0)) → At (d + 4) mX10_peaceIn 55 [mR 16 0, MU, mI k, mI r.1, mI i] [] (G, up c 59 3 r.2) (QI P) := by
  intro j
  have ht := V.t
  have I := S.ciT V
  have kiu : ∀ v, ∀ a j, KI a j → up c 59 3 v a j = c a j := fun v a j h => by rw [up_o (by unfold KI at h; omega)]
  induction j with
  | zero =>
    intro i r i0 hi r0 r1 hP
    apply wp_X10_peaceIn_55
    rw [if_pos (by omega), q_fine]
    exact hP r.2
  | succ j ih =>
    intro i r i0 hi r0 r1 hP
    have wi : w32 (i + 1) = i + 1 := w32i (by omega) (by omega)
    have hs := shS_rg (g := g) (u := u) (m := m) (sh := c T 2) (r := r)
    have I' : CI G (up c 59 3 r.2) t := (S.kp (kiu r.2)).ciT (V.kp (kiu r.2))
    have eh : hld (up c 59 3 r.2) (t + 6) r.1 = hld c (t + 6) r.1 := by
      unfold hld
      simp only [up_na (show t + 6 ≠ 59 by omega), up_na (show t + 6 + 1 ≠ 59 by omega), up_na (show t + 6 + 2 ≠ 59 by omega), up_na (show t + 6 + 3 ≠ 59 by omega)]
    simp only [pcF] at hP
    apply wp_X10_peaceIn_55
    rw [if_neg (by omega), q_quarrelsBy _ _ _ _ t I', eh]
    by_cases h : pop (hld c (t + 6) r.1) = 0
    · rw [if_pos h, q_fine]
      rw [if_pos h] at hP
      exact hP r.2
    · rw [if_neg h]
      rw [if_neg h] at hP
      dsimp only
      rw [up_na (by decide), up_na (by decide), I.p6, I.p0, q_drawn d _ V I _ _ r0 r1, wi]
      exact ⟨by decide, by decide, ih _ _ (by omega) (by omega) hs.1 hs.2 hP⟩
theorem tv_qst (V : TV G c t T n m u q w x s ka ki g) (xf : Int → Int) (st : Int) (h : ∀ p, 0 ≤ p → p < m → xf p = dg st p) : qrl xf (c (T + 3)) m = pop (hld c (t + 6) st) := by
  have b5 := V.M.b5; rw [V.v5] at b5
  rw [tv_qrl V, hld_bs, V.eq]
  rw [(bs_all _ (n := q) (by omega) (by omega)).2.1]
  apply cnt_congr
  intro k k0 k1
  have := V.qu k k0 k1
  rw [h _ this.1.1 this.1.2, h _ this.2.1.1 this.2.1.2, this.2.2.2]
  rcases bes01 (dg st (c (t + 6 + 1) k)) (dg st (c (t + 6 + 2) k)) with e | e <;> rw [e] <;> decide
theorem l_mpeace (V : TV G c t T n m u q w x s ka ki g) (k : Int) (k60 : k ≤ 60) : ∀ (j : Nat) (i : Int) (r : Int × Int) (c0 : MC), 0 ≤ i → i + j = k + 1 → 0 ≤ r.2 → r.2 ≤ 65536 → Agr c c0 → (∀ p, 0 ≤ p → p < m → 0 ≤ dg r.1 p ∧ dg r.1 p < n) → (∀ p, 0 ≤ p → p < m → c0 65 p = dg r.1 p) → c0 62 39 = r.2 → (∀ c', Agr c c' → P (pcF (fun st => pop (hld c (t + 6) st)) (shS g u m (c T 2)) j i r) (G, mtr c' 0)) → At (d + 4) mX12_peaceIn 46 [mR 18 62, MU, mI k, MU, mI i] [] (G, c0) (QI P) := by
  have b3 := V.M.b3; rw [V.v3] at b3
  have hT := V.M.T
  intro j
  induction j with
  | zero =>
    intro i r c0 i0 hi r0 r1 A hr h65 h39 hP
    apply wp_X12_peaceIn_46
    rw [if_pos (by omega), q_mgood]
    exact hP c0 A
  | succ j ih =>
    intro i r c0 i0 hi r0 r1 A hr h65 h39 hP
    have M0 := V.M.agr A
    have V0 : TV G c0 t T n m u q w x s ka ki g := V.kp (ki_agr A)
    have wi : w32 (i + 1) = i + 1 := w32i (by omega) (by omega)
    have hs := shS_rg (g := g) (u := u) (m := m) (sh := c T 2) (r := r)
    have ht := V.t
    have eh : ∀ st, hld c0 (t + 6) st = hld c (t + 6) st := fun st => by
      have r : ∀ x j, 1 ≤ x → x ≤ 41 → c0 x j = c x j := fun x j p q => A x j (by unfold scr; omega)
      unfold hld
      simp only [r (t + 6) _ (by omega) (by omega), r (t + 6 + 1) _ (by omega) (by omega), r (t + 6 + 2) _ (by omega) (by omega), r (t + 6 + 3) _ (by omega) (by omega)]
    simp only [pcF] at hP
    apply wp_X12_peaceIn_46
    rw [if_neg (by omega), q_quarrelsNow _ _ _ _ T M0 (fun p a b => by rw [V0.v3] at *; have := V0.foeb (c0 65) p a b; omega), V0.v3, tv_qst V0 _ r.1 h65, eh]
    by_cases h : pop (hld c (t + 6) r.1) = 0
    · rw [if_pos h, q_mgood]
      rw [if_pos h] at hP
      exact hP c0 A
    · rw [if_neg h, wi]
      rw [if_neg h] at hP
      exact f_aShake (d + 1) V A _ r.1 r.2 r0 r1 hr h65 h39 (fun c' A' h65' h39' => ih _ (shS g u m (c T 2) r) c' (by omega) (by omega) hs.1 hs.2 A' (shS_dg V hr) h65' h39' hP)
theorem q_seed (a b k : Int) : EvI (d + 2) mX12_refusesSeed [mR 18 62, mI a, mI b, mI k] (G, c) P = P (if a = 0 then 1 else if 0 ≤ b ∧ b ≤ 65536 then (if 0 ≤ k ∧ k ≤ 60 then 0 else 2) else 2) (G, c) := evI_eq (ev_X12_refusesSeed (d + 1) _ G c 62 a b k (by decide) (by
  simp only [q_min]
  by_cases h1 : a = 0
  · rw [if_pos h1, if_pos h1]; exact ⟨by first | rfl | trivial, by first | rfl | trivial⟩
  · rw [if_neg h1, if_neg h1]
    by_cases h2 : 0 ≤ b ∧ b ≤ 65536
    · simp only [if_pos h2, if_neg (show ¬ (1 : Int) = 0 by decide)]
      by_cases h3 : 0 ≤ k ∧ k ≤ 60
      · simp only [if_pos h3, if_neg (show ¬ (1 : Int) = 0 by decide)]; exact ⟨trivial, trivial⟩
      · simp only [if_neg h3, ↓reduceIte]; exact ⟨trivial, trivial⟩
    · simp only [if_neg h2, ↓reduceIte]; exact ⟨trivial, trivial⟩)) P
end
theorem k_shaken (d : Nat) (G : MG) (c : MC) (a b k : Int) (H : IV G c) : EvI (d + 40) mX10_shaken [mR 16 0, mI a, mI b, mI k] (G, c) (fun r1 ν1 => EvI (d + 40) mX12_shaken [mR 18 62, mI a, mI b, mI k] (ν1.1, ν1.2) (fun r2 ν2 => K2 G r1 r2 ν2)) := by
  obtain ⟨hr, t, z, S, V⟩ := H
  have H0 : IV0 G c := ⟨t, z, S, V⟩
  rcases V with V | ⟨T, n, m, u, q, w, x, s, ka, ki, g, V⟩
  · have I := S.ciN V
    have e1 := V.e1; have e3 := V.e3; have e4 := V.e4; have N := V.T
    have N1 : ∀ wy, up (up c 0 6 wy) 62 0 0 62 3 = -1 := fun wy => by rw [up_nj (by decide), up_na (by decide)]; exact N
    refine ev_X10_shaken (d + 39) _ G c 0 a b k (by decide) ?_
    simp only [z_isTube _ _ _ _ t I e1, z_isPerson _ _ _ _ t I _ e3, z_isSlot _ _ _ _ t I _ e1, z_isTurn _ _ _ _ t I _ e4, z_areTwo _ _ _ _ t I _ _ e3, z_isPlace _ _ _ _ t I _ e1, ↓reduceIte, q_refused]
    refine ev_X12_shaken (d + 39) _ G _ 62 a b k (by decide) ⟨by decide, ?_⟩
    rintro _ rfl
    simp only [q_nisSlot _ _ _ _ (N1 _), q_nisPerson _ _ _ _ (N1 _), q_nisTurn _ _ _ _ (N1 _), q_nareTwo _ _ _ _ (N1 _), q_nisPlace _ _ _ _ (N1 _), N1, ↓reduceIte, q_mrefused, Int.reduceNeg, Int.reduceLT, Int.reduceLE, true_and, q_seed, Int.reduceLT]
    exact ⟨rfl, rfl, IV.q H0 (by decide) (agr_0 _)⟩
  · have I := S.ciT V
    have M := V.M; have hT := M.T; have ht := V.t
    have v1 := V.v1; have v3 := V.v3; have v4 := V.v4; have e0 := V.e0; have e1 := V.e1; have e3 := V.e3; have e4 := V.e4; have e5 := V.e5
    have b0 := M.b0; have b1 := M.b1; have b3 := M.b3; have b4 := M.b4
    rw [v1] at b1; rw [v3] at b3; rw [v4] at b4
    have hnp : 0 < n := by omega
    have hTn : ¬ T < 0 := by omega
    have M1 : ∀ wy, MDs G (up (up c 0 6 wy) 62 0 0) T := fun wy => (M.ki ki_up7).agr (agr_0 _)
    have r64 : ∀ wy, up (up c 0 6 wy) 62 0 0 64 = c 64 := fun wy => by funext j; rw [up_na (by decide), up_na (by decide)]
    have rT : ∀ wy k, up (up c 0 6 wy) 62 0 0 T k = c T k := fun wy k => by rw [up_na (by omega), up_na (by omega)]
    have rTT : ∀ wy (a : Int), 0 ≤ a → up (up c 0 6 wy) 62 0 0 (T + a) = c (T + a) := fun wy a ha => by funext j; rw [up_na (by omega), up_na (by omega)]
    have rS : ∀ wy a b, sld (up (up c 0 6 wy) 62 0 0) T a b = sld c T a b := fun wy a b => sld_eq (fun a j q => by rw [up_na (by omega), up_na (by omega)]) hT
    have hS : ∀ a b, 0 ≤ a → a < u → 0 ≤ b → b < n → sld c T a b = dg (g a) b := fun a b h1 h2 h3 h4 => by unfold sld; rw [v4, if_pos h2]; exact V.tk a b h1 h2 h3 h4
    have V1 : ∀ wy, TV G (up (up c 0 6 wy) 62 0 0) t T n m u q w x s ka ki g := fun wy => (V.kp ki_up7).kp (ki_agr (agr_0 _))
    skip
    refine ev_X10_shaken (d + 39) _ G c 0 a b k (by decide) ?_
    simp only [q_isTube _ _ _ _ t I, q_isPerson _ _ _ _ t I, q_isSlot _ _ _ _ t I, q_isTurn _ _ _ _ t I, q_areTwo _ _ _ _ t I, q_isPlace _ _ _ _ t I, e0, e1, e3, e4, hnp, ↓reduceIte]
    by_cases h1 : 0 ≤ a ∧ a < m
    · by_cases h2 : 0 ≤ b ∧ b ≤ 65536
      · by_cases h3 : 0 ≤ k ∧ k ≤ 60
        · have hc1 : ¬ k < 0 := by omega
          have hc2 : ¬ 60 < k := by omega
          simp only [q_isSeed, h1, h2, hc1, hc2, and_self, ↓reduceIte, I.p6, I.p3]
          refine ⟨by decide, by decide, by decide, by decide, ?_⟩
          rintro _ rfl
          have kiu : ∀ v, ∀ a j, KI a j → up c 59 3 v a j = c a j := fun v a j h => by rw [up_o (by unfold KI at h; omega)]
          have vsd : ∀ p, 0 ≤ p → p < m → 0 ≤ dg (c 42 0) p ∧ dg (c 42 0) p < n := fun p p0 p1 => by rw [(V.sv p p0 p1).1]; exact (V.sv p p0 p1).2
          refine l_cshaken (d + 36) _ V I a k h3.2 k.toNat 0 (c 42 0, b) (by omega) (by omega) h2.1 h2.2 (fun f hf => ?_)
          have V2 : TV G (up (up (up c 59 3 f.2) 0 6 0) 62 0 0) t T n m u q w x s ka ki g := ((V.kp (kiu _)).kp ki_up7).kp (ki_agr (agr_0 _))
          have M2 := V2.M
          have H2 : IV0 G (up c 59 3 f.2) := H0.kp (kiu _)
          refine ev_X12_shaken (d + 39) _ G _ 62 a b k (by decide) ⟨by decide, ?_⟩
          rintro _ rfl
          have hT2 : ∀ j, up (up (up c 59 3 f.2) 0 6 0) 62 0 0 T j = c T j := fun j => by rw [up_na (by omega), up_na (by omega), up_na (by omega)]
          have h64 : ∀ j, up (up (up c 59 3 f.2) 0 6 0) 62 0 0 64 j = c 64 j := fun j => by rw [up_na (by decide), up_na (by decide), up_na (by decide)]
          simp only [q_misPerson _ _ _ _ T M2, hT2, v3, h1, and_self, ↓reduceIte, q_seed, h2, h3, Int.reduceEq, Int.lt_irrefl, q_works _ _ _ _ T M2, h64]
          refine And.intro (by decide) ?_
          rintro _ rfl
          have A0 : Agr (up (up (up c 59 3 f.2) 0 6 0) 62 0 0) (up (wr (up (up (up c 59 3 f.2) 0 6 0) 62 0 0) 65 0 6 (fun p => c 64 p)) 62 39 b) := (Agr.rf.w (by intro j; unfold scr; omega)).u (by unfold scr; omega)
          refine l_mshaken (d + 37) _ V2 a k h1.1 h1.2 h3.2 k.toNat 0 (c 42 0, b) _ (by omega) (by omega) h2.1 h2.2 A0 vsd (fun p p0 p1 => ?_) up_eq (fun c' A => ?_)
          · rw [up_na (by decide), wr_in p0 (by omega)]
            exact (V.sv p p0 p1).1.symm
          · rw [hT2, ← hf]
            exact ⟨rfl, rfl, IV.q H2 (by decide) ((agr_0 _).tr A)⟩
        · rcases (show k < 0 ∨ (¬ k < 0 ∧ 60 < k) by omega) with hc | hc
          · simp only [q_isSeed, h1, h2, hc, and_self, ↓reduceIte, q_refused]
            refine ev_X12_shaken (d + 39) _ G _ 62 a b k (by decide) ⟨by decide, ?_⟩
            rintro _ rfl
            simp only [q_misPerson _ _ _ _ T (M1 _), rT, v3, h1, and_self, ↓reduceIte, q_seed, h2, h3, Int.reduceEq, Int.reduceLT, q_mrefused]
            exact ⟨rfl, rfl, IV.q H0 (by decide) (agr_0 _)⟩
          · simp only [q_isSeed, h1, h2, hc, and_self, ↓reduceIte, q_refused]
            refine ev_X12_shaken (d + 39) _ G _ 62 a b k (by decide) ⟨by decide, ?_⟩
            rintro _ rfl
            simp only [q_misPerson _ _ _ _ T (M1 _), rT, v3, h1, and_self, ↓reduceIte, q_seed, h2, h3, Int.reduceEq, Int.reduceLT, q_mrefused]
            exact ⟨rfl, rfl, IV.q H0 (by decide) (agr_0 _)⟩
      · simp only [q_isSeed, h1, h2, and_self, ↓reduceIte, q_refused]
        refine ev_X12_shaken (d + 39) _ G _ 62 a b k (by decide) ⟨by decide, ?_⟩
        rintro _ rfl
        simp only [q_misPerson _ _ _ _ T (M1 _), rT, v3, h1, and_self, ↓reduceIte, q_seed, h2, Int.reduceEq, Int.reduceLT, q_mrefused]
        exact ⟨rfl, rfl, IV.q H0 (by decide) (agr_0 _)⟩
    · simp only [h1, ↓reduceIte, q_refused]
      refine ev_X12_shaken (d + 39) _ G _ 62 a b k (by decide) ⟨by decide, ?_⟩
      rintro _ rfl
      simp only [q_misPerson _ _ _ _ T (M1 _), rT, v3, h1, ↓reduceIte, q_seed, Int.reduceLT, q_mrefused]
      exact ⟨rfl, rfl, IV.q H0 (by decide) (agr_0 _)⟩
theorem k_peaceIn (d : Nat) (G : MG) (c : MC) (b k : Int) (H : IV G c) : EvI (d + 40) mX10_peaceIn [mR 16 0, mI b, mI k] (G, c) (fun r1 ν1 => EvI (d + 40) mX12_peaceIn [mR 18 62, mI b, mI k] (ν1.1, ν1.2) (fun r2 ν2 => K2 G r1 r2 ν2)) := by
  obtain ⟨hr, t, z, S, V⟩ := H
  have H0 : IV0 G c := ⟨t, z, S, V⟩
  rcases V with V | ⟨T, n, m, u, q, w, x, s, ka, ki, g, V⟩
  · have I := S.ciN V
    have e1 := V.e1; have e3 := V.e3; have e4 := V.e4; have N := V.T
    have N1 : ∀ wy, up (up c 0 6 wy) 62 0 0 62 3 = -1 := fun wy => by rw [up_nj (by decide), up_na (by decide)]; exact N
    refine ev_X10_peaceIn (d + 39) _ G c 0 b k (by decide) ?_
    simp only [z_isTube _ _ _ _ t I e1, z_isPerson _ _ _ _ t I _ e3, z_isSlot _ _ _ _ t I _ e1, z_isTurn _ _ _ _ t I _ e4, z_areTwo _ _ _ _ t I _ _ e3, z_isPlace _ _ _ _ t I _ e1, ↓reduceIte, q_refused]
    refine ev_X12_peaceIn (d + 39) _ G _ 62 b k (by decide) ⟨by decide, ?_⟩
    rintro _ rfl
    simp only [q_nisSlot _ _ _ _ (N1 _), q_nisPerson _ _ _ _ (N1 _), q_nisTurn _ _ _ _ (N1 _), q_nareTwo _ _ _ _ (N1 _), q_nisPlace _ _ _ _ (N1 _), N1, ↓reduceIte, q_mrefused, Int.reduceNeg, Int.reduceLT, Int.reduceLE, true_and, q_seed]
    exact ⟨rfl, rfl, IV.q H0 (by decide) (agr_0 _)⟩
  · have I := S.ciT V
    have M := V.M; have hT := M.T; have ht := V.t
    have v1 := V.v1; have v3 := V.v3; have v4 := V.v4; have e0 := V.e0; have e1 := V.e1; have e3 := V.e3; have e4 := V.e4; have e5 := V.e5
    have b0 := M.b0; have b1 := M.b1; have b3 := M.b3; have b4 := M.b4
    rw [v1] at b1; rw [v3] at b3; rw [v4] at b4
    have hnp : 0 < n := by omega
    have hTn : ¬ T < 0 := by omega
    have M1 : ∀ wy, MDs G (up (up c 0 6 wy) 62 0 0) T := fun wy => (M.ki ki_up7).agr (agr_0 _)
    have r64 : ∀ wy, up (up c 0 6 wy) 62 0 0 64 = c 64 := fun wy => by funext j; rw [up_na (by decide), up_na (by decide)]
    have rT : ∀ wy k, up (up c 0 6 wy) 62 0 0 T k = c T k := fun wy k => by rw [up_na (by omega), up_na (by omega)]
    have rTT : ∀ wy (a : Int), 0 ≤ a → up (up c 0 6 wy) 62 0 0 (T + a) = c (T + a) := fun wy a ha => by funext j; rw [up_na (by omega), up_na (by omega)]
    have rS : ∀ wy a b, sld (up (up c 0 6 wy) 62 0 0) T a b = sld c T a b := fun wy a b => sld_eq (fun a j q => by rw [up_na (by omega), up_na (by omega)]) hT
    have hS : ∀ a b, 0 ≤ a → a < u → 0 ≤ b → b < n → sld c T a b = dg (g a) b := fun a b h1 h2 h3 h4 => by unfold sld; rw [v4, if_pos h2]; exact V.tk a b h1 h2 h3 h4
    have V1 : ∀ wy, TV G (up (up c 0 6 wy) 62 0 0) t T n m u q w x s ka ki g := fun wy => (V.kp ki_up7).kp (ki_agr (agr_0 _))
    skip
    refine ev_X10_peaceIn (d + 39) _ G c 0 b k (by decide) ?_
    simp only [q_isTube _ _ _ _ t I, q_isPerson _ _ _ _ t I, q_isSlot _ _ _ _ t I, q_isTurn _ _ _ _ t I, q_areTwo _ _ _ _ t I, q_isPlace _ _ _ _ t I, e0, e1, e3, e4, hnp, ↓reduceIte]
    by_cases h2 : 0 ≤ b ∧ b ≤ 65536
    · by_cases h3 : 0 ≤ k ∧ k ≤ 60
      · have hc1 : ¬ k < 0 := by omega
        have hc2 : ¬ 60 < k := by omega
        simp only [q_isSeed, h2, hc1, hc2, and_self, ↓reduceIte, I.p6, I.p3]
        refine ⟨by decide, by decide, by decide, by decide, ?_⟩
        rintro _ rfl
        have kiu : ∀ v, ∀ a j, KI a j → up c 59 3 v a j = c a j := fun v a j h => by rw [up_o (by unfold KI at h; omega)]
        have vsd : ∀ p, 0 ≤ p → p < m → 0 ≤ dg (c 42 0) p ∧ dg (c 42 0) p < n := fun p p0 p1 => by rw [(V.sv p p0 p1).1]; exact (V.sv p p0 p1).2
        refine l_cpeace (d + 36) _ V S k h3.2 (k + 1).toNat 0 (c 42 0, b) (by omega) (by omega) h2.1 h2.2 (fun sd => ?_)
        have V2 : TV G (up (up (up c 59 3 sd) 0 6 0) 62 0 0) t T n m u q w x s ka ki g := ((V.kp (kiu _)).kp ki_up7).kp (ki_agr (agr_0 _))
        have M2 := V2.M
        have H2 : IV0 G (up c 59 3 sd) := H0.kp (kiu _)
        refine ev_X12_peaceIn (d + 39) _ G _ 62 b k (by decide) ⟨by decide, ?_⟩
        rintro _ rfl
        have hT2 : ∀ j, up (up (up c 59 3 sd) 0 6 0) 62 0 0 T j = c T j := fun j => by rw [up_na (by omega), up_na (by omega), up_na (by omega)]
        have h64 : ∀ j, up (up (up c 59 3 sd) 0 6 0) 62 0 0 64 j = c 64 j := fun j => by rw [up_na (by decide), up_na (by decide), up_na (by decide)]
        have eh : ∀ st, hld (up (up (up c 59 3 sd) 0 6 0) 62 0 0) (t + 6) st = hld c (t + 6) st := fun st => by
          have r : ∀ x j, 1 ≤ x → x ≤ 41 → up (up (up c 59 3 sd) 0 6 0) 62 0 0 x j = c x j := fun x j p q => by rw [up_na (by omega), up_na (by omega), up_na (by omega)]
          unfold hld
          simp only [r (t + 6) _ (by omega) (by omega), r (t + 6 + 1) _ (by omega) (by omega), r (t + 6 + 2) _ (by omega) (by omega), r (t + 6 + 3) _ (by omega) (by omega)]
        simp only [M2.p3, hTn, ↓reduceIte, q_seed, h2, h3, and_self, Int.reduceEq, Int.lt_irrefl, q_works _ _ _ _ T M2, h64]
        refine ⟨by decide, by decide, ?_⟩
        rintro _ rfl
        have A0 : Agr (up (up (up c 59 3 sd) 0 6 0) 62 0 0) (up (wr (up (up (up c 59 3 sd) 0 6 0) 62 0 0) 65 0 6 (fun p => c 64 p)) 62 39 b) := (Agr.rf.w (by intro j; unfold scr; omega)).u (by unfold scr; omega)
        refine l_mpeace (d + 36) _ V2 k h3.2 (k + 1).toNat 0 (c 42 0, b) _ (by omega) (by omega) h2.1 h2.2 A0 vsd (fun p p0 p1 => ?_) up_eq (fun c' A => ?_)
        · rw [up_na (by decide), wr_in p0 (by omega)]
          exact (V.sv p p0 p1).1.symm
        · simp only [hT2, eh]
          exact ⟨rfl, rfl, IV.q H2 (by decide) ((agr_0 _).tr A)⟩
      · rcases (show k < 0 ∨ (¬ k < 0 ∧ 60 < k) by omega) with hc | hc
        · simp only [q_isSeed, h2, hc, and_self, ↓reduceIte, q_refused]
          refine ev_X12_peaceIn (d + 39) _ G _ 62 b k (by decide) ⟨by decide, ?_⟩
          rintro _ rfl
          simp only [(M1 _).p3, hTn, ↓reduceIte, q_seed, h2, h3, and_self, Int.reduceEq, Int.reduceLT, q_mrefused, Int.reduceLE, true_and]
          exact ⟨rfl, rfl, IV.q H0 (by decide) (agr_0 _)⟩
        · simp only [q_isSeed, h2, hc, and_self, ↓reduceIte, q_refused]
          refine ev_X12_peaceIn (d + 39) _ G _ 62 b k (by decide) ⟨by decide, ?_⟩
          rintro _ rfl
          simp only [(M1 _).p3, hTn, ↓reduceIte, q_seed, h2, h3, and_self, Int.reduceEq, Int.reduceLT, q_mrefused, Int.reduceLE, true_and]
          exact ⟨rfl, rfl, IV.q H0 (by decide) (agr_0 _)⟩
    · simp only [q_isSeed, h2, ↓reduceIte, q_refused]
      refine ev_X12_peaceIn (d + 39) _ G _ 62 b k (by decide) ⟨by decide, ?_⟩
      rintro _ rfl
      simp only [(M1 _).p3, hTn, ↓reduceIte, q_seed, h2, Int.reduceEq, Int.reduceLT, q_mrefused, Int.reduceLE, true_and]
      exact ⟨rfl, rfl, IV.q H0 (by decide) (agr_0 _)⟩
