theorem cnt_full {p : Int → Bool} {n : Int} (h0 : 0 ≤ n) : cnt p n = n ↔ ∀ i, 0 ≤ i → i < n → p i = true := by
  constructor
  · intro h i i0 i1
    cases hp : p i with
    | true => rfl
    | false =>
      have := cnt_lt p n.toNat 0 i (by omega) (by omega) hp
      unfold cnt at h
      omega
  · intro h
    have e : cnt p n = cnt (fun _ => true) n := cnt_congr h
    rw [e]
    have : ∀ n, 0 ≤ n → cnt (fun _ => true) n = n := by
      apply sm_nat
      · rfl
      · intro k k0 hk
        rw [cnt_succ _ k0, hk]
        rfl
    exact this n h0
theorem fi_neg {p : Int → Bool} : ∀ (j : Nat) (i : Int), 0 ≤ i → fi p (fun i => i) (-2) j i = -2 → ∀ k, i ≤ k → k < i + j → p k = false := by
  intro j
  induction j with
  | zero => intro i _ _ k a b; omega
  | succ j ih =>
    intro i i0 h k a b
    simp only [fi] at h
    by_cases hp : p i = true
    · rw [if_pos hp] at h; omega
    · rw [if_neg hp] at h
      by_cases e : k = i
      · rw [e]; exact Bool.eq_false_iff.mpr hp
      · exact ih (i + 1) (by omega) h k (by omega) (by omega)
def FTB (c : MC) (t y : Int) : Bool := decide (¬ unl c t (stB c t y) = 0 ∧ hld c (t + 14) (stB c t y) = w32 ((o_shl 1 (c (t + 14) 3)) - 1))
theorem fit_bs (c : MC) (t : Int) : fit c t = bs (FTB c t) (o_shl 1 (c t 5)) := by
  unfold fit bs bsA
  apply fo_congr
  intro k s _ _
  unfold FTB
  by_cases h : unl c t (stB c t k) = 0
  · rw [if_pos h, if_neg (by simp [h])]
  · rw [if_neg h]
    by_cases h2 : hld c (t + 14) (stB c t k) = w32 ((o_shl 1 (c (t + 14) 3)) - 1)
    · rw [if_pos h2, if_pos (by simp [h, h2])]
    · rw [if_neg h2, if_neg (by simp [h2])]
/-- what is broken first of what was seen -/
def wsF (c : MC) (T s : Int) (xf : Int → Int) : Int := fi (fun k => decide (¬ bes (xf (c (T + 9) k)) (xf (c (T + 10) k)) = mbt (c T 17) k)) (fun k => k) (-2) s.toNat 0
section
variable {G : MG} {c : MC} {t z T n m u q w x s ka ki : Int} {g : Int → Int} (d : Nat) (P : Int → MM → Prop)
theorem tv_hmS (V : TV G c t T n m u q w x s ka ki g) : (0 ≤ hmS c t ∧ hmS c t < 262144) ∧ ∀ p, 0 ≤ p → p < m → dg (hmS c t) p = c (T + 2) p := by
  have b3 := V.M.b3; have b1 := V.M.b1
  rw [V.v3] at b3; rw [V.v1] at b1
  have h := pk_all (f := fun i => if i < m then c (t + 2) i else 0) (n := m) (by omega) (by omega) (fun k k0 k1 => by
    rw [if_pos k1]
    have := V.ho k k0 k1
    omega)
  have e : hmS c t = fo (fun i s => o_or s (o_shl (if i < m then c (t + 2) i else 0) (w32 (3 * i)))) m.toNat 0 0 := by
    unfold hmS
    rw [V.e3]
    apply fo_congr
    intro k s k0 k1
    rw [if_pos (by omega)]
  rw [e]
  have hp : (8 : Int) ^ m.toNat ≤ 8 ^ 6 := by
    have := Nat.pow_le_pow_right (show 0 < 8 by omega) (show m.toNat ≤ 6 by omega)
    exact_mod_cast this
  refine ⟨⟨h.1.1, Int.lt_of_lt_of_le h.1.2 hp⟩, fun p p0 p1 => ?_⟩
  rw [h.2 p p0 p1]
  rw [if_pos p1]
  exact (V.ho p p0 p1).1
theorem tv_stB (V : TV G c t T n m u q w x s ka ki g) (y : Int) : ∀ (j : Nat) (i r : Int), 0 ≤ i → i + j ≤ x → 0 ≤ r → r < 262144 → (∀ p, 0 ≤ p → p < m → dg r p < n) → (0 ≤ fo (fun i s => if bt y i = 1 then wth s (c (t + 4) i) (c (t + 5) i) else s) j i r ∧ fo (fun i s => if bt y i = 1 then wth s (c (t + 4) i) (c (t + 5) i) else s) j i r < 262144) ∧ ∀ p, 0 ≤ p → p < m → dg (fo (fun i s => if bt y i = 1 then wth s (c (t + 4) i) (c (t + 5) i) else s) j i r) p < n := by
  have b3 := V.M.b3; have b1 := V.M.b1
  rw [V.v3] at b3; rw [V.v1] at b1
  intro j
  induction j with
  | zero => intro i r _ _ r0 r1 hr; exact ⟨⟨r0, r1⟩, hr⟩
  | succ j ih =>
    intro i r i0 hi r0 r1 hr
    simp only [fo]
    have hu := V.un i i0 (by omega)
    by_cases h : bt y i = 1
    · rw [if_pos h]
      have hw := wth_all (x := r) (i := c (t + 4) i) (v := c (t + 5) i) r0 r1 (by omega) (by omega) (by omega) (by omega)
      refine ih _ _ (by omega) (by omega) hw.1.1 hw.1.2 (fun p p0 p1 => ?_)
      rw [hw.2 p p0 (by omega)]
      split
      · omega
      · exact hr p p0 p1
    · rw [if_neg h]
      exact ih _ _ (by omega) (by omega) r0 r1 hr
theorem tv_stb (V : TV G c t T n m u q w x s ka ki g) (y : Int) : ∀ p, 0 ≤ p → p < m → 0 ≤ dg (stB c t y) p ∧ dg (stB c t y) p < n := by
  obtain ⟨h1, h2⟩ := tv_hmS V
  have b7 := V.M.b7
  rw [V.v7] at b7
  have := tv_stB V y x.toNat 0 (hmS c t) (by omega) (by omega) h1.1 h1.2 (fun p p0 p1 => by rw [h2 p p0 p1]; exact (V.ho p p0 p1).2.2)
  intro p p0 p1
  refine ⟨(dg_rg _ _).1, ?_⟩
  unfold stB
  rw [V.e5]
  exact this.2 p p0 p1
theorem f_lays2 (V : TV G c t T n m u q w x s ka ki g) (Q : MM → Prop) {c0 : MC} (A : Agr c c0) (y : Int) (hQ : ∀ c2, (∀ p, 0 ≤ p → p < m → c2 65 p = dg (stB c t y) p) → (∀ a j, a ≠ 65 → c2 a j = c0 a j) → Q (G, c2)) : ∀ (j : Nat) (i r : Int) (c' : MC), 0 ≤ i → i + j = x → 0 ≤ r → r < 262144 → stB c t y = fo (fun i s => if bt y i = 1 then wth s (c (t + 4) i) (c (t + 5) i) else s) j i r → (∀ p, 0 ≤ p → p < m → c' 65 p = dg r p) → (∀ a j, a ≠ 65 → c' a j = c0 a j) → At (d + 2) mX12_laysFirst 36 [mR 18 62, mI y, mI i] [] (G, c') (QV Q) := by
  have b3 := V.M.b3; have b1 := V.M.b1; have b7 := V.M.b7; have hT := V.M.T
  rw [V.v3] at b3; rw [V.v1] at b1; rw [V.v7] at b7
  have M0 := V.M.agr A
  have e0 : ∀ a j, 80 ≤ a → c0 a j = c a j := fun a j h => A a j (by unfold scr; omega)
  intro j
  induction j with
  | zero =>
    intro i r c' i0 hi r0 r1 hs hp hc
    have M := M0.kp (c' := c') (fun a j k => hc a j (by unfold Kp at k; omega))
    apply wp_X12_laysFirst_36
    rw [M.p3, hc T 7 (by omega), e0 T 7 (by omega), V.v7, if_neg (by omega)]
    refine ⟨by omega, by omega, hQ c' (fun p p0 p1 => ?_) hc⟩
    rw [hs]
    exact hp p p0 p1
  | succ j ih =>
    intro i r c' i0 hi r0 r1 hs hp hc
    have M := M0.kp (c' := c') (fun a j k => hc a j (by unfold Kp at k; omega))
    have wi : w32 (i + 1) = i + 1 := w32i (by omega) (by omega)
    have hu := V.un i i0 (by omega)
    have h7 : c' (T + 7) i = c (T + 7) i := by rw [hc _ _ (by omega), e0 _ _ (by omega)]
    have h8 : c' (T + 8) i = c (T + 8) i := by rw [hc _ _ (by omega), e0 _ _ (by omega)]
    simp only [fo] at hs
    apply wp_X12_laysFirst_36
    simp only [q_mbit, wi, M.p3, M.p17, M.l65, M.t18, M.t19, M.u7, M.u8, h7, h8, hc T 7 (by omega), e0 T 7 (by omega), V.v7]
    rw [if_pos (by omega)]
    refine ⟨by omega, by omega, ?_⟩
    by_cases h : bt y i = 1
    · rw [if_pos h] at hs
      rw [if_neg (by unfold mbt; rw [if_pos h]; decide)]
      have hw := wth_all (x := r) (i := c (t + 4) i) (v := c (t + 5) i) r0 r1 (by omega) (by omega) (by omega) (by omega)
      refine ⟨by omega, by omega, by omega, ⟨by omega, by omega, by omega⟩, by omega, by omega, ⟨by omega, by omega, by omega⟩, ⟨by omega, by omega, by omega⟩, ?_⟩
      rintro _ rfl
      refine ih _ _ _ (by omega) (by omega) hw.1.1 hw.1.2 hs (fun p p0 p1 => ?_) (fun a j h => by rw [up_na h]; exact hc a j h)
      rw [hw.2 p p0 (by omega)]
      by_cases e : p = c (T + 7) i
      · rw [if_pos (by omega), e, up_eq]; omega
      · rw [if_neg (by omega), up_nj e]; exact hp p p0 p1
    · rw [if_neg h] at hs
      rw [if_pos (by unfold mbt; rw [if_neg h])]
      exact ih _ _ _ (by omega) (by omega) r0 r1 hs hp hc
theorem f_lays (V : TV G c t T n m u q w x s ka ki g) (Q : MM → Prop) {c0 : MC} (A : Agr c c0) (y : Int) (hQ : ∀ c2, (∀ p, 0 ≤ p → p < m → c2 65 p = dg (stB c t y) p) → (∀ a j, a ≠ 65 → c2 a j = c0 a j) → Q (G, c2)) : EvV (d + 2) mX12_laysFirst [mR 18 62, mI y] (G, c0) Q := by
  have b3 := V.M.b3; have b1 := V.M.b1; have b7 := V.M.b7; have hT := V.M.T
  rw [V.v3] at b3; rw [V.v1] at b1; rw [V.v7] at b7
  have M0 := V.M.agr A
  have e0 : ∀ a j, 80 ≤ a → c0 a j = c a j := fun a j h => A a j (by unfold scr; omega)
  obtain ⟨h1, h2⟩ := tv_hmS V
  refine ev_X12_laysFirst (d + 1) _ G c0 62 y (by decide) ?_
  have lp : ∀ (j : Nat) (p : Int), 0 ≤ p → p + j = m → At (d + 1 + 1) mX12_laysFirst 2 [mR 18 62, mI y, mI p] [] (G, wr c0 65 0 p (fun p => c (T + 2) p)) (QV Q) := by
    intro j
    induction j with
    | zero =>
      intro p p0 hp
      have M := M0.kp (c' := wr c0 65 0 p (fun p => c (T + 2) p)) (fun a j k => wr_ne (by unfold Kp at k; omega))
      apply wp_X12_laysFirst_2
      rw [M.p3, wr_ne (by omega), e0 T 3 (by omega), V.v3, if_neg (by omega)]
      refine ⟨by omega, by omega, f_lays2 d V Q A y hQ x.toNat 0 (hmS c t) _ (by omega) (by omega) h1.1 h1.2 (by unfold stB; rw [V.e5]) (fun p' p0' p1' => ?_) (fun a j h => wr_ne h)⟩
      rw [wr_in p0' (by omega)]
      exact (h2 p' p0' p1').symm
    | succ j ih =>
      intro p p0 hp
      have M := M0.kp (c' := wr c0 65 0 p (fun p => c (T + 2) p)) (fun a j k => wr_ne (by unfold Kp at k; omega))
      have wp : w32 (p + 1) = p + 1 := w32i (by omega) (by omega)
      apply wp_X12_laysFirst_2
      rw [M.p3, wr_ne (a' := T) (by omega), e0 T 3 (by omega), V.v3, if_pos (by omega), M.t11, M.u2, M.p17, M.l65, wp]
      refine ⟨by omega, by omega, by omega, by omega, by omega, ⟨by omega, by omega, by omega⟩, ⟨by omega, by omega, by omega⟩, ?_⟩
      rintro _ rfl
      rw [wr_up p0 (by omega) (by rw [wr_ne (by omega), e0 _ _ (by omega)])]
      exact ih _ (by omega) (by omega)
  have := lp m.toNat 0 (by omega) (by omega)
  rw [wr_zero (by omega)] at this
  exact this
theorem f_munlike (V : TV G c t T n m u q w x s ka ki g) {c0 : MC} (A : Agr c c0) (st : Int) (hx : ∀ p, 0 ≤ p → p < m → c0 65 p = dg st p) (hr : ∀ p, 0 ≤ p → p < m → 0 ≤ dg st p ∧ dg st p < n) : EvI (d + 2) mX12_areUnlike [mR 18 62] (G, c0) P = P (unl c t st) (G, c0) := by
  have b3 := V.M.b3; have b1 := V.M.b1; have hT := V.M.T
  rw [V.v3] at b3; rw [V.v1] at b1
  have M := V.M.agr A
  have e3 : c0 T 3 = m := by rw [A T 3 (by unfold scr; omega)]; exact V.v3
  refine evI_eq (ev_X12_areUnlike (d + 1) _ G c0 62 (by decide) ?_) P
  have lp : ∀ (j : Nat) (i v : Int), 0 ≤ i → i + j = m → 0 ≤ v → v < 64 → fo (fun i s => o_or s (o_shl 1 (dg st i))) m.toNat 0 0 = fo (fun i s => o_or s (o_shl 1 (dg st i))) j i v → At (d + 1 + 1) mX12_areUnlike 4 [mR 18 62, mI v, mI i] [] (G, c0) (QI fun x ν' => x = unl c t st ∧ ν' = (G, c0)) := by
    intro j
    induction j with
    | zero =>
      intro i v i0 hi v0 v1 he
      apply wp_X12_areUnlike_4
      simp only [M.p3, e3, q_mbits _ _ _ _ v v0 (by omega)]
      rw [if_neg (by omega)]
      refine ⟨by omega, by omega, by omega, by omega, ?_⟩
      have hv : fo (fun i s => o_or s (o_shl 1 (dg st i))) m.toNat 0 0 = v := he
      unfold unl
      rw [V.e3, hv]
      split
      · exact ⟨⟨by omega, by omega⟩, rfl, by first | rfl | trivial⟩
      · exact ⟨⟨by omega, by omega⟩, rfl, by first | rfl | trivial⟩
    | succ j ih =>
      intro i v i0 hi v0 v1 he
      have wi : w32 (i + 1) = i + 1 := w32i (by omega) (by omega)
      simp only [fo] at he
      have hri := hr i i0 (by omega)
      have ho := or6 v0 v1 hri.1 (by omega)
      apply wp_X12_areUnlike_4
      simp only [M.p3, e3, M.p17, M.l65, wi, hx i i0 (by omega)]
      rw [if_pos (by omega)]
      refine ⟨by omega, by omega, by omega, ⟨by omega, by omega, by omega⟩, ?_⟩
      exact ih _ _ (by omega) (by omega) ho.1.1 ho.1.2 he
  exact lp m.toNat 0 0 (by omega) (by omega) (by omega) (by omega) rfl
theorem f_wrong (V : TV G c t T n m u q w x s ka ki g) {c0 : MC} (A : Agr c c0) (st : Int) (hx : ∀ p, 0 ≤ p → p < m → c0 65 p = dg st p) : EvI (d + 2) mX12_wrongSeen [mR 18 62] (G, c0) P = P (wsF c T s (dg st)) (G, c0) := by
  have b3 := V.M.b3; have b8 := V.M.b8; have hT := V.M.T
  rw [V.v3] at b3; rw [V.v8] at b8
  have M := V.M.agr A
  have e0 : ∀ a j, 80 ≤ a → c0 a j = c a j := fun a j h => A a j (by unfold scr; omega)
  refine evI_eq (ev_X12_wrongSeen (d + 1) _ G c0 62 (by decide) ?_) P
  have lp : ∀ (j : Nat) (i : Int), 0 ≤ i → i + j = s → wsF c T s (dg st) = fi (fun k => decide (¬ bes (dg st (c (T + 9) k)) (dg st (c (T + 10) k)) = mbt (c T 17) k)) (fun k => k) (-2) j i → At (d + 1 + 1) mX12_wrongSeen 2 [mR 18 62, mI i] [] (G, c0) (QI fun x ν' => x = wsF c T s (dg st) ∧ ν' = (G, c0)) := by
    intro j
    induction j with
    | zero =>
      intro i i0 hi he
      apply wp_X12_wrongSeen_2
      rw [M.p3, e0 T 8 (by omega), V.v8, if_neg (by omega)]
      exact ⟨by omega, by omega, he.symm, rfl⟩
    | succ j ih =>
      intro i i0 hi he
      have wi : w32 (i + 1) = i + 1 := w32i (by omega) (by omega)
      have hs := V.se i i0 (by omega)
      simp only [fi] at he
      apply wp_X12_wrongSeen_2
      simp only [M.p3, e0 T 8 (by omega), V.v8, M.t20, M.u9, M.t21, M.u10, M.p17, M.l65, e0 (T + 9) i (by omega), e0 (T + 10) i (by omega), e0 T 17 (by omega), q_X12_areBeside, q_mbit, wi, hx _ hs.2.2.1.1 hs.2.2.1.2, hx _ hs.2.2.2.1.1 hs.2.2.2.1.2]
      rw [if_pos (by omega)]
      refine ⟨by omega, by omega, by omega, by omega, by omega, ⟨by omega, by omega, by omega⟩, ⟨by omega, by omega, by omega⟩, by omega, by omega, by omega, ⟨by omega, by omega, by omega⟩, ⟨by omega, by omega, by omega⟩, by omega, by omega, ?_⟩
      by_cases h : bes (dg st (c (T + 9) i)) (dg st (c (T + 10) i)) = mbt (c T 17) i
      · rw [if_pos h]
        rw [if_neg (by simp [h])] at he
        exact ih _ (by omega) (by omega) he
      · rw [if_neg h]
        rw [if_pos (by simp [h])] at he
        exact ⟨he.symm, by first | rfl | trivial⟩
  exact lp s.toNat 0 (by omega) (by omega) rfl
theorem tv_hld (V : TV G c t T n m u q w x s ka ki g) (st : Int) : hld c (t + 14) st = bs (fun k => decide (bes (dg st (c (T + 9) k)) (dg st (c (T + 10) k)) = mbt (c T 17) k)) s := by
  have b8 := V.M.b8; rw [V.v8] at b8
  rw [hld_bs, V.es]
  apply bs_congr
  intro k k0 k1
  have hs := V.se k k0 k1
  rw [hs.1, hs.2.1, hs.2.2.2.2]
theorem tv_FTB (V : TV G c t T n m u q w x s ka ki g) (y : Int) : FTB c t y = (decide (¬ unl c t (stB c t y) = 0) && decide (wsF c T s (dg (stB c t y)) = -2)) := by
  have b8 := V.M.b8; rw [V.v8] at b8
  unfold FTB
  rw [tv_hld V, V.es]
  have h1 := (bs_full (fun k => decide (bes (dg (stB c t y) (c (T + 9) k)) (dg (stB c t y) (c (T + 10) k)) = mbt (c T 17) k)) (k := s) (by omega) (by omega)).1
  rw [cnt_full (by omega)] at h1
  have h2 : wsF c T s (dg (stB c t y)) = -2 ↔ ∀ i, 0 ≤ i → i < s → decide (bes (dg (stB c t y) (c (T + 9) i)) (dg (stB c t y) (c (T + 10) i)) = mbt (c T 17) i) = true := by
    constructor
    · intro h i i0 i1
      have := fi_neg s.toNat 0 (by omega) h i i0 (by omega)
      simpa using this
    · intro h
      exact fi_none s.toNat 0 (fun k k0 k1 => by have := h k k0 (by omega); simpa using this)
  rw [Bool.decide_and]
  congr 1
  exact decide_eq_decide.mpr (h1.trans h2.symm)
end
