theorem lcmp0 {y : Int} (h : 0 ≤ y) : (o_lcmp y 0 = 0) ↔ y = 0 := by
  unfold o_lcmp
  rw [if_neg (by omega)]
  split
  · simp_all
  · simp_all
section
variable (d : Nat) (P : Int → MM → Prop) (G : MG) (c : MC)
theorem l_common : ∀ (k : Nat) (b : Nat) (a : Nat), b < k → a < 4611686018427387904 → b < 4611686018427387904 → P ((Nat.gcd a b : Nat) : Int) (G, c) → At (d + 1) mX12_common 6 [MU, MU, MU, MU, mL a, MU, mL b, MU, MU, MU] [] (G, c) (QL P) := by
  intro k
  induction k with
  | zero => intro b a h; omega
  | succ k ih =>
    intro b a hb ha hb2 hP
    apply wp_X12_common_6
    by_cases h : b = 0
    · subst h
      rw [if_pos ((lcmp0 (y := ((0 : Nat) : Int)) (by omega)).mpr rfl)]
      rwa [Nat.gcd_zero_right] at hP
    · rw [if_neg (fun q => h (by have := (lcmp0 (y := (b : Int)) (by omega)).mp q; omega))]
      refine ⟨by omega, ?_⟩
      rw [o_lrem_of (by omega) (by omega) (by omega) (by omega), show (a : Int) % (b : Int) = ((a % b : Nat) : Int) by omega]
      have hl := Nat.mod_lt a (show 0 < b by omega)
      refine ih (a % b) b (by omega) hb2 (by omega) ?_
      rw [Nat.gcd_comm b (a % b), ← Nat.gcd_rec, Nat.gcd_comm]
      exact hP
theorem q_common (a b : Int) (ha : 0 ≤ a) (ha' : a < 4611686018427387904) (hb : 0 ≤ b) (hb' : b < 4611686018427387904) : EvL (d + 1) mX12_common [mL a, mL b] (G, c) P = P (Int.gcd a b) (G, c) := by
  obtain ⟨a, rfl⟩ := Int.eq_ofNat_of_zero_le ha
  obtain ⟨b, rfl⟩ := Int.eq_ofNat_of_zero_le hb
  exact evL_eq (ev_X12_common d _ G c a b (l_common d _ G c (b + 1) b a (by omega) (by omega) (by omega) ⟨rfl, rfl⟩)) P
def frc (a b l : Int) : Int := (if l = 0 then a else b) / (Int.gcd a b : Int)
theorem half {a b : Nat} (h : 0 < a % b) (hb : 0 < b) : 2 * (b % (a % b)) < b := by
  have h1 := Nat.mod_lt a hb
  have h2 := Nat.mod_lt b h
  by_cases e : 2 * (a % b) ≤ b
  · omega
  · have : b % (a % b) = b - a % b := by
      rw [Nat.mod_eq_sub_mod (by omega), Nat.mod_eq_of_lt (by omega)]
    omega
theorem l_lowest (u0 w0 l : Int) (hu : 0 ≤ u0) (hu' : u0 < 4611686018427387904) (hw : 0 < w0) (hw' : w0 < 4611686018427387904) : ∀ (j : Nat) (b a : Nat) (i : Int), 0 ≤ i → i + 2 * j ≤ 98 → b < 2 ^ j → a < 4611686018427387904 → b < 4611686018427387904 → (Nat.gcd a b : Int) = Int.gcd u0 w0 → P (frc u0 w0 l) (G, c) → At (d + 1) mX10_inLowestTerms 9 [mL u0, MU, mL w0, MU, mI l, mL a, MU, mL b, MU, mI i, MU, MU] [] (G, c) (QL P) := by
  have hg : (0 : Int) < Int.gcd u0 w0 := by
    have : 0 < Int.gcd u0 w0 := Int.gcd_pos_of_ne_zero_right _ (by omega)
    omega
  have hg2 : (Int.gcd u0 w0 : Int) ≤ w0 := Int.gcd_le_right _ hw
  have fin : ∀ (a : Nat) (i : Int), i < 100 → (a : Int) = Int.gcd u0 w0 → P (frc u0 w0 l) (G, c) → At (d + 1) mX10_inLowestTerms 9 [mL u0, MU, mL w0, MU, mI l, mL a, MU, mL 0, MU, mI i, MU, MU] [] (G, c) (QL P) := by
    intro a i hi ha hP
    apply wp_X10_inLowestTerms_9
    rw [if_pos hi, if_pos ((lcmp0 (by omega)).mpr rfl), if_neg (fun q => by have := (lcmp0 (y := (a : Int)) (by omega)).mp q; omega)]
    unfold frc at hP
    split
    · rename_i hl
      rw [if_pos hl] at hP
      refine ⟨by omega, ?_⟩
      rw [o_ldiv_of hu (by omega) (by omega) (by omega), ha]
      exact hP
    · rename_i hl
      rw [if_neg hl] at hP
      refine ⟨by omega, ?_⟩
      rw [o_ldiv_of (by omega) (by omega) (by omega) (by omega), ha]
      exact hP
  intro j
  induction j with
  | zero =>
    intro b a i h0 hi hb ha hb' hgc hP
    have : b = 0 := by simp at hb; omega
    subst this
    rw [Nat.gcd_zero_right] at hgc
    exact fin a i (by omega) hgc hP
  | succ j ih =>
    intro b a i h0 hi hb ha hb' hgc hP
    by_cases h : b = 0
    · subst h
      rw [Nat.gcd_zero_right] at hgc
      exact fin a i (by omega) hgc hP
    · have hl := Nat.mod_lt a (show 0 < b by omega)
      have g1 : Nat.gcd b (a % b) = Nat.gcd a b := by rw [Nat.gcd_comm b (a % b), ← Nat.gcd_rec, Nat.gcd_comm]
      apply wp_X10_inLowestTerms_9
      rw [if_pos (by omega), if_neg (fun q => h (by have := (lcmp0 (y := (b : Int)) (by omega)).mp q; omega))]
      refine ⟨by omega, ?_⟩
      rw [o_lrem_of (by omega) (by omega) (by omega) (by omega), show (a : Int) % (b : Int) = ((a % b : Nat) : Int) by omega, w32i (x := i + 1) (by omega) (by omega)]
      by_cases h2 : a % b = 0
      · rw [h2]
        rw [h2, Nat.gcd_zero_right] at g1
        exact fin b (i + 1) (by omega) (by rw [g1]; exact hgc) hP
      · have hl2 := Nat.mod_lt b (show 0 < a % b by omega)
        have hh := half (show 0 < a % b by omega) (show 0 < b by omega)
        have g2 : Nat.gcd (a % b) (b % (a % b)) = Nat.gcd b (a % b) := by rw [Nat.gcd_comm (a % b) (b % (a % b)), ← Nat.gcd_rec, Nat.gcd_comm]
        apply wp_X10_inLowestTerms_9
        rw [if_pos (by omega), if_neg (fun q => h2 (by have := (lcmp0 (y := ((a % b : Nat) : Int)) (by omega)).mp q; omega))]
        refine ⟨by omega, ?_⟩
        rw [o_lrem_of (by omega) (by omega) (by omega) (by omega), show ((b : Nat) : Int) % ((a % b : Nat) : Int) = ((b % (a % b) : Nat) : Int) by omega, w32i (x := i + 1 + 1) (by omega) (by omega)]
        refine ih (b % (a % b)) (a % b) (i + 1 + 1) (by omega) (by omega) (by rw [Nat.pow_succ] at hb; omega) (by omega) (by omega) ?_ hP
        rw [g2, g1]; exact hgc
theorem q_lowest (a b l : Int) (ha : 0 ≤ a) (ha' : a < 4611686018427387904) (hb : 0 < b) (hb' : b < 8796093022208) : EvL (d + 1) mX10_inLowestTerms [mL a, mL b, mI l] (G, c) P = P (frc a b l) (G, c) := by
  obtain ⟨a, rfl⟩ := Int.eq_ofNat_of_zero_le ha
  obtain ⟨b, rfl⟩ := Int.eq_ofNat_of_zero_le (show 0 ≤ b by omega)
  exact evL_eq (ev_X10_inLowestTerms d _ G c a b l (l_lowest d _ G c a b l (by omega) (by omega) (by omega) (by omega) 43 b a 0 (by omega) (by omega) (by omega) (by omega) (by omega) rfl ⟨rfl, rfl⟩)) P
theorem q_fraction (a b l : Int) (ha : 0 ≤ a) (ha' : a < 4611686018427387904) (hb : 0 < b) (hb' : b < 8796093022208) : EvL (d + 2) mX12_fraction [mR 18 62, mL a, mL b, mI l] (G, c) P = P (frc a b l) (G, mtr c 0) := evL_eq (ev_X12_fraction (d + 1) _ G c 62 a b l (by decide) (by
  have hg : (0 : Int) < Int.gcd a b := by
    have : 0 < Int.gcd a b := Int.gcd_pos_of_ne_zero_right _ (by omega)
    omega
  have hg2 : (Int.gcd a b : Int) ≤ b := Int.gcd_le_right _ hb
  simp only [q_mgood, q_common _ _ _ _ a b ha ha' (show 0 ≤ b by omega) (show b < 4611686018427387904 by omega)]
  unfold frc
  split
  · refine ⟨by omega, ?_⟩; rw [o_ldiv_of ha (by omega) (by omega) (by omega)]; simp
  · refine ⟨by omega, ?_⟩; rw [o_ldiv_of (by omega) (by omega) (by omega) (by omega)]; simp)) P
variable (T : Int)
/-! round: by the reference's steps -/
theorem l_rd52 (M : MDs G c T) (n k tm v : Int) (hn : c T 1 = n) (hk0 : 0 ≤ k) (hk : k < n) (t0 : 0 ≤ tm) (t1 : tm < 1000000) (v0 : 0 ≤ v) (v1 : v < 1000) (hf : ∀ j, 0 ≤ j → j < n → 0 ≤ c 73 j ∧ c 73 j < n) (hne : w32 (Int.gcd tm v : Int) ≠ 0)
    (h : At (d + 2) mX12_round 28 [mR 18 62, MU, MU, MU, mI (w32 (o_div tm (w32 (Int.gcd tm v : Int)) * v)), mI (k + 1), MU, MU] [] (G, c) (QI P)) :
    ∀ (s : Nat) (j q : Int), 0 ≤ j → j < n → stM (c 73) k s j q = some v → At (d + 2) mX12_round 52 [mR 18 62, MU, MU, MU, mI tm, mI k, mI q, mI j] [] (G, c) (QI P) := by
  have b1 := M.b1
  have wk : w32 (k + 1) = k + 1 := w32i (by omega) (by omega)
  intro s
  induction s with
  | zero => intro j q _ _ e; cases e
  | succ s ih =>
    intro j q j0 j1 e
    simp only [stM] at e
    apply wp_X12_round_52
    by_cases hj : j = k
    · rw [if_pos hj] at e ⊢
      have ev : q = v := Option.some.inj e
      rw [ev, q_common _ _ _ _ tm v t0 (by omega) v0 (by omega)]
      rw [wk]
      exact ⟨hne, h⟩
    · rw [if_neg hj] at e ⊢
      simp only [M.p27, M.l73]
      refine ⟨by omega, ⟨by omega, by omega, by omega⟩, ?_⟩
      exact ih _ _ (hf j j0 j1).1 (hf j j0 j1).2 e
theorem l_rd28 (M : MDs G c T) (n v : Int) (hn : c T 1 = n) (hf : ∀ j, 0 ≤ j → j < n → 0 ≤ c 73 j ∧ c 73 j < n) (hP : P v (G, mtr c 0)) : ∀ (j : Nat) (k tm : Int), 0 ≤ k → k + j = n → 1 ≤ tm → tm ≤ 8 ^ k.toNat → fo (fun k s => match s, stM (c 73) k 8 (c 73 k) 1 with
  | some t, some q => some (w32 (o_div t (w32 (Int.gcd t q : Int)) * q))
  | _, _ => none) j k (some tm) = some v → (∀ k q, 0 ≤ k → k < n → stM (c 73) k 8 (c 73 k) 1 = some q → 1 ≤ q ∧ q ≤ 8) → At (d + 2) mX12_round 28 [mR 18 62, MU, MU, MU, mI tm, mI k, MU, MU] [] (G, c) (QI P) := by
  have b1 := M.b1; have hT := M.T
  intro j
  induction j with
  | zero =>
    intro k tm k0 hk _ _ e _
    apply wp_X12_round_28
    simp only [M.p3, hn, q_mgood]
    refine ⟨by omega, by omega, ?_⟩
    rw [if_neg (by omega)]
    cases e
    exact hP
  | succ j ih =>
    intro k tm k0 hk t0 t1 e hst
    have h7 : ∀ i : Nat, i < 7 → (8 : Int) ^ i ≤ 262144 := by decide
    have h7k := h7 k.toNat (by omega)
    apply wp_X12_round_28
    simp only [M.p3, hn, M.p27, M.l73]
    refine ⟨by omega, by omega, ?_⟩
    rw [if_pos (by omega)]
    refine ⟨by omega, ⟨by omega, by omega, by omega⟩, ?_⟩
    simp only [fo] at e
    cases hs : stM (c 73) k 8 (c 73 k) 1 with
    | none =>
      rw [hs] at e
      exfalso
      have : ∀ (j : Nat) (i : Int), fo (fun k s => match s, stM (c 73) k 8 (c 73 k) 1 with
          | some t, some q => some (w32 (o_div t (w32 (Int.gcd t q : Int)) * q))
          | _, _ => none) j i none = (none : Option Int) := by
        intro j
        induction j with
        | zero => intro i; rfl
        | succ j ih => intro i; simp only [fo]; exact ih _
      rw [this] at e
      cases e
    | some q =>
      rw [hs] at e
      simp only at e
      obtain ⟨q1, q7⟩ := hst k q k0 (by omega) hs
      have hg : (0 : Int) < Int.gcd tm q := by
        have : 0 < Int.gcd tm q := Int.gcd_pos_of_ne_zero_right _ (by omega)
        omega
      have hg2 : (Int.gcd tm q : Int) ≤ q := Int.gcd_le_right _ (by omega)
      have wg : w32 (Int.gcd tm q : Int) = Int.gcd tm q := w32i (by omega) (by omega)
      refine l_rd52 d P G c T M n k tm q hn k0 (by omega) (by omega) (by omega) (by omega) (by omega) hf (by rw [wg]; omega) ?_ 8 _ 1 (hf k k0 (by omega)).1 (hf k k0 (by omega)).2 hs
      have hd : o_div tm (Int.gcd tm q) = tm / (Int.gcd tm q : Int) := o_div_of (by omega) (by omega) (by omega) (by omega)
      have hd1 : 1 ≤ tm / (Int.gcd tm q : Int) := by
        have h1 := Int.gcd_le_left q (show 0 < tm by omega)
        exact Int.le_ediv_of_mul_le hg (by omega)
      have hd2 : tm / (Int.gcd tm q : Int) ≤ tm := Int.ediv_le_self _ (by omega)
      have hm : tm / (Int.gcd tm q : Int) * q ≤ tm * 8 := Int.mul_le_mul hd2 q7 (by omega) (by omega)
      have hm0 : 1 * 1 ≤ tm / (Int.gcd tm q : Int) * q := Int.mul_le_mul hd1 q1 (by omega) (by omega)
      have hw : w32 (o_div tm (w32 (Int.gcd tm q : Int)) * q) = tm / (Int.gcd tm q : Int) * q := by rw [wg, hd]; exact w32i (by omega) (by omega)
      refine ih (k + 1) _ (by omega) (by omega) (by rw [hw]; omega) ?_ e hst
      rw [hw, show (k + 1).toNat = k.toNat + 1 by omega, Int.pow_succ]
      omega
end
theorem stM_congr {f g : Int → Int} {n k : Int} (hf : ∀ j, 0 ≤ j → j < n → 0 ≤ f j ∧ f j < n) (h : ∀ j, 0 ≤ j → j < n → f j = g j) : ∀ (s : Nat) (j q : Int), 0 ≤ j → j < n → stM f k s j q = stM g k s j q := by
  intro s
  induction s with
  | zero => intro j q _ _; rfl
  | succ s ih =>
    intro j q j0 j1
    simp only [stM]
    rw [← h j j0 j1, ih _ _ (hf j j0 j1).1 (hf j j0 j1).2]
theorem stM_rg {f : Int → Int} {k : Int} : ∀ (s : Nat) (j q v : Int), 0 ≤ q → q + s ≤ 100 → stM f k s j q = some v → q ≤ v ∧ v < q + s := by
  intro s
  induction s with
  | zero => intro j q v _ _ h; cases h
  | succ s ih =>
    intro j q v q0 q1 h
    simp only [stM] at h
    split at h
    · cases h; omega
    · have := ih _ _ v (by rw [w32i (by omega) (by omega)]; omega) (by rw [w32i (by omega) (by omega)]; omega) h
      rw [w32i (by omega) (by omega)] at this
      omega
