/-! THE MATHEMATICS, base: runs as equations; numbers; bits; packed words -/
theorem ev_det {d m : Nat} {args : List MV} {μ : MM} {r : Option MV} {ν : MM} (h : Ev d m args μ (fun r' ν' => r' = r ∧ ν' = ν)) (Q : Option MV → MM → Prop) : Ev d m args μ Q ↔ Q r ν := by
  obtain ⟨N, r1, ν1, h1, rfl, rfl⟩ := h
  constructor
  · rintro ⟨N2, r2, ν2, h2, hq⟩
    have e1 := h1 (N + N2) (by omega)
    have e2 := h2 (N + N2) (by omega)
    rw [e1] at e2
    cases e2
    exact hq
  · intro hq
    exact ⟨N, _, _, h1, hq⟩
theorem at_det {d m pc : Nat} {ls st : List MV} {μ : MM} {r : Option MV} {ν : MM} (h : At d m pc ls st μ (fun r' ν' => r' = r ∧ ν' = ν)) (Q : Option MV → MM → Prop) : At d m pc ls st μ Q ↔ Q r ν := by
  obtain ⟨N, r1, ν1, h1, rfl, rfl⟩ := h
  constructor
  · rintro ⟨N2, r2, ν2, h2, hq⟩
    have e1 := h1 (N + N2) (by omega)
    have e2 := h2 (N + N2) (by omega)
    rw [e1] at e2
    cases e2
    exact hq
  · intro hq
    exact ⟨N, _, _, h1, hq⟩
theorem evI_eq {d m : Nat} {args : List MV} {μ ν : MM} {v : Int} (h : Ev d m args μ (QI fun x ν' => x = v ∧ ν' = ν)) (P : Int → MM → Prop) : EvI d m args μ P = P v ν := by
  refine propext (Iff.trans (ev_det (r := some (mI v)) (ν := ν) (ev_mono h fun r ν' hq => ?_) _) Iff.rfl)
  unfold QI at hq
  split at hq
  · exact ⟨by rw [hq.1], hq.2⟩
  · exact hq.elim
theorem evL_eq {d m : Nat} {args : List MV} {μ ν : MM} {v : Int} (h : Ev d m args μ (QL fun x ν' => x = v ∧ ν' = ν)) (P : Int → MM → Prop) : EvL d m args μ P = P v ν := by
  refine propext (Iff.trans (ev_det (r := some (mL v)) (ν := ν) (ev_mono h fun r ν' hq => ?_) _) Iff.rfl)
  unfold QL at hq
  split at hq
  · exact ⟨by rw [hq.1], hq.2⟩
  · exact hq.elim
theorem evV_eq {d m : Nat} {args : List MV} {μ ν : MM} (h : Ev d m args μ (QV fun ν' => ν' = ν)) (P : MM → Prop) : EvV d m args μ P = P ν := by
  refine propext (Iff.trans (ev_det (r := none) (ν := ν) (ev_mono h fun r ν' hq => ?_) _) Iff.rfl)
  unfold QV at hq
  split at hq
  · exact ⟨rfl, hq⟩
  · exact hq.elim
theorem evR_eq {d m : Nat} {args : List MV} {μ ν : MM} {v : Int} (h : Ev d m args μ (QR fun x ν' => x = v ∧ ν' = ν)) (P : Int → MM → Prop) : EvR d m args μ P = P v ν := by
  refine propext (Iff.trans (ev_det (r := some (mR 11 v)) (ν := ν) (ev_mono h fun r ν' hq => ?_) _) Iff.rfl)
  unfold QR at hq
  split at hq
  · exact ⟨by rw [hq.1], hq.2⟩
  · exact hq.elim
theorem evO_eq {d m : Nat} {args : List MV} {μ ν : MM} {v : Int} (h : Ev d m args μ (QO fun x ν' => x = v ∧ ν' = ν)) (P : Int → MM → Prop) : EvO d m args μ P = P v ν := by
  refine propext (Iff.trans (ev_det (r := some (mR 15 v)) (ν := ν) (ev_mono h fun r ν' hq => ?_) _) Iff.rfl)
  unfold QO at hq
  split at hq
  · exact ⟨by rw [hq.1], hq.2⟩
  · exact hq.elim
theorem qi_mono {P P' : Int → MM → Prop} (h : ∀ x ν, P x ν → P' x ν) : ∀ r ν, QI P r ν → QI P' r ν := by
  intro r ν hq
  unfold QI at hq ⊢
  split at hq
  · exact h _ _ hq
  · exact hq.elim
theorem ql_mono {P P' : Int → MM → Prop} (h : ∀ x ν, P x ν → P' x ν) : ∀ r ν, QL P r ν → QL P' r ν := by
  intro r ν hq
  unfold QL at hq ⊢
  split at hq
  · exact h _ _ hq
  · exact hq.elim
theorem qv_mono {P P' : MM → Prop} (h : ∀ ν, P ν → P' ν) : ∀ r ν, QV P r ν → QV P' r ν := by
  intro r ν hq
  unfold QV at hq ⊢
  split at hq
  · exact h _ hq
  · exact hq.elim
theorem w32i {x : Int} (h1 : -2147483648 ≤ x) (h2 : x < 2147483648) : w32 x = x := by unfold w32; omega
theorem w64i {x : Int} (h1 : -9223372036854775808 ≤ x) (h2 : x < 9223372036854775808) : w64 x = x := by unfold w64; omega
/-! bits by natural numbers -/
theorem bi_nat {x : Int32} {n : Nat} (h : x.toBitVec.toNat = n) (hn : n < 2147483648) : x.toInt = (n : Int) := by
  show x.toBitVec.toInt = n
  rw [BitVec.toInt_eq_toNat_of_lt (by rw [h]; omega), h]
theorem bi_of {a : Nat} (h : a < 4294967296) : (Int32.ofInt (a : Int)).toBitVec.toNat = a := by
  rw [Int32.toBitVec_ofInt, BitVec.toNat_ofInt]
  omega
theorem o_and_nat {a b : Nat} (ha : a < 2147483648) (hb : b < 2147483648) : o_and (a : Int) (b : Int) = ((a &&& b : Nat) : Int) := by
  unfold o_and
  apply bi_nat
  · rw [Int32.toBitVec_and, BitVec.toNat_and, bi_of (by omega), bi_of (by omega)]
  · exact Nat.lt_of_le_of_lt Nat.and_le_left ha
theorem o_or_nat {a b : Nat} (ha : a < 2147483648) (hb : b < 2147483648) : o_or (a : Int) (b : Int) = ((a ||| b : Nat) : Int) := by
  unfold o_or
  apply bi_nat
  · rw [Int32.toBitVec_or, BitVec.toNat_or, bi_of (by omega), bi_of (by omega)]
  · exact Nat.or_lt_two_pow (n := 31) ha hb
theorem bi_sm : ∀ n : Nat, n < 32 → ((Int32.ofInt (n : Int) &&& 31).toBitVec.smod 32).toNat = n := by decide +kernel
theorem o_shl_nat {a k : Nat} (hk : k < 32) (ha : a < 2147483648) (h : a <<< k < 2147483648) : o_shl (a : Int) (k : Int) = ((a <<< k : Nat) : Int) := by
  unfold o_shl
  apply bi_nat _ h
  rw [Int32.toBitVec_shiftLeft]
  show ((Int32.ofInt (a : Int)).toBitVec <<< ((Int32.ofInt (k : Int) &&& 31).toBitVec.smod 32).toNat).toNat = _
  rw [bi_sm k hk, BitVec.toNat_shiftLeft, bi_of (by omega), Nat.mod_eq_of_lt (by omega)]
theorem o_shr_nat {a k : Nat} (hk : k < 32) (ha : a < 2147483648) : o_shr (a : Int) (k : Int) = ((a >>> k : Nat) : Int) := by
  unfold o_shr
  have hm : (Int32.ofInt (a : Int)).toBitVec.msb = false := by
    rw [BitVec.msb_eq_false_iff_two_mul_lt, bi_of (by omega)]
    omega
  apply bi_nat
  · rw [Int32.toBitVec_shiftRight]
    show ((Int32.ofInt (a : Int)).toBitVec.sshiftRight ((Int32.ofInt (k : Int) &&& 31).toBitVec.smod 32).toNat).toNat = _
    rw [bi_sm k hk, BitVec.toNat_sshiftRight_of_msb_false hm, bi_of (by omega)]
  · exact Nat.lt_of_le_of_lt (by rw [Nat.shiftRight_eq_div_pow]; exact Nat.div_le_self _ _) ha
theorem o_div_of {x y : Int} (hx : 0 ≤ x) (hx' : x < 2147483648) (hy : 0 < y) (hy' : y < 2147483648) : o_div x y = x / y := by
  unfold o_div
  have ex := Int32.toInt_ofInt_of_le (n := x) (by omega) (by omega)
  have ey := Int32.toInt_ofInt_of_le (n := y) (by omega) (by omega)
  have h1 : 0 ≤ x / y := Int.ediv_nonneg hx (by omega)
  have h2 : x / y ≤ x := Int.ediv_le_self _ hx
  rw [Int32.toInt_div, ex, ey, Int.tdiv_eq_ediv_of_nonneg hx]
  rw [Int.bmod_eq_of_le (by omega) (by omega)]
theorem o_rem_of {x y : Int} (hx : 0 ≤ x) (hx' : x < 2147483648) (hy : 0 < y) (hy' : y < 2147483648) : o_rem x y = x % y := by
  unfold o_rem
  have ex := Int32.toInt_ofInt_of_le (n := x) (by omega) (by omega)
  have ey := Int32.toInt_ofInt_of_le (n := y) (by omega) (by omega)
  have h1 : 0 ≤ x / y := Int.ediv_nonneg hx (by omega)
  have h2 : x / y ≤ x := Int.ediv_le_self _ hx
  have h3 := Int.emod_nonneg x (b := y) (by omega)
  have h4 := Int.emod_lt_of_pos x hy
  have h5 : x / y * y = x - x % y := by
    have := Int.mul_ediv_add_emod x y
    rw [Int.mul_comm]
    omega
  rw [Int32.toInt_sub, Int32.toInt_mul, Int32.toInt_div, ex, ey, Int.tdiv_eq_ediv_of_nonneg hx]
  rw [Int.bmod_eq_of_le (n := x / y) (by omega) (by omega), h5]
  rw [Int.bmod_eq_of_le (n := x - x % y) (by omega) (by omega)]
  rw [Int.bmod_eq_of_le (by omega) (by omega)]
  omega
theorem o_ldiv_of {x y : Int} (hx : 0 ≤ x) (hx' : x < 9223372036854775808) (hy : 0 < y) (hy' : y < 9223372036854775808) : o_ldiv x y = x / y := by
  unfold o_ldiv
  have ex := Int64.toInt_ofInt_of_le (n := x) (by omega) (by omega)
  have ey := Int64.toInt_ofInt_of_le (n := y) (by omega) (by omega)
  have h1 : 0 ≤ x / y := Int.ediv_nonneg hx (by omega)
  have h2 : x / y ≤ x := Int.ediv_le_self _ hx
  rw [Int64.toInt_div, ex, ey, Int.tdiv_eq_ediv_of_nonneg hx]
  rw [Int.bmod_eq_of_le (by omega) (by omega)]
theorem o_lrem_of {x y : Int} (hx : 0 ≤ x) (hx' : x < 9223372036854775808) (hy : 0 < y) (hy' : y < 9223372036854775808) : o_lrem x y = x % y := by
  unfold o_lrem
  have ex := Int64.toInt_ofInt_of_le (n := x) (by omega) (by omega)
  have ey := Int64.toInt_ofInt_of_le (n := y) (by omega) (by omega)
  have h1 : 0 ≤ x / y := Int.ediv_nonneg hx (by omega)
  have h2 : x / y ≤ x := Int.ediv_le_self _ hx
  have h3 := Int.emod_nonneg x (b := y) (by omega)
  have h4 := Int.emod_lt_of_pos x hy
  have h5 : x / y * y = x - x % y := by
    have := Int.mul_ediv_add_emod x y
    rw [Int.mul_comm]
    omega
  rw [Int64.toInt_sub, Int64.toInt_mul, Int64.toInt_div, ex, ey, Int.tdiv_eq_ediv_of_nonneg hx]
  rw [Int.bmod_eq_of_le (n := x / y) (by omega) (by omega), h5]
  rw [Int.bmod_eq_of_le (n := x - x % y) (by omega) (by omega)]
  rw [Int.bmod_eq_of_le (by omega) (by omega)]
  omega
/-! packed words: digits of three bits -/
def dg (x i : Int) : Int := o_and (o_shr x (w32 (3 * i))) 7
theorem dg_nat {x i : Nat} (hx : x < 2147483648) (hi : i < 10) : dg (x : Int) (i : Int) = ((x >>> (3 * i) &&& 7 : Nat) : Int) := by
  unfold dg
  rw [w32i (by omega) (by omega), show (3 * (i : Int)) = ((3 * i : Nat) : Int) by omega, o_shr_nat (by omega) hx]
  rw [show (7 : Int) = ((7 : Nat) : Int) by rfl, o_and_nat _ (by omega)]
  exact Nat.lt_of_le_of_lt (by rw [Nat.shiftRight_eq_div_pow]; exact Nat.div_le_self _ _) hx
theorem bi_and7 (x : BitVec 32) : (x &&& 7#32).toNat < 8 := by
  rw [BitVec.toNat_and]
  exact Nat.lt_of_le_of_lt Nat.and_le_right (by decide)
theorem dg_rg (x i : Int) : 0 ≤ dg x i ∧ dg x i < 8 := by
  unfold dg o_and
  have h : (Int32.ofInt (o_shr x (w32 (3 * i))) &&& Int32.ofInt 7).toBitVec.toNat < 8 := by
    rw [Int32.toBitVec_and]
    exact bi_and7 _
  rw [bi_nat rfl (by omega)]
  omega
theorem na_or {x v k i : Nat} (hv : v < 8) : ((x ||| v <<< (3 * k)) >>> (3 * i)) &&& 7 = if i = k then ((x >>> (3 * k)) &&& 7) ||| v else (x >>> (3 * i)) &&& 7 := by
  have h7 : ∀ j, Nat.testBit 7 j = decide (j < 3) := fun j => by
    have : (7 : Nat) = 2 ^ 3 - 1 := rfl
    rw [this, Nat.testBit_two_pow_sub_one]
  have hv3 : ∀ j, 3 ≤ j → v.testBit j = false := fun j hj => Nat.testBit_lt_two_pow (Nat.lt_of_lt_of_le hv (by
    have : 2 ^ 3 ≤ 2 ^ j := Nat.pow_le_pow_right (by omega) hj
    omega))
  apply Nat.eq_of_testBit_eq
  intro j
  by_cases hj : j < 3
  · split
    · rename_i e
      subst e
      simp [Nat.testBit_and, Nat.testBit_or, Nat.testBit_shiftRight, Nat.testBit_shiftLeft, h7, hj]
    · rename_i e
      simp only [Nat.testBit_and, Nat.testBit_or, Nat.testBit_shiftRight, Nat.testBit_shiftLeft, h7]
      by_cases h : 3 * k ≤ 3 * i + j
      · rw [hv3 (3 * i + j - 3 * k) (by omega)]; simp
      · simp [h]
  · have hb : v.testBit j = false := hv3 j (by omega)
    split <;> simp [Nat.testBit_and, Nat.testBit_or, h7, hj, hb]
theorem na_lt {x v k n : Nat} (hx : x < 8 ^ n) (hv : v < 8) (hk : k < n) : x ||| v <<< (3 * k) < 8 ^ n := by
  have e : (8 : Nat) ^ n = 2 ^ (3 * n) := by rw [Nat.pow_mul]
  rw [e] at hx ⊢
  apply Nat.or_lt_two_pow hx
  rw [Nat.shiftLeft_eq]
  have h1 : v * 2 ^ (3 * k) < 8 * 2 ^ (3 * k) := Nat.mul_lt_mul_of_pos_right hv (Nat.pow_pos (by omega))
  have h2 : 8 * 2 ^ (3 * k) = 2 ^ (3 * k + 3) := by rw [Nat.pow_add, Nat.mul_comm]
  have h3 : 2 ^ (3 * k + 3) ≤ 2 ^ (3 * n) := Nat.pow_le_pow_right (by omega) (by omega)
  omega
theorem na_ext : ∀ (n : Nat) {x y : Nat}, x < 8 ^ n → y < 8 ^ n → (∀ i, i < n → x >>> (3 * i) &&& 7 = y >>> (3 * i) &&& 7) → x = y := by
  intro n
  induction n with
  | zero => intro x y hx hy _; simp at hx hy; omega
  | succ n ih =>
    intro x y hx hy h
    have e0 := h 0 (by omega)
    simp only [Nat.mul_zero, Nat.shiftRight_zero] at e0
    have h7 : ∀ z : Nat, z &&& 7 = z % 8 := fun z => Nat.and_two_pow_sub_one_eq_mod z 3
    rw [h7, h7] at e0
    have e1 := ih (x := x / 8) (y := y / 8) (by rw [Nat.pow_succ] at hx; omega) (by rw [Nat.pow_succ] at hy; omega) (fun i hi => by
      have := h (i + 1) (by omega)
      rw [Nat.shiftRight_eq_div_pow, Nat.shiftRight_eq_div_pow] at this ⊢
      rw [show 3 * (i + 1) = 3 + 3 * i by omega, Nat.pow_add, ← Nat.div_div_eq_div_mul, ← Nat.div_div_eq_div_mul] at this
      exact this)
    omega
theorem dg_or {x v k i : Int} {n : Nat} (hn : n ≤ 9) (hx : 0 ≤ x) (hx' : x < 8 ^ n) (hv : 0 ≤ v) (hv' : v < 8) (hk : 0 ≤ k) (hk' : k < n) (hi : 0 ≤ i) (hi' : i < n) (hz : dg x k = 0) :
    dg (o_or x (o_shl v (w32 (3 * k)))) i = if i = k then v else dg x i := by
  obtain ⟨x, rfl⟩ := Int.eq_ofNat_of_zero_le hx
  obtain ⟨v, rfl⟩ := Int.eq_ofNat_of_zero_le hv
  obtain ⟨k, rfl⟩ := Int.eq_ofNat_of_zero_le hk
  obtain ⟨i, rfl⟩ := Int.eq_ofNat_of_zero_le hi
  have hx2 : x < 8 ^ n := by exact_mod_cast hx'
  have h8 : (8 : Nat) ^ n ≤ 8 ^ 9 := Nat.pow_le_pow_right (by omega) hn
  have hb : x ||| v <<< (3 * k) < 8 ^ n := na_lt hx2 (by omega) (by omega)
  have hv2 : v <<< (3 * k) < 8 ^ n := by
    have := na_lt (x := 0) (n := n) (Nat.pow_pos (by omega)) (show v < 8 by omega) (show k < n by omega)
    simpa using this
  have h9 : (8 : Nat) ^ 9 = 134217728 := by decide
  rw [w32i (by omega) (by omega), show (3 * (k : Int)) = ((3 * k : Nat) : Int) by omega, o_shl_nat (by omega) (by omega) (by omega), o_or_nat (by omega) (by omega), dg_nat (by omega) (by omega), na_or (by omega)]
  rw [dg_nat (by omega) (by omega)] at hz ⊢
  have hz' : x >>> (3 * k) &&& 7 = 0 := by exact_mod_cast hz
  by_cases e : i = k
  · subst e; simp [hz']
  · rw [if_neg e, if_neg (by omega)]
theorem dg_or_rg {x v k : Int} {n : Nat} (hn : n ≤ 9) (hx : 0 ≤ x) (hx' : x < 8 ^ n) (hv : 0 ≤ v) (hv' : v < 8) (hk : 0 ≤ k) (hk' : k < n) :
    0 ≤ o_or x (o_shl v (w32 (3 * k))) ∧ o_or x (o_shl v (w32 (3 * k))) < 8 ^ n := by
  obtain ⟨x, rfl⟩ := Int.eq_ofNat_of_zero_le hx
  obtain ⟨v, rfl⟩ := Int.eq_ofNat_of_zero_le hv
  obtain ⟨k, rfl⟩ := Int.eq_ofNat_of_zero_le hk
  have hx2 : x < 8 ^ n := by exact_mod_cast hx'
  have h8 : (8 : Nat) ^ n ≤ 8 ^ 9 := Nat.pow_le_pow_right (by omega) hn
  have hb : x ||| v <<< (3 * k) < 8 ^ n := na_lt hx2 (by omega) (by omega)
  have hv2 : v <<< (3 * k) < 8 ^ n := by
    have := na_lt (x := 0) (n := n) (Nat.pow_pos (by omega)) (show v < 8 by omega) (show k < n by omega)
    simpa using this
  have h9 : (8 : Nat) ^ 9 = 134217728 := by decide
  rw [w32i (by omega) (by omega), show (3 * (k : Int)) = ((3 * k : Nat) : Int) by omega, o_shl_nat (by omega) (by omega) (by omega), o_or_nat (by omega) (by omega)]
  exact ⟨by omega, by exact_mod_cast hb⟩
theorem dg_ext {x y : Int} {n : Nat} (hn : n ≤ 9) (hx : 0 ≤ x) (hx' : x < 8 ^ n) (hy : 0 ≤ y) (hy' : y < 8 ^ n) (h : ∀ i : Int, 0 ≤ i → i < n → dg x i = dg y i) : x = y := by
  obtain ⟨x, rfl⟩ := Int.eq_ofNat_of_zero_le hx
  obtain ⟨y, rfl⟩ := Int.eq_ofNat_of_zero_le hy
  have h8 : (8 : Nat) ^ n ≤ 8 ^ 9 := Nat.pow_le_pow_right (by omega) hn
  have h9 : (8 : Nat) ^ 9 = 134217728 := by decide
  have hx2 : x < 8 ^ n := by exact_mod_cast hx'
  have hy2 : y < 8 ^ n := by exact_mod_cast hy'
  have := na_ext n hx2 hy2 (fun i hi => by
    have := h i (by omega) (by omega)
    rw [dg_nat (by omega) (by omega), dg_nat (by omega) (by omega)] at this
    exact_mod_cast this)
  rw [this]
theorem dg_zero {i : Int} (hi : 0 ≤ i) (hi' : i < 10) : dg 0 i = 0 := by
  obtain ⟨i, rfl⟩ := Int.eq_ofNat_of_zero_le hi
  have := dg_nat (x := 0) (i := i) (by omega) (by omega)
  simpa using this
theorem dg_big {x i : Int} {n : Nat} (hn : n ≤ 9) (hx : 0 ≤ x) (hx' : x < 8 ^ n) (hi : (n : Int) ≤ i) (hi' : i < 10) : dg x i = 0 := by
  obtain ⟨x, rfl⟩ := Int.eq_ofNat_of_zero_le hx
  obtain ⟨i, rfl⟩ := Int.eq_ofNat_of_zero_le (show 0 ≤ i by omega)
  have h8 : (8 : Nat) ^ n ≤ 8 ^ 9 := Nat.pow_le_pow_right (by omega) hn
  have h9 : (8 : Nat) ^ 9 = 134217728 := by decide
  have hx2 : x < 8 ^ n := by exact_mod_cast hx'
  rw [dg_nat (by omega) (by omega)]
  have : x >>> (3 * i) = 0 := by
    rw [Nat.shiftRight_eq_div_pow, Nat.pow_mul]
    apply Nat.div_eq_of_lt
    have : 8 ^ n ≤ 8 ^ i := Nat.pow_le_pow_right (by omega) (by omega)
    exact Nat.lt_of_lt_of_le hx2 this
  rw [this]
  rfl
