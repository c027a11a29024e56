/-! sets as bits -/
theorem bor_chk : alln 8 (fun i => alln (2 ^ i) (fun s => decide (pop (o_or s (o_shl 1 i)) = pop s + 1) && decide (o_or s (o_shl 1 i) = (s : Int) + 2 ^ i) && decide (o_or s 0 = (s : Int)) && alln 8 (fun j => decide (bt (o_or s (o_shl 1 i)) j = if Nat.beq j i then 1 else bt s j)))) = true := by decide +kernel
theorem bor {i s : Int} (i0 : 0 ≤ i) (i8 : i < 8) (s0 : 0 ≤ s) (hs : s < 2 ^ i.toNat) : pop (o_or s (o_shl 1 i)) = pop s + 1 ∧ o_or s (o_shl 1 i) = s + 2 ^ i.toNat ∧ o_or s 0 = s ∧ ∀ j, 0 ≤ j → j < 8 → bt (o_or s (o_shl 1 i)) j = if j = i then 1 else bt s j := by
  obtain ⟨i, rfl⟩ := Int.eq_ofNat_of_zero_le i0
  obtain ⟨s, rfl⟩ := Int.eq_ofNat_of_zero_le s0
  have hs' : s < 2 ^ i := by exact_mod_cast hs
  have h := alln_at (alln_at bor_chk i (by omega)) s hs'
  simp only [Bool.and_eq_true, decide_eq_true_eq] at h
  obtain ⟨⟨⟨h1, h2⟩, h3⟩, h4⟩ := h
  refine ⟨h1, h2, h3, fun j j0 j8 => ?_⟩
  obtain ⟨j, rfl⟩ := Int.eq_ofNat_of_zero_le j0
  have := alln_at h4 j (by omega)
  simp only [decide_eq_true_eq] at this
  rw [this]
  by_cases e : j = i
  · subst e; simp
  · rw [if_neg (by intro q; exact e (Nat.eq_of_beq_eq_true q)), if_neg (by omega)]
theorem two_pow_succ {i : Int} (h : 0 ≤ i) : (2 : Int) ^ (i + 1).toNat = 2 ^ i.toNat + 2 ^ i.toNat := by
  rw [show (i + 1).toNat = i.toNat + 1 by omega, Int.pow_succ]
  omega
/-- the set of those of which p holds: with o_or s 0 where it doesn't -/
def bsA (p : Int → Bool) (j : Nat) (i s : Int) : Int := fo (fun k s => if p k = true then o_or s (o_shl 1 k) else s) j i s
theorem bsA_all (p : Int → Bool) : ∀ (j : Nat) (i s : Int), 0 ≤ i → i + j ≤ 8 → 0 ≤ s → s < 2 ^ i.toNat →
    (0 ≤ bsA p j i s ∧ bsA p j i s < 2 ^ (i + j).toNat) ∧ pop (bsA p j i s) = pop s + fo (fun k (q : Int) => if p k = true then q + 1 else q) j i 0 ∧ (∀ k, 0 ≤ k → k < 8 → bt (bsA p j i s) k = if i ≤ k ∧ k < i + j then (if p k = true then 1 else 0) else bt s k) := by
  intro j
  induction j with
  | zero =>
    intro i s i0 ij s0 hs
    refine ⟨⟨s0, by show s < 2 ^ (i + ((0 : Nat) : Int)).toNat; simpa using hs⟩, by simp [bsA, fo], fun k k0 k8 => ?_⟩
    rw [if_neg (by omega)]
    rfl
  | succ j ih =>
    intro i s i0 ij s0 hs
    obtain ⟨b1, b2, b3, b4⟩ := bor i0 (by omega) s0 hs
    have hp : (0 : Int) < 2 ^ i.toNat := Int.pow_pos (by omega)
    have h2 := two_pow_succ i0
    by_cases hpi : p i = true
    · obtain ⟨⟨a1, a2⟩, a3, a4⟩ := ih (i + 1) (o_or s (o_shl 1 i)) (by omega) (by omega) (by rw [b2]; omega) (by rw [b2]; omega)
      have e : bsA p (j + 1) i s = bsA p j (i + 1) (o_or s (o_shl 1 i)) := by simp only [bsA, fo]; rw [if_pos hpi]
      rw [e]
      refine ⟨⟨a1, by rw [show i + ((j + 1 : Nat) : Int) = i + 1 + j by omega]; exact a2⟩, ?_, fun k k0 k8 => ?_⟩
      · rw [a3, b1]
        simp only [fo]
        rw [if_pos hpi, cnt_fo p j (i + 1) (0 + 1)]
        omega
      · rw [a4 k k0 k8, b4 k k0 k8]
        by_cases e1 : k = i
        · subst e1; simp [hpi]; omega
        · by_cases e2 : i + 1 ≤ k ∧ k < i + 1 + j
          · rw [if_pos e2, if_pos (show i ≤ k ∧ k < i + ((j + 1 : Nat) : Int) by omega)]
          · rw [if_neg e2, if_neg e1, if_neg (by omega)]
    · obtain ⟨⟨a1, a2⟩, a3, a4⟩ := ih (i + 1) s (by omega) (by omega) s0 (by omega)
      have e : bsA p (j + 1) i s = bsA p j (i + 1) s := by simp only [bsA, fo]; rw [if_neg hpi]
      rw [e]
      refine ⟨⟨a1, by rw [show i + ((j + 1 : Nat) : Int) = i + 1 + j by omega]; exact a2⟩, ?_, fun k k0 k8 => ?_⟩
      · rw [a3]
        simp only [fo]
        rw [if_neg hpi]
      · rw [a4 k k0 k8]
        by_cases e1 : k = i
        · subst e1
          rw [if_neg (by omega), if_pos (by omega), if_neg hpi]
          -- the bit is not in s
          obtain ⟨i, rfl⟩ := Int.eq_ofNat_of_zero_le i0
          obtain ⟨s, rfl⟩ := Int.eq_ofNat_of_zero_le s0
          have hs' : s < 2 ^ i := by exact_mod_cast hs
          have h255 : (2 : Nat) ^ i ≤ 2 ^ 7 := Nat.pow_le_pow_right (by omega) (by omega)
          have h128 : (2 : Nat) ^ 7 = 128 := by decide
          unfold bt
          rw [o_shr_nat (by omega) (by omega), show (1 : Int) = ((1 : Nat) : Int) from rfl, o_and_nat (Nat.lt_of_le_of_lt (by rw [Nat.shiftRight_eq_div_pow]; exact Nat.div_le_self _ _) (show s < 2147483648 by omega)) (by omega)]
          rw [Nat.shiftRight_eq_div_pow, Nat.div_eq_of_lt hs']
          rfl
        · by_cases e2 : i + 1 ≤ k ∧ k < i + 1 + j
          · rw [if_pos e2, if_pos (show i ≤ k ∧ k < i + ((j + 1 : Nat) : Int) by omega)]
          · rw [if_neg e2, if_neg (by omega)]
/-- the same set with 'or 0' -/
theorem bsB_eq (p : Int → Bool) : ∀ (j : Nat) (i s : Int), 0 ≤ i → i + j ≤ 8 → 0 ≤ s → s < 2 ^ i.toNat → fo (fun k s => if p k = true then o_or s (o_shl 1 k) else o_or s 0) j i s = bsA p j i s := by
  intro j
  induction j with
  | zero => intro i s _ _ _ _; rfl
  | succ j ih =>
    intro i s i0 ij s0 hs
    obtain ⟨b1, b2, b3, b4⟩ := bor i0 (by omega) s0 hs
    have hp : (0 : Int) < 2 ^ i.toNat := Int.pow_pos (by omega)
    have h2 := two_pow_succ i0
    simp only [bsA, fo]
    by_cases hpi : p i = true
    · rw [if_pos hpi, if_pos hpi]; exact ih _ _ (by omega) (by omega) (by rw [b2]; omega) (by rw [b2]; omega)
    · rw [if_neg hpi, if_neg hpi, b3]; exact ih _ _ (by omega) (by omega) s0 (by omega)
abbrev bs (p : Int → Bool) (n : Int) : Int := bsA p n.toNat 0 0
theorem bs_all (p : Int → Bool) {n : Int} (h0 : 0 ≤ n) (h8 : n ≤ 8) : (0 ≤ bs p n ∧ bs p n < 2 ^ n.toNat) ∧ pop (bs p n) = cnt p n ∧ (∀ k, 0 ≤ k → k < 8 → bt (bs p n) k = if k < n ∧ p k = true then 1 else 0) := by
  obtain ⟨a1, a2, a3⟩ := bsA_all p n.toNat 0 0 (by omega) (by omega) (by omega) (by simp)
  refine ⟨⟨a1.1, by have := a1.2; rw [show ((0 : Int) + (n.toNat : Nat)).toNat = n.toNat by omega] at this; exact this⟩, ?_, fun k k0 k8 => ?_⟩
  · rw [a2]
    have : pop 0 = 0 := by decide +kernel
    rw [this]
    unfold cnt
    omega
  · rw [a3 k k0 k8]
    have h0b : bt 0 k = 0 := by
      obtain ⟨k, rfl⟩ := Int.eq_ofNat_of_zero_le k0
      exact (by decide +kernel : ∀ k : Nat, k < 8 → bt 0 (k : Int) = 0) k (by omega)
    by_cases e : 0 ≤ k ∧ k < 0 + (n.toNat : Nat)
    · rw [if_pos e]
      by_cases e2 : p k = true
      · rw [if_pos e2, if_pos ⟨by omega, e2⟩]
      · rw [if_neg e2, if_neg (fun q => e2 q.2)]
    · rw [if_neg e, h0b, if_neg (fun q => e ⟨k0, by omega⟩)]
theorem bs_congr {p q : Int → Bool} {n : Int} (h : ∀ k, 0 ≤ k → k < n → p k = q k) : bs p n = bs q n := by
  unfold bs bsA
  apply fo_congr
  intro k s h1 h2
  rw [h k h1 (by omega)]
theorem bes01 (a b : Int) : bes a b = 0 ∨ bes a b = 1 := by unfold bes; split <;> simp
theorem bes_sym (a b : Int) : bes a b = bes b a := by unfold bes; simp only [or_comm]
theorem mbt01 (a b : Int) : mbt a b = 0 ∨ mbt a b = 1 := by unfold mbt; split <;> simp
theorem bsc_bs (x : Int → Int) (m p : Int) : bsc x m p = bs (fun q => decide (bes (x p) (x q) ≠ 0)) m := by
  unfold bsc bs bsA
  apply fo_congr
  intro k s _ _
  by_cases e : bes (x p) (x k) = 0 <;> simp [e]
theorem bsd_bs (x : Int → Int) {m : Int} (p : Int) (h : m ≤ 8) : bsd x m p = bs (fun q => decide (bes (x p) (x q) ≠ 0)) m := by
  by_cases h0 : 0 ≤ m
  · rw [show bs (fun q => decide (bes (x p) (x q) ≠ 0)) m = bsA (fun q => decide (bes (x p) (x q) ≠ 0)) m.toNat 0 0 from rfl, ← bsB_eq _ m.toNat 0 0 (by omega) (by omega) (by omega) (by simp)]
    unfold bsd
    apply fo_congr
    intro k s _ _
    by_cases e : bes (x p) (x k) = 0 <;> simp [e]
  · unfold bsd bs bsA
    rw [show m.toNat = 0 by omega]
    rfl
