/-! bits of a long -/
theorem li_nat {x : Int64} {n : Nat} (h : x.toBitVec.toNat = n) (hn : n < 9223372036854775808) : x.toInt = (n : Int) := by
  show x.toBitVec.toInt = n
  rw [BitVec.toInt_eq_toNat_of_lt (by rw [h]; omega), h]
theorem li_of {a : Nat} (h : a < 18446744073709551616) : (Int64.ofInt (a : Int)).toBitVec.toNat = a := by
  rw [Int64.toBitVec_ofInt, BitVec.toNat_ofInt]
  omega
theorem o_land_nat {a b : Nat} (ha : a < 9223372036854775808) (hb : b < 9223372036854775808) : o_land (a : Int) (b : Int) = ((a &&& b : Nat) : Int) := by
  unfold o_land
  apply li_nat
  · rw [Int64.toBitVec_and, BitVec.toNat_and, li_of (by omega), li_of (by omega)]
  · exact Nat.lt_of_le_of_lt Nat.and_le_left ha
theorem o_lor_nat {a b : Nat} (ha : a < 9223372036854775808) (hb : b < 9223372036854775808) : o_lor (a : Int) (b : Int) = ((a ||| b : Nat) : Int) := by
  unfold o_lor
  apply li_nat
  · rw [Int64.toBitVec_or, BitVec.toNat_or, li_of (by omega), li_of (by omega)]
  · exact Nat.or_lt_two_pow (n := 63) ha hb
theorem li_sm : ∀ n : Nat, n < 64 → (((Int32.ofInt (n : Int)).toInt64 &&& 63).toBitVec.smod 64).toNat = n := by decide +kernel
theorem o_lshl_nat {a k : Nat} (hk : k < 64) (ha : a < 9223372036854775808) (h : a <<< k < 9223372036854775808) : o_lshl (a : Int) (k : Int) = ((a <<< k : Nat) : Int) := by
  unfold o_lshl
  apply li_nat _ h
  rw [Int64.toBitVec_shiftLeft]
  show ((Int64.ofInt (a : Int)).toBitVec <<< (((Int32.ofInt (k : Int)).toInt64 &&& 63).toBitVec.smod 64).toNat).toNat = _
  rw [li_sm k hk, BitVec.toNat_shiftLeft, li_of (by omega), Nat.mod_eq_of_lt (by omega)]
theorem o_lshr_nat {a k : Nat} (hk : k < 64) (ha : a < 9223372036854775808) : o_lshr (a : Int) (k : Int) = ((a >>> k : Nat) : Int) := by
  unfold o_lshr
  have hm : (Int64.ofInt (a : Int)).toBitVec.msb = false := by
    rw [BitVec.msb_eq_false_iff_two_mul_lt, li_of (by omega)]
    omega
  apply li_nat
  · rw [Int64.toBitVec_shiftRight]
    show ((Int64.ofInt (a : Int)).toBitVec.sshiftRight (((Int32.ofInt (k : Int)).toInt64 &&& 63).toBitVec.smod 64).toNat).toNat = _
    rw [li_sm k hk, BitVec.toNat_sshiftRight_of_msb_false hm, li_of (by omega)]
  · exact Nat.lt_of_le_of_lt (by rw [Nat.shiftRight_eq_div_pow]; exact Nat.div_le_self _ _) ha
def lb (x i : Int) : Int := o_land (o_lshr x i) 1
theorem lb_nat {x i : Nat} (hx : x < 9223372036854775808) (hi : i < 64) : lb (x : Int) (i : Int) = if x.testBit i = true then 1 else 0 := by
  unfold lb
  have h1 : x >>> i < 9223372036854775808 := Nat.lt_of_le_of_lt (by rw [Nat.shiftRight_eq_div_pow]; exact Nat.div_le_self _ _) hx
  rw [o_lshr_nat hi hx, show (1 : Int) = ((1 : Nat) : Int) from rfl, o_land_nat h1 (by omega), Nat.and_one_is_mod, Nat.shiftRight_eq_div_pow, ← Nat.toNat_testBit]
  cases x.testBit i <;> rfl
theorem lor_rg {x y : Int} (x0 : 0 ≤ x) (x1 : x < 4611686018427387904) (y0 : 0 ≤ y) (y1 : y < 4611686018427387904) : 0 ≤ o_lor x y ∧ o_lor x y < 4611686018427387904 := by
  obtain ⟨x, rfl⟩ := Int.eq_ofNat_of_zero_le x0
  obtain ⟨y, rfl⟩ := Int.eq_ofNat_of_zero_le y0
  rw [o_lor_nat (by omega) (by omega)]
  have := Nat.or_lt_two_pow (x := x) (y := y) (n := 62) (by omega) (by omega)
  omega
theorem lb_or {x y i : Int} (x0 : 0 ≤ x) (x1 : x < 4611686018427387904) (y0 : 0 ≤ y) (y1 : y < 4611686018427387904) (i0 : 0 ≤ i) (i1 : i < 62) : lb (o_lor x y) i = 1 ↔ lb x i = 1 ∨ lb y i = 1 := by
  obtain ⟨x, rfl⟩ := Int.eq_ofNat_of_zero_le x0
  obtain ⟨y, rfl⟩ := Int.eq_ofNat_of_zero_le y0
  obtain ⟨i, rfl⟩ := Int.eq_ofNat_of_zero_le i0
  have := Nat.or_lt_two_pow (x := x) (y := y) (n := 62) (by omega) (by omega)
  rw [o_lor_nat (by omega) (by omega), lb_nat (by omega) (by omega), lb_nat (by omega) (by omega), lb_nat (by omega) (by omega), Nat.testBit_or]
  cases x.testBit i <;> cases y.testBit i <;> simp
theorem lb_01 {x i : Int} (x0 : 0 ≤ x) (x1 : x < 4611686018427387904) (i0 : 0 ≤ i) (i1 : i < 62) : lb x i = 0 ∨ lb x i = 1 := by
  obtain ⟨x, rfl⟩ := Int.eq_ofNat_of_zero_le x0
  obtain ⟨i, rfl⟩ := Int.eq_ofNat_of_zero_le i0
  rw [lb_nat (by omega) (by omega)]
  split
  · exact Or.inr rfl
  · exact Or.inl rfl
theorem lb_0 {i : Int} (i0 : 0 ≤ i) (i1 : i < 62) : lb 0 i = 0 := by
  obtain ⟨i, rfl⟩ := Int.eq_ofNat_of_zero_le i0
  rw [show (0 : Int) = ((0 : Nat) : Int) from rfl, lb_nat (by omega) (by omega), Nat.zero_testBit]
  rfl
theorem lb_one {i j : Int} (i0 : 0 ≤ i) (i1 : i < 62) (j0 : 0 ≤ j) (j1 : j < 62) : (0 ≤ o_lshl 1 i ∧ o_lshl 1 i < 4611686018427387904) ∧ (lb (o_lshl 1 i) j = 1 ↔ j = i) := by
  obtain ⟨i, rfl⟩ := Int.eq_ofNat_of_zero_le i0
  obtain ⟨j, rfl⟩ := Int.eq_ofNat_of_zero_le j0
  have h : 2 ^ i < 2 ^ 62 := Nat.pow_lt_pow_right (by omega) (by omega)
  have h62 : (2 : Nat) ^ 62 = 4611686018427387904 := rfl
  rw [h62] at h
  have e : o_lshl 1 (i : Int) = ((2 ^ i : Nat) : Int) := by
    rw [show (1 : Int) = ((1 : Nat) : Int) from rfl, o_lshl_nat (by omega) (by omega) (by rw [Nat.one_shiftLeft]; omega), Nat.one_shiftLeft]
  rw [e, lb_nat (by omega) (by omega), Nat.testBit_two_pow]
  refine ⟨⟨Int.natCast_nonneg _, Int.ofNat_lt.mpr h⟩, ?_⟩
  by_cases q : i = j
  · subst q; simp
  · have : ¬ ((j : Int) = (i : Int)) := by omega
    simp [q, this]
theorem w32_rg (x : Int) : -2147483648 ≤ w32 x ∧ w32 x < 2147483648 := by unfold w32; omega
/-! pairs of slots -/
def OP (S : MC) (a b a' b' : Int) : Prop := ∃ i, 0 ≤ i ∧ i < S 0 0 ∧ ((dg (S 1 i) a = a' ∧ dg (S 1 i) b = b') ∨ (dg (S 1 i) a = b' ∧ dg (S 1 i) b = a'))
theorem OP.sym {n u : Int} {g : Int → Int} {S : MC} (n2 : 2 ≤ n) (n6 : n ≤ 6) (B : BV n g u S) (C : Cls n g u (S 0 0) S) (hw : 0 < S 0 0) (h0 : S 1 0 = sam n) (hg : ∀ t, 0 ≤ t → t < u → PM (g t) n) {a b a' b' : Int} (a0 : 0 ≤ a ∧ a < n) (b0 : 0 ≤ b ∧ b < n) (h : OP S a b a' b') : OP S a' b' a b := by
  obtain ⟨i, i0, i1, hi⟩ := h
  have hp := (B.2.1 i i0 i1).1
  have hr := RM.all n2 n6 B C hg (i + 1).toNat i i0 (by omega) i1
  have hv := RM.inv n2 n6 B hw h0 hr
  obtain ⟨j0, j1, j2⟩ := hv.at n2 n6 B
  have hk : ∀ k, 0 ≤ k → k < n → dg (inv6 (S 1 i) n) (dg (S 1 i) k) = k := fun k k0 k1 => by
    have e := congrArg (fun y => dg y k) (thr_inv n2 n6 hp)
    simp only [(thr_all (a := S 1 i) (b := inv6 (S 1 i) n) (n := n) (by omega) (by omega)).2 k k0 k1, (sam_all (show 0 ≤ n by omega) n6).2.1 k k0 k1] at e
    exact e
  refine ⟨_, j0, j1, ?_⟩
  rw [j2]
  rcases hi with ⟨e1, e2⟩ | ⟨e1, e2⟩
  · exact Or.inl ⟨by rw [← e1]; exact hk a a0.1 a0.2, by rw [← e2]; exact hk b b0.1 b0.2⟩
  · exact Or.inr ⟨by rw [← e2]; exact hk b b0.1 b0.2, by rw [← e1]; exact hk a a0.1 a0.2⟩
theorem OP.trans {n u : Int} {g : Int → Int} {S : MC} (n2 : 2 ≤ n) (n6 : n ≤ 6) (B : BV n g u S) (C : Cls n g u (S 0 0) S) (hg : ∀ t, 0 ≤ t → t < u → PM (g t) n) {a b a' b' p q : Int} (a0 : 0 ≤ a ∧ a < n) (b0 : 0 ≤ b ∧ b < n) (h : OP S a b a' b') (h' : OP S a' b' p q) : OP S a b p q := by
  obtain ⟨i, i0, i1, hi⟩ := h
  obtain ⟨j, j0, j1, hj⟩ := h'
  have hp := B.2.1 i i0 i1
  have hr := RM.all n2 n6 B C hg (j + 1).toNat j j0 (by omega) j1
  have hv := hr.2 (S 1 i) ⟨hp.1, by rw [hp.2.1]; omega⟩
  obtain ⟨k0, k1, k2⟩ := hv.at n2 n6 B
  refine ⟨_, k0, k1, ?_⟩
  rw [k2, (thr_all (by omega) (by omega)).2 a a0.1 a0.2, (thr_all (by omega) (by omega)).2 b b0.1 b0.2]
  rcases hi with ⟨e1, e2⟩ | ⟨e1, e2⟩
  · rw [e1, e2]; exact hj
  · rw [e1, e2]
    rcases hj with ⟨f1, f2⟩ | ⟨f1, f2⟩
    · exact Or.inr ⟨f2, f1⟩
    · exact Or.inl ⟨f2, f1⟩
def erl (a b k l : Int) : Bool := decide ((if a < b then b else a) < l ∨ ((if a < b then b else a) = l ∧ (if b < a then b else a) < k))
def lstV (S : MC) (k l : Int) : Int := fi (fun i => erl (dg (S 1 i) k) (dg (S 1 i) l) k l) (fun _ => 0) 1 (S 0 0).toNat 0
def bfr (p q k l : Int) : Prop := q < l ∨ (q = l ∧ p < k)
def PI (n : Int) (S : MC) (b k l : Int) : Prop := (0 ≤ b ∧ b < 4611686018427387904) ∧ ∀ x y, 0 ≤ x → x < y → y < n → (lb b (8 * x + y) = 1 ↔ ∃ p q, 0 ≤ p ∧ p < q ∧ q < n ∧ bfr p q k l ∧ OP S p q x y)
def pfF (S : MC) (k l i s : Int) : Int := o_lor s (o_lshl 1 (8 * (if dg (S 1 i) l < dg (S 1 i) k then dg (S 1 i) l else dg (S 1 i) k) + (if dg (S 1 i) k < dg (S 1 i) l then dg (S 1 i) l else dg (S 1 i) k)))
theorem pf_all {n : Int} {S : MC} {k l : Int} (n6 : n ≤ 6) (hk : 0 ≤ k ∧ k < n) (hl : 0 ≤ l ∧ l < n) : ∀ (j : Nat) (i s : Int), 0 ≤ i → (∀ i', 0 ≤ i' → i' < i + j → PM (S 1 i') n) → 0 ≤ s → s < 4611686018427387904 → (0 ≤ fo (pfF S k l) j i s ∧ fo (pfF S k l) j i s < 4611686018427387904) ∧ ∀ x y, 0 ≤ x → x < y → y < n → (lb (fo (pfF S k l) j i s) (8 * x + y) = 1 ↔ lb s (8 * x + y) = 1 ∨ ∃ i', i ≤ i' ∧ i' < i + j ∧ ((dg (S 1 i') k = x ∧ dg (S 1 i') l = y) ∨ (dg (S 1 i') k = y ∧ dg (S 1 i') l = x))) := by
  intro j
  induction j with
  | zero =>
    intro i s i0 _ s0 s1
    refine ⟨⟨s0, s1⟩, fun x y _ _ _ => ⟨Or.inl, fun h => ?_⟩⟩
    rcases h with h | ⟨i', h1, h2, _⟩
    · exact h
    · omega
  | succ j ih =>
    intro i s i0 hp s0 s1
    have r1 := (hp i i0 (by omega)).rg k hk.1 hk.2
    have r2 := (hp i i0 (by omega)).rg l hl.1 hl.2
    generalize ha : dg (S 1 i) k = a at *
    generalize hb : dg (S 1 i) l = b at *
    have hm : 0 ≤ 8 * (if b < a then b else a) + (if a < b then b else a) ∧ 8 * (if b < a then b else a) + (if a < b then b else a) < 62 := by constructor <;> (repeat' split) <;> omega
    have ho := (lb_one hm.1 hm.2 (Int.le_refl 0) (by omega)).1
    have hst : pfF S k l i s = o_lor s (o_lshl 1 (8 * (if b < a then b else a) + (if a < b then b else a))) := by unfold pfF; rw [ha, hb]
    have hr := lor_rg s0 s1 ho.1 ho.2
    rw [← hst] at hr
    have q := ih (i + 1) (pfF S k l i s) (by omega) (fun i' a b => hp i' a (by omega)) hr.1 hr.2
    simp only [fo]
    refine ⟨q.1, fun x y x0 xy y1 => ?_⟩
    rw [q.2 x y x0 xy y1, hst, lb_or s0 s1 ho.1 ho.2 (by omega) (by omega), (lb_one hm.1 hm.2 (by omega) (by omega)).2]
    constructor
    · rintro ((h | h) | ⟨i', h1, h2, h3⟩)
      · exact Or.inl h
      · refine Or.inr ⟨i, by omega, by omega, ?_⟩
        rw [ha, hb]
        revert h
        (repeat' split) <;> intro h <;> omega
      · exact Or.inr ⟨i', by omega, by omega, h3⟩
    · rintro (h | ⟨i', h1, h2, h3⟩)
      · exact Or.inl (Or.inl h)
      · by_cases e : i' = i
        · subst e
          rw [ha, hb] at h3
          refine Or.inl (Or.inr ?_)
          (repeat' split) <;> omega
        · exact Or.inr ⟨i', by omega, by omega, h3⟩
theorem lst_01 (S : MC) (k l : Int) : lstV S k l = 0 ∨ lstV S k l = 1 := by
  unfold lstV
  by_cases h : ∃ i, 0 ≤ i ∧ i < 0 + ((S 0 0).toNat : Int) ∧ erl (dg (S 1 i) k) (dg (S 1 i) l) k l = true
  · obtain ⟨i, i0, i1, hi⟩ := h
    exact Or.inl (fi_some _ 0 i i0 i1 hi)
  · exact Or.inr (fi_none _ 0 (fun i i0 i1 => Bool.eq_false_iff.mpr (fun q => h ⟨i, i0, i1, q⟩)))
theorem lst_iff {n u : Int} {g : Int → Int} {S : MC} (n2 : 2 ≤ n) (n6 : n ≤ 6) (B : BV n g u S) (C : Cls n g u (S 0 0) S) (hw : 0 < S 0 0) (h0 : S 1 0 = sam n) (hg : ∀ t, 0 ≤ t → t < u → PM (g t) n) {k l : Int} (k0 : 0 ≤ k) (kl : k < l) (l1 : l < n) : lstV S k l = 0 ↔ ∃ p q, 0 ≤ p ∧ p < q ∧ q < n ∧ bfr p q k l ∧ OP S p q k l := by
  constructor
  · intro h
    by_cases hx : ∃ i, 0 ≤ i ∧ i < 0 + ((S 0 0).toNat : Int) ∧ erl (dg (S 1 i) k) (dg (S 1 i) l) k l = true
    · obtain ⟨i, i0, i1, hi⟩ := hx
      have hp := (B.2.1 i i0 (by omega)).1
      have r1 := hp.rg k k0 (by omega)
      have r2 := hp.rg l (by omega) l1
      have hne : dg (S 1 i) k ≠ dg (S 1 i) l := fun e => by have := hp.2.2.2 k l k0 (by omega) (by omega) l1 e; omega
      have ho : ∀ p q, ((dg (S 1 i) k = p ∧ dg (S 1 i) l = q) ∨ (dg (S 1 i) k = q ∧ dg (S 1 i) l = p)) → OP S p q k l := fun p q h => OP.sym n2 n6 B C hw h0 hg ⟨k0, by omega⟩ ⟨by omega, l1⟩ ⟨i, i0, by omega, h⟩
      generalize ha : dg (S 1 i) k = a at *
      generalize hb : dg (S 1 i) l = b at *
      unfold erl at hi
      rw [decide_eq_true_eq] at hi
      by_cases hab : a < b
      · refine ⟨a, b, by omega, hab, by omega, ?_, ho _ _ (Or.inl ⟨rfl, rfl⟩)⟩
        rw [if_pos hab, if_neg (by omega)] at hi
        exact hi
      · refine ⟨b, a, by omega, by omega, by omega, ?_, ho _ _ (Or.inr ⟨rfl, rfl⟩)⟩
        rw [if_neg hab, if_pos (by omega)] at hi
        exact hi
    · exfalso
      have : lstV S k l = 1 := fi_none _ 0 (fun i i0 i1 => Bool.eq_false_iff.mpr (fun q => hx ⟨i, i0, i1, q⟩))
      omega
  · rintro ⟨p, q, p0, pq, q1, hb, ho⟩
    obtain ⟨i, i0, i1, hi⟩ := OP.sym n2 n6 B C hw h0 hg ⟨p0, by omega⟩ ⟨by omega, q1⟩ ho
    refine fi_some _ 0 i i0 (by omega) ?_
    unfold erl
    rw [decide_eq_true_eq]
    unfold bfr at hb
    rcases hi with ⟨e1, e2⟩ | ⟨e1, e2⟩
    · rw [e1, e2, if_pos pq, if_neg (by omega)]; exact hb
    · rw [e1, e2, if_neg (by omega), if_pos pq]; exact hb
theorem PI.step {n u : Int} {g : Int → Int} {S : MC} (n2 : 2 ≤ n) (n6 : n ≤ 6) (B : BV n g u S) (C : Cls n g u (S 0 0) S) (hw : 0 < S 0 0) (h0 : S 1 0 = sam n) (hg : ∀ t, 0 ≤ t → t < u → PM (g t) n) {b k l : Int} (k0 : 0 ≤ k) (kl : k < l) (l1 : l < n) (h : PI n S b k l) : (lb b (8 * k + l) = 0 → lstV S k l = 1 ∧ PI n S (o_lor b (fo (pfF S k l) (S 0 0).toNat 0 0)) (k + 1) l) ∧ (¬ lb b (8 * k + l) = 0 → lstV S k l = 0 ∧ PI n S b (k + 1) l) := by
  have hW := B.w
  have hiff := lst_iff n2 n6 B C hw h0 hg k0 kl l1
  have hb := h.2 k l k0 kl l1
  rw [← hiff] at hb
  have h01 := lst_01 S k l
  have hmono : ∀ p q, bfr p q (k + 1) l ↔ bfr p q k l ∨ (p = k ∧ q = l) := fun p q => by unfold bfr; omega
  constructor
  · intro hz
    have hl : lstV S k l = 1 := by
      rcases h01 with e | e
      · have := hb.2 e; omega
      · exact e
    obtain ⟨pr, pb⟩ := pf_all (S := S) n6 ⟨k0, by omega⟩ ⟨by omega, l1⟩ (S 0 0).toNat 0 0 (by omega) (fun i a b => (B.2.1 i a (by omega)).1) (by omega) (by omega)
    refine ⟨hl, lor_rg h.1.1 h.1.2 pr.1 pr.2, fun x y x0 xy y1 => ?_⟩
    rw [lb_or h.1.1 h.1.2 pr.1 pr.2 (by omega) (by omega), h.2 x y x0 xy y1, pb x y x0 xy y1, lb_0 (by omega) (by omega)]
    constructor
    · rintro (⟨p, q, p0, pq, q1, pb, po⟩ | (e | ⟨i, i0, i1, hi⟩))
      · exact ⟨p, q, p0, pq, q1, (hmono p q).2 (Or.inl pb), po⟩
      · omega
      · exact ⟨k, l, k0, kl, l1, (hmono k l).2 (Or.inr ⟨rfl, rfl⟩), i, i0, by omega, hi⟩
    · rintro ⟨p, q, p0, pq, q1, pb, po⟩
      rcases (hmono p q).1 pb with e | ⟨rfl, rfl⟩
      · exact Or.inl ⟨p, q, p0, pq, q1, e, po⟩
      · obtain ⟨i, i0, i1, hi⟩ := po
        exact Or.inr (Or.inr ⟨i, i0, by omega, hi⟩)
  · intro hz
    have hz1 : lb b (8 * k + l) = 1 := by
      rcases lb_01 h.1.1 h.1.2 (show 0 ≤ 8 * k + l by omega) (by omega) with e | e
      · exact absurd e hz
      · exact e
    refine ⟨hb.1 hz1, h.1, fun x y x0 xy y1 => ?_⟩
    rw [h.2 x y x0 xy y1]
    constructor
    · rintro ⟨p, q, p0, pq, q1, pb, po⟩
      exact ⟨p, q, p0, pq, q1, (hmono p q).2 (Or.inl pb), po⟩
    · rintro ⟨p, q, p0, pq, q1, pb, po⟩
      rcases (hmono p q).1 pb with e | ⟨rfl, rfl⟩
      · exact ⟨p, q, p0, pq, q1, e, po⟩
      · obtain ⟨p', q', p0', pq', q1', pb', po'⟩ := (h.2 p q k0 kl l1).1 hz1
        exact ⟨p', q', p0', pq', q1', pb', OP.trans n2 n6 B C hg ⟨p0', by omega⟩ ⟨by omega, q1'⟩ po' po⟩
def prF (S : MC) (l s : Int) : Int := fo (fun k s => w32 (s + lstV S k l)) l.toNat 0 s
section
variable {G : MG} {c : MC} {T n r u : Int} {S : MC} {g : Int → Int} (d : Nat) (P : Int → MM → Prop)
theorem l_pairsFrom (C : CBT G c r n S) (hw : S 0 0 ≤ 720) {k l : Int} (Q : Int → MM → Prop) : ∀ (j : Nat) (i s : Int), 0 ≤ i → i + j = S 0 0 → Q (fo (pfF S k l) j i s) (G, c) → At (d + 2) mX4_pairsFrom 5 [mR 11 r, mI k, mI l, mL s, MU, mI i, MU, MU] [] (G, c) (QL Q) := by
  have hr := C.h.r; have hcw := C.w
  intro j
  induction j with
  | zero =>
    intro i s i0 hi hP
    apply wp_X4_pairsFrom_5
    rw [hcw, if_neg (by omega)]
    exact ⟨by omega, hP⟩
  | succ j ih =>
    intro i s i0 hi hP
    simp only [fo] at hP
    have wi : w32 (i + 1) = i + 1 := w32i (by omega) (by omega)
    have r1 := dg_rg (S 1 i) k
    have r2 := dg_rg (S 1 i) l
    have w8 : w32 (8 * (if dg (S 1 i) l < dg (S 1 i) k then dg (S 1 i) l else dg (S 1 i) k)) = 8 * (if dg (S 1 i) l < dg (S 1 i) k then dg (S 1 i) l else dg (S 1 i) k) := w32i (by split <;> omega) (by split <;> omega)
    have w9 : w32 (8 * (if dg (S 1 i) l < dg (S 1 i) k then dg (S 1 i) l else dg (S 1 i) k) + (if dg (S 1 i) k < dg (S 1 i) l then dg (S 1 i) l else dg (S 1 i) k)) = 8 * (if dg (S 1 i) l < dg (S 1 i) k then dg (S 1 i) l else dg (S 1 i) k) + (if dg (S 1 i) k < dg (S 1 i) l then dg (S 1 i) l else dg (S 1 i) k) := w32i (by (repeat' split) <;> omega) (by (repeat' split) <;> omega)
    apply wp_X4_pairsFrom_5
    rw [hcw, if_pos (by omega)]
    simp only [C.h.p3, C.h.l1, (C.e i i0 (by omega)).1, q_X7_at, q_J9_min, q_J9_max, wi, w8, w9]
    refine ⟨by omega, by omega, ⟨by omega, by omega, by omega⟩, by omega, ⟨by omega, by omega, by omega⟩, ?_⟩
    exact ih _ _ (by omega) (by omega) hP
theorem l_pairSets19 (C : CBT G c r n S) (hw : S 0 0 ≤ 720) (w1 : 0 < S 0 0) (n2 : 2 ≤ n) (n6 : n ≤ 6) (B : BV n g u S) (Cl : Cls n g u (S 0 0) S) (h0 : S 1 0 = sam n) (hg : ∀ t, 0 ≤ t → t < u → PM (g t) n) {l : Int} (l0 : 0 < l) (l1 : l < n) (K : Int → Prop) (hk : ∀ b s, PI n S b l l → -2147483648 ≤ s → s < 2147483648 → K s → At (d + 4) mX4_pairSets 7 [mR 11 r, mL b, MU, mI s, mI (l + 1), MU] [] (G, c) (QI P)) : ∀ (j : Nat) (k b s : Int), 0 ≤ k → k + j = l → PI n S b k l → -2147483648 ≤ s → s < 2147483648 → K (fo (fun k s => w32 (s + lstV S k l)) j k s) → At (d + 4) mX4_pairSets 19 [mR 11 r, mL b, MU, mI s, mI l, mI k] [] (G, c) (QI P) := by
  have hr := C.h.r
  intro j
  induction j with
  | zero =>
    intro k b s k0 hj hP s0 s1 hK
    apply wp_X4_pairSets_19
    rw [if_neg (by omega), w32i (by omega) (by omega)]
    rw [show k = l by omega] at hP
    exact hk b s hP s0 s1 hK
  | succ j ih =>
    intro k b s k0 hj hP s0 s1 hK
    simp only [fo] at hK
    have wk : w32 (k + 1) = k + 1 := w32i (by omega) (by omega)
    have w8 : w32 (8 * k) = 8 * k := w32i (by omega) (by omega)
    have w9 : w32 (8 * k + l) = 8 * k + l := w32i (by omega) (by omega)
    have hs := PI.step n2 n6 B Cl w1 h0 hg k0 (show k < l by omega) l1 hP
    have hlb : (o_lcmp (o_land (o_lshr b (8 * k + l)) 1) 0 = 0) ↔ lb b (8 * k + l) = 0 := by
      show o_lcmp (lb b (8 * k + l)) 0 = 0 ↔ _
      unfold o_lcmp
      constructor
      · intro h
        split at h
        · omega
        · split at h
          · assumption
          · omega
      · intro h
        rw [h]
        rfl
    apply wp_X4_pairSets_19
    rw [if_pos (by omega), w8, w9, wk]
    by_cases hz : lb b (8 * k + l) = 0
    · rw [if_pos (hlb.2 hz)]
      obtain ⟨e1, e2⟩ := hs.1 hz
      refine ev_X4_pairsFrom (d + 2) _ G c r k l (by omega) (l_pairsFrom (d + 1) C hw _ (S 0 0).toNat 0 0 (by omega) (by omega) ?_)
      rw [e1] at hK
      have := w32_rg (s + 1)
      exact ih _ _ _ (by omega) (by omega) e2 this.1 this.2 hK
    · rw [if_neg (fun q => hz (hlb.1 q))]
      obtain ⟨e1, e2⟩ := hs.2 hz
      rw [e1, Int.add_zero, w32i s0 s1] at hK
      exact ih _ _ _ (by omega) (by omega) e2 s0 s1 hK
theorem l_pairSets (C : CBT G c r n S) (hw : S 0 0 ≤ 720) (w1 : 0 < S 0 0) (n2 : 2 ≤ n) (n6 : n ≤ 6) (B : BV n g u S) (Cl : Cls n g u (S 0 0) S) (h0 : S 1 0 = sam n) (hg : ∀ t, 0 ≤ t → t < u → PM (g t) n) : ∀ (j : Nat) (l b s : Int), 0 < l → l + j = n → PI n S b 0 l → -2147483648 ≤ s → s < 2147483648 → P (fo (prF S) j l s) (G, c) → At (d + 4) mX4_pairSets 7 [mR 11 r, mL b, MU, mI s, mI l, MU] [] (G, c) (QI P) := by
  have hr := C.h.r
  intro j
  induction j with
  | zero =>
    intro l b s l0 hj hP s0 s1 hK
    apply wp_X4_pairSets_7
    rw [C.n, if_neg (by omega)]
    exact ⟨by omega, hK⟩
  | succ j ih =>
    intro l b s l0 hj hP s0 s1 hK
    simp only [fo] at hK
    apply wp_X4_pairSets_7
    rw [C.n, if_pos (by omega)]
    refine ⟨by omega, l_pairSets19 d P C hw w1 n2 n6 B Cl h0 hg l0 (by omega) (fun s' => s' = prF S l s) (fun b' s' hP' s0' s1' e => ?_) l.toNat 0 b s (by omega) (by omega) hP s0 s1 rfl⟩
    subst e
    refine ih (l + 1) b' _ (by omega) (by omega) ⟨hP'.1, fun x y x0 xy y1 => ?_⟩ s0' s1' hK
    rw [hP'.2 x y x0 xy y1]
    constructor
    · rintro ⟨p, q, p0, pq, q1, pb, po⟩
      exact ⟨p, q, p0, pq, q1, by unfold bfr at *; omega, po⟩
    · rintro ⟨p, q, p0, pq, q1, pb, po⟩
      exact ⟨p, q, p0, pq, q1, by unfold bfr at *; omega, po⟩
theorem l_mpairs46 (M : MDs G c T) (Mb : MBT c n S) (hw : S 0 0 ≤ 720) (n6 : n ≤ 6) {s l k : Int} (k0 : 0 ≤ k) (kl : k < l) (l1 : l < n) (K : Int → Prop) (hk : ∀ v, K v → At (d + 2) mX12_pairs 35 [mR 18 62, mI (w32 (s + if v = 0 then 0 else 1)), mI l, mI (k + 1), MU, MU, MU, MU, MU, MU] [] (G, c) (QI P)) : ∀ (j : Nat) (i v : Int), 0 ≤ i → i + j = S 0 0 → K (fi (fun i => erl (dg (S 1 i) k) (dg (S 1 i) l) k l) (fun _ => (0 : Int)) v j i) → At (d + 2) mX12_pairs 46 [mR 18 62, mI s, mI l, mI k, mI v, mI i, MU, MU, MU, MU] [] (G, c) (QI P) := by
  have hT := M.T
  intro j
  induction j with
  | zero =>
    intro i v i0 hi hK
    have wk : w32 (k + 1) = k + 1 := w32i (by omega) (by omega)
    apply wp_X12_pairs_46
    rw [Mb.w, if_neg (by omega), wk]
    refine ⟨by omega, ?_⟩
    have := hk v hK
    split
    · rename_i e; rw [if_pos e] at this; exact this
    · rename_i e; rw [if_neg e] at this; exact this
  | succ j ih =>
    intro i v i0 hi hK
    simp only [fi] at hK
    have wi : w32 (i + 1) = i + 1 := w32i (by omega) (by omega)
    apply wp_X12_pairs_46
    rw [Mb.w, if_pos (by omega)]
    refine ⟨by omega, ?_⟩
    simp only [q_comes _ _ _ _ T M i k i0 (by omega) k0 (by omega), q_comes _ _ _ _ T M i l i0 (by omega) (show 0 ≤ l by omega) (by omega), Mb.e i k i0 (show i < S 0 0 by omega) k0 (by omega), Mb.e i l i0 (show i < S 0 0 by omega) (show 0 ≤ l by omega) l1]
    generalize ha : dg (S 1 i) k = a at *
    generalize hb : dg (S 1 i) l = b at *
    by_cases he : erl a b k l = true
    · rw [if_pos he] at hK
      have hz := ih (i + 1) 0 (by omega) (by omega) (by rw [fi_zero]; exact hK)
      unfold erl at he
      rw [decide_eq_true_eq] at he
      by_cases hab : b < a
      · rw [if_pos hab]
        apply wp_X12_pairs_87
        rw [if_pos hab, wi]
        rw [if_neg (by omega), if_pos hab] at he
        by_cases h1 : a < l
        · rw [if_pos h1]; exact hz
        · rw [if_neg h1, if_pos (by omega), if_pos (by omega)]; exact hz
      · rw [if_neg hab]
        apply wp_X12_pairs_87
        rw [if_neg hab, wi]
        by_cases hab2 : a < b
        · rw [if_pos hab2, if_neg hab] at he
          by_cases h1 : b < l
          · rw [if_pos h1]; exact hz
          · rw [if_neg h1, if_pos (by omega), if_pos (by omega)]; exact hz
        · rw [if_neg hab2, if_neg hab] at he
          by_cases h1 : b < l
          · rw [if_pos h1]; exact hz
          · rw [if_neg h1, if_pos (by omega), if_pos (by omega)]; exact hz
    · rw [if_neg he] at hK
      have hz := ih (i + 1) v (by omega) (by omega) hK
      unfold erl at he
      rw [decide_eq_true_eq] at he
      by_cases hab : b < a
      · rw [if_pos hab]
        apply wp_X12_pairs_87
        rw [if_pos hab, wi]
        rw [if_neg (by omega), if_pos hab] at he
        rw [if_neg (by omega)]
        split
        · rw [if_neg (by omega)]; exact hz
        · exact hz
      · rw [if_neg hab]
        apply wp_X12_pairs_87
        rw [if_neg hab, wi]
        have he2 : ¬ (b < l ∨ (b = l ∧ a < k)) := by
          by_cases hab2 : a < b
          · rw [if_pos hab2, if_neg hab] at he; exact he
          · rw [if_neg hab2, if_neg hab] at he; rw [show b = a by omega]; exact he
        rw [if_neg (by omega)]
        split
        · rw [if_neg (by omega)]; exact hz
        · exact hz
theorem l_mpairs35 (M : MDs G c T) (Mb : MBT c n S) (hw : S 0 0 ≤ 720) (hw0 : 0 ≤ S 0 0) (n6 : n ≤ 6) {l : Int} (l0 : 0 ≤ l) (l1 : l < n) (K : Int → Prop) (hk : ∀ s, K s → At (d + 2) mX12_pairs 22 [mR 18 62, mI s, mI (l + 1), MU, MU, MU, MU, MU, MU, MU] [] (G, c) (QI P)) : ∀ (j : Nat) (k s : Int), 0 ≤ k → k + j = l → K (fo (fun k s => w32 (s + lstV S k l)) j k s) → At (d + 2) mX12_pairs 35 [mR 18 62, mI s, mI l, mI k, MU, MU, MU, MU, MU, MU] [] (G, c) (QI P) := by
  intro j
  induction j with
  | zero =>
    intro k s k0 hj hK
    apply wp_X12_pairs_35
    rw [if_neg (by omega), w32i (by omega) (by omega)]
    exact hk _ hK
  | succ j ih =>
    intro k s k0 hj hK
    simp only [fo] at hK
    apply wp_X12_pairs_35
    rw [if_pos (by omega)]
    refine l_mpairs46 d P M Mb hw n6 k0 (by omega) l1 (fun v => v = lstV S k l) (fun v hv => ?_) (S 0 0).toNat 0 1 (by omega) (by omega) rfl
    have e : (if v = 0 then (0 : Int) else 1) = lstV S k l := by rcases lst_01 S k l with q | q <;> rw [hv, q] <;> rfl
    rw [e]
    exact ih _ _ (by omega) (by omega) hK
theorem l_mpairs (M : MDs G c T) (Mb : MBT c n S) (hn : c T 1 = n) (hw : S 0 0 ≤ 720) (hw0 : 0 ≤ S 0 0) (n6 : n ≤ 6) : ∀ (j : Nat) (l s : Int), 0 ≤ l → l + j = n → P (fo (prF S) j l s) (G, mtr c 0) → At (d + 2) mX12_pairs 22 [mR 18 62, mI s, mI l, MU, MU, MU, MU, MU, MU, MU] [] (G, c) (QI P) := by
  have hT := M.T
  intro j
  induction j with
  | zero =>
    intro l s l0 hj hK
    apply wp_X12_pairs_22
    rw [M.p3, hn, if_neg (by omega), q_mgood]
    exact ⟨by omega, by omega, hK⟩
  | succ j ih =>
    intro l s l0 hj hK
    simp only [fo] at hK
    apply wp_X12_pairs_22
    rw [M.p3, hn, if_pos (by omega)]
    refine ⟨by omega, by omega, l_mpairs35 d P M Mb hw hw0 n6 l0 (by omega) (fun s' => s' = prF S l s) (fun s' e => ?_) l.toNat 0 s (by omega) (by omega) rfl⟩
    subst e
    exact ih _ _ (by omega) (by omega) hK
end
theorem k_pairs (d : Nat) (G : MG) (c : MC) (H : IV G c) : EvI (d + 40) mX10_pairs [mR 16 0] (G, c) (fun r1 ν1 => EvI (d + 40) mX12_pairs [mR 18 62] (ν1.1, ν1.2) (fun r2 ν2 => K2 G r1 r2 ν2)) := by
  obtain ⟨hr, t, z, S, V⟩ := H
  have H0 : IV0 G c := ⟨t, z, S, V⟩
  rcases V with V | ⟨T, n, m, u, q, w, x, s, ka, ki, g, V⟩
  · have I := S.ciN V
    have e1 := V.e1; have e3 := V.e3; have e4 := V.e4; have N := V.T
    have N1 : ∀ wy, up (up c 0 6 wy) 62 0 0 62 3 = -1 := fun wy => by rw [up_nj (by decide), up_na (by decide)]; exact N
    refine ev_X10_pairs (d + 39) _ G c 0 (by decide) ?_
    simp only [z_isTube _ _ _ _ t I e1, z_isPerson _ _ _ _ t I _ e3, z_isSlot _ _ _ _ t I _ e1, z_isTurn _ _ _ _ t I _ e4, z_areTwo _ _ _ _ t I _ _ e3, z_isPlace _ _ _ _ t I _ e1, ↓reduceIte, q_refused]
    refine ev_X12_pairs (d + 39) _ G _ 62 (by decide) ⟨by decide, ?_⟩
    rintro _ rfl
    simp only [q_nisSlot _ _ _ _ (N1 _), q_nisPerson _ _ _ _ (N1 _), q_nisTurn _ _ _ _ (N1 _), q_nareTwo _ _ _ _ (N1 _), q_nisPlace _ _ _ _ (N1 _), N1, ↓reduceIte, q_mrefused, Int.reduceNeg, Int.reduceLT, Int.reduceLE, true_and]
    exact ⟨rfl, rfl, IV.q H0 (by decide) (agr_0 _)⟩
  · have I := S.ciT V
    have M := V.M; have hT := M.T; have ht := V.t
    have v1 := V.v1; have v3 := V.v3; have v4 := V.v4; have e0 := V.e0; have e1 := V.e1; have e3 := V.e3; have e4 := V.e4; have e5 := V.e5
    have b0 := M.b0; have b1 := M.b1; have b3 := M.b3; have b4 := M.b4
    rw [v1] at b1; rw [v3] at b3; rw [v4] at b4
    have hnp : 0 < n := by omega
    have hTn : ¬ T < 0 := by omega
    have M1 : ∀ wy, MDs G (up (up c 0 6 wy) 62 0 0) T := fun wy => (M.ki ki_up7).agr (agr_0 _)
    have r64 : ∀ wy, up (up c 0 6 wy) 62 0 0 64 = c 64 := fun wy => by funext j; rw [up_na (by decide), up_na (by decide)]
    have rT : ∀ wy k, up (up c 0 6 wy) 62 0 0 T k = c T k := fun wy k => by rw [up_na (by omega), up_na (by omega)]
    have rTT : ∀ wy (a : Int), 0 ≤ a → up (up c 0 6 wy) 62 0 0 (T + a) = c (T + a) := fun wy a ha => by funext j; rw [up_na (by omega), up_na (by omega)]
    have rS : ∀ wy a b, sld (up (up c 0 6 wy) 62 0 0) T a b = sld c T a b := fun wy a b => sld_eq (fun a j q => by rw [up_na (by omega), up_na (by omega)]) hT
    have hS : ∀ a b, 0 ≤ a → a < u → 0 ≤ b → b < n → sld c T a b = dg (g a) b := fun a b h1 h2 h3 h4 => by unfold sld; rw [v4, if_pos h2]; exact V.tk a b h1 h2 h3 h4
    have V1 : ∀ wy, TV G (up (up c 0 6 wy) 62 0 0) t T n m u q w x s ka ki g := fun wy => (V.kp ki_up7).kp (ki_agr (agr_0 _))
    skip
    refine ev_X10_pairs (d + 39) _ G c 0 (by decide) ?_
    simp only [q_isTube _ _ _ _ t I, q_isPerson _ _ _ _ t I, q_isSlot _ _ _ _ t I, q_isTurn _ _ _ _ t I, q_areTwo _ _ _ _ t I, q_isPlace _ _ _ _ t I, e0, e1, e3, e4, hnp, ↓reduceIte]
    refine f_reached _ _ V S (fun c V S C f => ?_)
    have H0 : IV0 G c := ⟨t, z, S, Or.inr ⟨T, n, m, u, q, w, x, s, ka, ki, g, V⟩⟩
    have I := S.ciT V
    have M := V.M; have hT := M.T; have ht := V.t
    have v1 := V.v1; have v3 := V.v3; have v4 := V.v4; have e0 := V.e0; have e1 := V.e1; have e3 := V.e3; have e4 := V.e4; have e5 := V.e5
    have b0 := M.b0; have b1 := M.b1; have b3 := M.b3; have b4 := M.b4
    rw [v1] at b1; rw [v3] at b3; rw [v4] at b4
    have hnp : 0 < n := by omega
    have hTn : ¬ T < 0 := by omega
    have M1 : ∀ wy, MDs G (up (up c 0 6 wy) 62 0 0) T := fun wy => (M.ki ki_up7).agr (agr_0 _)
    have r64 : ∀ wy, up (up c 0 6 wy) 62 0 0 64 = c 64 := fun wy => by funext j; rw [up_na (by decide), up_na (by decide)]
    have rT : ∀ wy k, up (up c 0 6 wy) 62 0 0 T k = c T k := fun wy k => by rw [up_na (by omega), up_na (by omega)]
    have rTT : ∀ wy (a : Int), 0 ≤ a → up (up c 0 6 wy) 62 0 0 (T + a) = c (T + a) := fun wy a ha => by funext j; rw [up_na (by omega), up_na (by omega)]
    have rS : ∀ wy a b, sld (up (up c 0 6 wy) 62 0 0) T a b = sld c T a b := fun wy a b => sld_eq (fun a j q => by rw [up_na (by omega), up_na (by omega)]) hT
    have hS : ∀ a b, 0 ≤ a → a < u → 0 ≤ b → b < n → sld c T a b = dg (g a) b := fun a b h1 h2 h3 h4 => by unfold sld; rw [v4, if_pos h2]; exact V.tk a b h1 h2 h3 h4
    have V1 : ∀ wy, TV G (up (up c 0 6 wy) 62 0 0) t T n m u q w x s ka ki g := fun wy => (V.kp ki_up7).kp (ki_agr (agr_0 _))
    obtain ⟨B, w1, s0, Cl⟩ := tv_bfs V
    have hw := B.w
    dsimp only
    refine ev_X4_pairSets (d + 38) _ G c 45 (by decide) (l_pairSets (d + 35) _ C (by omega) (by omega) (by omega) (by omega) B Cl s0 V.gp (n - 1).toNat 1 0 0 (by omega) (by omega) ⟨⟨by omega, by omega⟩, fun x y x0 xy y1 => ?_⟩ (by omega) (by omega) ?_)
    · rw [lb_0 (by omega) (by omega)]
      constructor
      · intro h; omega
      · rintro ⟨p, q, p0, pq, q1, pb, po⟩
        unfold bfr at pb
        omega
    simp only [q_fine]
    refine ev_X12_pairs (d + 39) _ G _ 62 (by decide) ⟨by decide, ?_⟩
    rintro _ rfl
    simp only [q_misSlot _ _ _ _ T (M1 _), q_misPerson _ _ _ _ T (M1 _), q_misTurn _ _ _ _ T (M1 _), q_mareTwo _ _ _ _ T (M1 _), q_misPlace _ _ _ _ T (M1 _), (M1 _).p3, hTn, rT, v1, v3, v4, ↓reduceIte, Int.reduceLE, true_and]
    refine l_mpairs (d + 38) _ (M1 _) (V1 _).B (by rw [rT]; exact v1) (by omega) (by omega) (by omega) n.toNat 0 0 (by omega) (by omega) ?_
    have e : fo (prF (bfs n g u)) n.toNat 0 0 = fo (prF (bfs n g u)) (n - 1).toNat 1 0 := by
      rw [show n.toNat = (n - 1).toNat + 1 by omega]
      rfl
    rw [e]
    exact ⟨rfl, rfl, IV.q H0 (by decide) (agr_0 _)⟩
