/-! who quarrels: each pair is counted from both sides -/
theorem or6_chk : alln 64 (fun s => alln 6 (fun k => decide (0 ≤ o_or s (o_shl 1 k)) && decide (o_or s (o_shl 1 k) < 64) && alln 8 (fun j => decide (bt (o_or s (o_shl 1 k)) j = if Nat.beq j k then 1 else bt s j)))) = true := by decide +kernel
theorem or6 {s k : Int} (s0 : 0 ≤ s) (s6 : s < 64) (k0 : 0 ≤ k) (k6 : k < 6) : (0 ≤ o_or s (o_shl 1 k) ∧ o_or s (o_shl 1 k) < 64) ∧ ∀ j, 0 ≤ j → j < 8 → bt (o_or s (o_shl 1 k)) j = if j = k then 1 else bt s j := by
  obtain ⟨s, rfl⟩ := Int.eq_ofNat_of_zero_le s0
  obtain ⟨k, rfl⟩ := Int.eq_ofNat_of_zero_le k0
  have h := alln_at (alln_at or6_chk s (by omega)) k (by omega)
  simp only [Bool.and_eq_true, decide_eq_true_eq] at h
  refine ⟨⟨h.1.1, h.1.2⟩, fun j j0 j8 => ?_⟩
  obtain ⟨j, rfl⟩ := Int.eq_ofNat_of_zero_le j0
  have := alln_at h.2 j (by omega)
  simp only [decide_eq_true_eq] at this
  rw [this]
  by_cases e : j = k
  · subst e; simp
  · rw [if_neg (by intro q; exact e (Nat.eq_of_beq_eq_true q)), if_neg (by omega)]
def pand (x y : Nat) : Bool := decide (pop (o_and x y) = cnt (fun k => decide (bt x k = 1) && decide (bt y k = 1)) 6) && decide (0 ≤ o_and x y) && decide (o_and x y < 64)
theorem pand_0 : alln 16 (fun x => alln 64 (fun y => pand x y)) = true := by decide +kernel
theorem pand_1 : alln 16 (fun x => alln 64 (fun y => pand (16 + x) y)) = true := by decide +kernel
theorem pand_2 : alln 16 (fun x => alln 64 (fun y => pand (32 + x) y)) = true := by decide +kernel
theorem pand_3 : alln 16 (fun x => alln 64 (fun y => pand (48 + x) y)) = true := by decide +kernel
theorem pand_of {x y : Int} (x0 : 0 ≤ x) (x6 : x < 64) (y0 : 0 ≤ y) (y6 : y < 64) : pop (o_and x y) = cnt (fun k => decide (bt x k = 1) && decide (bt y k = 1)) 6 ∧ 0 ≤ o_and x y ∧ o_and x y < 64 := by
  obtain ⟨x, rfl⟩ := Int.eq_ofNat_of_zero_le x0
  obtain ⟨y, rfl⟩ := Int.eq_ofNat_of_zero_le y0
  have key : pand x y = true := by
    by_cases h1 : x < 16
    · exact alln_at (alln_at pand_0 x h1) y (by omega)
    · by_cases h2 : x < 32
      · have := alln_at (alln_at pand_1 (x - 16) (by omega)) y (by omega)
        rwa [show 16 + (x - 16) = x by omega] at this
      · by_cases h3 : x < 48
        · have := alln_at (alln_at pand_2 (x - 32) (by omega)) y (by omega)
          rwa [show 32 + (x - 32) = x by omega] at this
        · have := alln_at (alln_at pand_3 (x - 48) (by omega)) y (by omega)
          rwa [show 48 + (x - 48) = x by omega] at this
  unfold pand at key
  simp only [Bool.and_eq_true, decide_eq_true_eq] at key
  exact ⟨key.1.1, key.1.2, key.2⟩
def sm (f : Int → Int) (n : Int) : Int := fo (fun p (s : Int) => s + f p) n.toNat 0 0
theorem sm_fo (f : Int → Int) : ∀ (j : Nat) (i s : Int), fo (fun p (s : Int) => s + f p) j i s = s + fo (fun p (s : Int) => s + f p) j i 0 := by
  intro j
  induction j with
  | zero => intro i s; simp [fo]
  | succ j ih => intro i s; simp only [fo]; rw [ih (i + 1) (s + f i), ih (i + 1) (0 + f i)]; omega
theorem sm_succ (f : Int → Int) {n : Int} (h : 0 ≤ n) : sm f (n + 1) = sm f n + f n := by
  unfold sm
  rw [show (n + 1).toNat = n.toNat + 1 by omega, fo_succ, show (0 : Int) + (n.toNat : Nat) = n by omega]
theorem sm_congr {f g : Int → Int} {n : Int} (h : ∀ i, 0 ≤ i → i < n → f i = g i) : sm f n = sm g n := by
  unfold sm
  apply fo_congr
  intro k s h1 h2
  rw [h k h1 (by omega)]
theorem sm_nat (P : Int → Prop) (h0 : P 0) (hs : ∀ n, 0 ≤ n → P n → P (n + 1)) : ∀ n, 0 ≤ n → P n := by
  intro n hn
  obtain ⟨k, rfl⟩ := Int.eq_ofNat_of_zero_le hn
  induction k with
  | zero => exact h0
  | succ k ih => exact hs k (by omega) (ih (by omega))
theorem sm_two {f f' : Int → Int} {a b : Int} (hab : a ≠ b) (h : ∀ p, p ≠ a → p ≠ b → f' p = f p) : ∀ n, 0 ≤ n → sm f' n = sm f n + (if 0 ≤ a ∧ a < n then f' a - f a else 0) + (if 0 ≤ b ∧ b < n then f' b - f b else 0) := by
  apply sm_nat
  · rw [if_neg (by omega), if_neg (by omega)]; rfl
  · intro n hn ih
    rw [sm_succ f' hn, sm_succ f hn, ih]
    by_cases e1 : n = a
    · subst e1
      rw [if_neg (by omega), if_pos (show 0 ≤ n ∧ n < n + 1 by omega)]
      by_cases e2 : 0 ≤ b ∧ b < n
      · rw [if_pos e2, if_pos (by omega)]; omega
      · rw [if_neg e2, if_neg (by omega)]; omega
    · by_cases e2 : n = b
      · subst e2
        rw [if_neg (show ¬ (0 ≤ n ∧ n < n) by omega), if_pos (show 0 ≤ n ∧ n < n + 1 by omega)]
        by_cases e3 : 0 ≤ a ∧ a < n
        · rw [if_pos e3, if_pos (by omega)]; omega
        · rw [if_neg e3, if_neg (by omega)]; omega
      · rw [h n e1 e2]
        have e3 : (0 ≤ a ∧ a < n + 1) ↔ (0 ≤ a ∧ a < n) := by omega
        have e4 : (0 ≤ b ∧ b < n + 1) ↔ (0 ≤ b ∧ b < n) := by omega
        simp only [e3, e4]
        omega
def ptF (one other : Int → Int) (p : Int) (j : Nat) : Int := fo (fun i s => if one i = p then o_or s (o_shl 1 (other i)) else if other i = p then o_or s (o_shl 1 (one i)) else s) j 0 0
theorem ptF_all {one other : Int → Int} {m : Int} (hm : m ≤ 6) : ∀ (j : Nat), (∀ i : Int, 0 ≤ i → i < j → (0 ≤ one i ∧ one i < m) ∧ (0 ≤ other i ∧ other i < m)) → ∀ p, (0 ≤ ptF one other p j ∧ ptF one other p j < 64) ∧ ∀ k, 0 ≤ k → k < 8 → (bt (ptF one other p j) k = 1 → ∃ i : Int, 0 ≤ i ∧ i < j ∧ ((one i = p ∧ other i = k) ∨ (other i = p ∧ one i = k))) ∧ (bt (ptF one other p j) k = 0 ∨ bt (ptF one other p j) k = 1) := by
  intro j
  induction j with
  | zero =>
    intro _ p
    refine ⟨by simp [ptF, fo], fun k k0 k8 => ?_⟩
    have h0b : bt (ptF one other p 0) k = 0 := by
      obtain ⟨k, rfl⟩ := Int.eq_ofNat_of_zero_le k0
      exact (by decide +kernel : ∀ k : Nat, k < 8 → bt 0 (k : Int) = 0) k (by omega)
    exact ⟨fun h => by omega, Or.inl h0b⟩
  | succ j ih =>
    intro hr p
    obtain ⟨a, b⟩ := ih (fun i x y => hr i x (by omega)) p
    have hj := hr j (by omega) (by omega)
    have e : ptF one other p (j + 1) = if one j = p then o_or (ptF one other p j) (o_shl 1 (other j)) else if other j = p then o_or (ptF one other p j) (o_shl 1 (one j)) else ptF one other p j := by
      unfold ptF
      rw [fo_succ, show (0 : Int) + (j : Nat) = j by omega]
    rw [e]
    split
    · rename_i h1
      obtain ⟨c1, c2⟩ := or6 (k := other j) a.1 a.2 hj.2.1 (by omega)
      refine ⟨c1, fun k k0 k8 => ?_⟩
      rw [c2 k k0 k8]
      split
      · rename_i hk
        exact ⟨fun _ => ⟨j, by omega, by omega, Or.inl ⟨h1, hk.symm⟩⟩, Or.inr rfl⟩
      · refine ⟨fun h => ?_, (b k k0 k8).2⟩
        obtain ⟨i, i0, i1, i2⟩ := (b k k0 k8).1 h
        exact ⟨i, i0, by omega, i2⟩
    · split
      · rename_i h1 h2
        obtain ⟨c1, c2⟩ := or6 (k := one j) a.1 a.2 hj.1.1 (by omega)
        refine ⟨c1, fun k k0 k8 => ?_⟩
        rw [c2 k k0 k8]
        split
        · rename_i hk
          exact ⟨fun _ => ⟨j, by omega, by omega, Or.inr ⟨h2, hk.symm⟩⟩, Or.inr rfl⟩
        · refine ⟨fun h => ?_, (b k k0 k8).2⟩
          obtain ⟨i, i0, i1, i2⟩ := (b k k0 k8).1 h
          exact ⟨i, i0, by omega, i2⟩
      · refine ⟨a, fun k k0 k8 => ⟨fun h => ?_, (b k k0 k8).2⟩⟩
        obtain ⟨i, i0, i1, i2⟩ := (b k k0 k8).1 h
        exact ⟨i, i0, by omega, i2⟩
theorem cnt_one {p q : Int → Bool} (r : Int) {n : Int} (h0 : 0 ≤ n) (hp : p r = false) (h : ∀ i, i ≠ r → q i = p i) (hr : 0 ≤ r ∧ r < n) : cnt q n = cnt p n + if q r = true then 1 else 0 := by
  by_cases hq : q r = true
  · have := cnt_upd r hp hq h n.toNat 0
    unfold cnt
    rw [this, if_pos (by omega), if_pos hq]
  · rw [if_neg hq]
    have : q = p := by
      funext i
      by_cases e : i = r
      · rw [e, hp]; simpa using hq
      · exact h i e
    rw [this]; omega
theorem quar_sum {one other : Int → Int} {B : Int → Int → Bool} {m : Int} (m0 : 0 ≤ m) (hm : m ≤ 6) (hB : ∀ a b, B a b = B b a) : ∀ (j : Nat), (∀ i : Int, 0 ≤ i → i < j → ((0 ≤ one i ∧ one i < m) ∧ (0 ≤ other i ∧ other i < m)) ∧ one i ≠ other i) → (∀ i k : Int, 0 ≤ i → i < k → k < j → ¬ (one i = one k ∧ other i = other k) ∧ ¬ (one i = other k ∧ other i = one k)) →
    sm (fun p => cnt (fun k => (decide (k < m) && B p k) && decide (bt (ptF one other p j) k = 1)) 6) m = 2 * cnt (fun i => B (one i) (other i)) j := by
  intro j
  induction j with
  | zero =>
    intro _ _
    have : sm (fun p => cnt (fun k => (decide (k < m) && B p k) && decide (bt (ptF one other p 0) k = 1)) 6) m = sm (fun _ => 0) m := sm_congr fun p _ _ => by
      have : cnt (fun k => (decide (k < m) && B p k) && decide (bt (ptF one other p 0) k = 1)) 6 = cnt (fun _ => false) 6 := cnt_congr fun k k0 k6 => by
        have h0b : bt (ptF one other p 0) k = 0 := by
          obtain ⟨k, rfl⟩ := Int.eq_ofNat_of_zero_le k0
          exact (by decide +kernel : ∀ k : Nat, k < 8 → bt 0 (k : Int) = 0) k (by omega)
        simp [h0b]
      rw [this]; rfl
    rw [this]
    have hz : ∀ n, 0 ≤ n → sm (fun _ => 0) n = 0 := by
      apply sm_nat
      · rfl
      · intro n hn ih; rw [sm_succ _ hn, ih]; rfl
    rw [hz m m0]
    rfl
  | succ j ih =>
    intro h1 h2
    have hj := h1 j (by omega) (by omega)
    have ih' := ih (fun i a b => h1 i a (by omega)) (fun i k a b e => h2 i k a b (by omega))
    have P := ptF_all (one := one) (other := other) (m := m) hm j (fun i a b => (h1 i a (by omega)).1)
    have e : ∀ p, ptF one other p (j + 1) = if one j = p then o_or (ptF one other p j) (o_shl 1 (other j)) else if other j = p then o_or (ptF one other p j) (o_shl 1 (one j)) else ptF one other p j := fun p => by
      unfold ptF
      rw [fo_succ, show (0 : Int) + (j : Nat) = j by omega]
    have hne : one j ≠ other j := hj.2
    have key := sm_two (f := fun p => cnt (fun k => (decide (k < m) && B p k) && decide (bt (ptF one other p j) k = 1)) 6) (f' := fun p => cnt (fun k => (decide (k < m) && B p k) && decide (bt (ptF one other p (j + 1)) k = 1)) 6) (a := one j) (b := other j) hne (fun p ha hb => by simp only [e p, if_neg (Ne.symm ha), if_neg (Ne.symm hb)]) m m0
    rw [key, ih', if_pos ⟨hj.1.1.1, hj.1.1.2⟩, if_pos ⟨hj.1.2.1, hj.1.2.2⟩]
    have nb1 : bt (ptF one other (one j) j) (other j) ≠ 1 := fun hb => by
      obtain ⟨i, i0, i1, i2⟩ := ((P (one j)).2 (other j) hj.1.2.1 (by omega)).1 hb
      have := h2 i j i0 i1 (by omega)
      omega
    have nb2 : bt (ptF one other (other j) j) (one j) ≠ 1 := fun hb => by
      obtain ⟨i, i0, i1, i2⟩ := ((P (other j)).2 (one j) hj.1.1.1 (by omega)).1 hb
      have := h2 i j i0 i1 (by omega)
      omega
    have o1 := or6 (k := other j) (P (one j)).1.1 (P (one j)).1.2 hj.1.2.1 (by omega)
    have o2 := or6 (k := one j) (P (other j)).1.1 (P (other j)).1.2 hj.1.1.1 (by omega)
    have c1 : cnt (fun k => (decide (k < m) && B (one j) k) && decide (bt (ptF one other (one j) (j + 1)) k = 1)) 6 = cnt (fun k => (decide (k < m) && B (one j) k) && decide (bt (ptF one other (one j) j) k = 1)) 6 + if B (one j) (other j) = true then 1 else 0 := by
      have e1 : ptF one other (one j) (j + 1) = o_or (ptF one other (one j) j) (o_shl 1 (other j)) := by rw [e, if_pos rfl]
      have := cnt_one (p := fun k => (decide (k < m) && B (one j) k) && decide (bt (ptF one other (one j) j) k = 1)) (q := fun k => (decide (k < m) && B (one j) k) && decide ((if k = other j then 1 else bt (ptF one other (one j) j) k) = 1)) (other j) (n := 6) (by omega) (by simp [nb1]) (fun i hi => by simp only [if_neg hi]) (by omega)
      rw [show cnt (fun k => (decide (k < m) && B (one j) k) && decide (bt (ptF one other (one j) (j + 1)) k = 1)) 6 = cnt (fun k => (decide (k < m) && B (one j) k) && decide ((if k = other j then 1 else bt (ptF one other (one j) j) k) = 1)) 6 from cnt_congr (fun k a b => by rw [e1, o1.2 k a (by omega)]), this]
      simp [hj.1.2.2]
    have c2 : cnt (fun k => (decide (k < m) && B (other j) k) && decide (bt (ptF one other (other j) (j + 1)) k = 1)) 6 = cnt (fun k => (decide (k < m) && B (other j) k) && decide (bt (ptF one other (other j) j) k = 1)) 6 + if B (other j) (one j) = true then 1 else 0 := by
      have e1 : ptF one other (other j) (j + 1) = o_or (ptF one other (other j) j) (o_shl 1 (one j)) := by rw [e, if_neg hne, if_pos rfl]
      have := cnt_one (p := fun k => (decide (k < m) && B (other j) k) && decide (bt (ptF one other (other j) j) k = 1)) (q := fun k => (decide (k < m) && B (other j) k) && decide ((if k = one j then 1 else bt (ptF one other (other j) j) k) = 1)) (one j) (n := 6) (by omega) (by simp [nb2]) (fun i hi => by simp only [if_neg hi]) (by omega)
      rw [show cnt (fun k => (decide (k < m) && B (other j) k) && decide (bt (ptF one other (other j) (j + 1)) k = 1)) 6 = cnt (fun k => (decide (k < m) && B (other j) k) && decide ((if k = one j then 1 else bt (ptF one other (other j) j) k) = 1)) 6 from cnt_congr (fun k a b => by rw [e1, o2.2 k a (by omega)]), this]
      simp [hj.1.1.2]
    rw [c1, c2, hB (other j) (one j), show ((j + 1 : Nat) : Int) = (j : Int) + 1 by omega, cnt_succ _ (by omega)]
    split <;> omega
