/-! words of six: ways behind ways -/
theorem pk_fold {f : Int → Int} {n : Nat} (hn : n ≤ 9) (hf : ∀ k : Int, 0 ≤ k → k < n → 0 ≤ f k ∧ f k < 8) : ∀ (j : Nat) (i s : Int), 0 ≤ i → i + j = n → 0 ≤ s → s < 8 ^ n → (∀ k : Int, i ≤ k → k < n → dg s k = 0) →
    (0 ≤ fo (fun i s => o_or s (o_shl (f i) (w32 (3 * i)))) j i s ∧ fo (fun i s => o_or s (o_shl (f i) (w32 (3 * i)))) j i s < 8 ^ n) ∧ ∀ k : Int, 0 ≤ k → k < n → dg (fo (fun i s => o_or s (o_shl (f i) (w32 (3 * i)))) j i s) k = if k < i then dg s k else f k := by
  intro j
  induction j with
  | zero =>
    intro i s h0 hi hs hs' hz
    refine ⟨⟨hs, hs'⟩, fun k hk hk' => ?_⟩
    rw [if_pos (by omega)]
    rfl
  | succ j ih =>
    intro i s h0 hi hs hs' hz
    have hfi := hf i h0 (by omega)
    have hr := dg_or_rg hn hs hs' hfi.1 hfi.2 h0 (by omega)
    have hd : ∀ k : Int, 0 ≤ k → k < n → dg (o_or s (o_shl (f i) (w32 (3 * i)))) k = if k = i then f i else dg s k := fun k a b => dg_or hn hs hs' hfi.1 hfi.2 h0 (by omega) a b (hz i (by omega) (by omega))
    obtain ⟨h1, h2⟩ := ih (i + 1) _ (by omega) (by omega) hr.1 hr.2 (fun k a b => by rw [hd k (by omega) b, if_neg (by omega)]; exact hz k (by omega) b)
    refine ⟨h1, fun k a b => ?_⟩
    simp only [fo]
    rw [h2 k a b]
    by_cases e : k < i
    · rw [if_pos (by omega), if_pos e, hd k a b, if_neg (by omega)]
    · by_cases e2 : k = i
      · rw [if_pos (by omega), if_neg e, hd k a b, if_pos e2, e2]
      · rw [if_neg (by omega), if_neg e]
theorem pk_all {f : Int → Int} {n : Int} (h0 : 0 ≤ n) (hn : n ≤ 9) (hf : ∀ k : Int, 0 ≤ k → k < n → 0 ≤ f k ∧ f k < 8) :
    (0 ≤ fo (fun i s => o_or s (o_shl (f i) (w32 (3 * i)))) n.toNat 0 0 ∧ fo (fun i s => o_or s (o_shl (f i) (w32 (3 * i)))) n.toNat 0 0 < 8 ^ n.toNat) ∧ ∀ k : Int, 0 ≤ k → k < n → dg (fo (fun i s => o_or s (o_shl (f i) (w32 (3 * i)))) n.toNat 0 0) k = f k := by
  have := pk_fold (f := f) (n := n.toNat) (by omega) (fun k a b => hf k a (by omega)) n.toNat 0 0 (by omega) (by omega) (by omega) (Int.pow_pos (by omega)) (fun k a b => dg_zero a (by omega))
  refine ⟨this.1, fun k a b => ?_⟩
  rw [this.2 k a (by omega), if_neg (by omega)]
theorem thr_all {a b n : Int} (h0 : 0 ≤ n) (hn : n ≤ 9) : (0 ≤ thr a b n ∧ thr a b n < 8 ^ n.toNat) ∧ ∀ k : Int, 0 ≤ k → k < n → dg (thr a b n) k = dg b (dg a k) :=
  pk_all (f := fun i => dg b (dg a i)) h0 hn (fun k _ _ => dg_rg _ _)
theorem PM.ext {x y n : Int} (hn : n ≤ 9) (hn0 : 0 ≤ n) (hx : PM x n) (hy : PM y n) (h : ∀ k, 0 ≤ k → k < n → dg x k = dg y k) : x = y :=
  dg_ext (n := n.toNat) (by omega) hx.1 hx.2.1 hy.1 hy.2.1 (fun k a b => h k a (by omega))
theorem thr_pm {a b n : Int} (h0 : 0 ≤ n) (hn : n ≤ 9) (ha : PM a n) (hb : PM b n) : PM (thr a b n) n := by
  obtain ⟨h1, h2⟩ := thr_all (a := a) (b := b) h0 hn
  refine ⟨h1.1, h1.2, fun i x y => ?_, fun i j x y x' y' e => ?_⟩
  · rw [h2 i x y]; exact (hb.rg _ (ha.rg i x y).1 (ha.rg i x y).2).2
  · rw [h2 i x y, h2 j x' y'] at e
    exact ha.2.2.2 i j x y x' y' (hb.2.2.2 _ _ (ha.rg i x y).1 (ha.rg i x y).2 (ha.rg j x' y').1 (ha.rg j x' y').2 e)
theorem sam_chk : alln 7 (fun n => pmB (sam n) n && alln n (fun i => decide (dg (sam n) i = i)) && pmB (owr n) n && alln n (fun i => decide (dg (owr n) i = (n : Int) - 1 - i))) = true := by decide +kernel
theorem sam_all {n : Int} (h0 : 0 ≤ n) (h : n ≤ 6) : PM (sam n) n ∧ (∀ k, 0 ≤ k → k < n → dg (sam n) k = k) ∧ PM (owr n) n ∧ (∀ k, 0 ≤ k → k < n → dg (owr n) k = n - 1 - k) := by
  obtain ⟨n, rfl⟩ := Int.eq_ofNat_of_zero_le h0
  have := alln_at sam_chk n (by omega)
  simp only [Bool.and_eq_true] at this
  obtain ⟨⟨⟨h1, h2⟩, h3⟩, h4⟩ := this
  refine ⟨pmB_of h1, fun k a b => ?_, pmB_of h3, fun k a b => ?_⟩
  · have := alln_at h2 k.toNat (by omega)
    rw [show ((k.toNat : Nat) : Int) = k by omega] at this
    simpa using this
  · have := alln_at h4 k.toNat (by omega)
    rw [show ((k.toNat : Nat) : Int) = k by omega] at this
    simpa using this
theorem thr_assoc {a b e n : Int} (h0 : 0 ≤ n) (h : n ≤ 6) (ha : PM a n) (hb : PM b n) (he : PM e n) : thr (thr a b n) e n = thr a (thr b e n) n := by
  refine (thr_pm h0 (by omega) (thr_pm h0 (by omega) ha hb) he).ext (by omega) h0 (thr_pm h0 (by omega) ha (thr_pm h0 (by omega) hb he)) fun k x y => ?_
  rw [(thr_all h0 (by omega)).2 k x y, (thr_all h0 (by omega)).2 k x y, (thr_all h0 (by omega)).2 k x y, (thr_all h0 (by omega)).2 _ (ha.rg k x y).1 (ha.rg k x y).2]
theorem thr_sam {a n : Int} (h0 : 0 ≤ n) (h : n ≤ 6) (ha : PM a n) : thr a (sam n) n = a := by
  refine (thr_pm h0 (by omega) ha (sam_all h0 h).1).ext (by omega) h0 ha fun k x y => ?_
  rw [(thr_all h0 (by omega)).2 k x y, (sam_all h0 h).2.1 _ (ha.rg k x y).1 (ha.rg k x y).2]
theorem sam_thr {a n : Int} (h0 : 0 ≤ n) (h : n ≤ 6) (ha : PM a n) : thr (sam n) a n = a := by
  refine (thr_pm h0 (by omega) (sam_all h0 h).1 ha).ext (by omega) h0 ha fun k x y => ?_
  rw [(thr_all h0 (by omega)).2 k x y, (sam_all h0 h).2.1 k x y]
theorem thr_inv {x n : Int} (h2 : 2 ≤ n) (h6 : n ≤ 6) (hx : PM x n) : thr x (inv6 x n) n = sam n := by
  refine (thr_pm (by omega) (by omega) hx (inv_pm h2 h6 hx)).ext (by omega) (by omega) (sam_all (by omega) h6).1 fun k a b => ?_
  rw [(thr_all (by omega) (by omega)).2 k a b, inv_dg h2 h6 hx k a b, (sam_all (by omega) h6).2.1 k a b]
/-! counting -/
def cnt (p : Int → Bool) (n : Int) : Int := fo (fun q (s : Int) => if p q = true then s + 1 else s) n.toNat 0 0
theorem cnt_fo (p : Int → Bool) : ∀ (j : Nat) (i s : Int), fo (fun q (s : Int) => if p q = true then s + 1 else s) j i s = s + fo (fun q (s : Int) => if p q = true then s + 1 else s) j i 0 := by
  intro j
  induction j with
  | zero => intro i s; simp [fo]
  | succ j ih =>
    intro i s
    simp only [fo]
    rw [ih (i + 1) (if p i = true then s + 1 else s), ih (i + 1) (if p i = true then 0 + 1 else 0)]
    split <;> omega
theorem cnt_rg (p : Int → Bool) : ∀ (j : Nat) (i : Int), 0 ≤ fo (fun q (s : Int) => if p q = true then s + 1 else s) j i 0 ∧ fo (fun q (s : Int) => if p q = true then s + 1 else s) j i 0 ≤ j := by
  intro j
  induction j with
  | zero => intro i; simp [fo]
  | succ j ih =>
    intro i
    simp only [fo]
    rw [cnt_fo]
    have := ih (i + 1)
    split <;> omega
theorem cnt_lt (p : Int → Bool) : ∀ (j : Nat) (i r : Int), i ≤ r → r < i + j → p r = false → fo (fun q (s : Int) => if p q = true then s + 1 else s) j i 0 < j := by
  intro j
  induction j with
  | zero => intro i r _ _ _; omega
  | succ j ih =>
    intro i r h1 h2 h3
    simp only [fo]
    rw [cnt_fo]
    by_cases e : r = i
    · subst e
      have := cnt_rg p j (r + 1)
      rw [h3]
      simp
      omega
    · have := ih (i + 1) r (by omega) (by omega) h3
      split <;> omega
theorem cnt_upd {p q : Int → Bool} (r : Int) (hp : p r = false) (hq : q r = true) (h : ∀ i, i ≠ r → q i = p i) : ∀ (j : Nat) (i : Int), fo (fun k (s : Int) => if q k = true then s + 1 else s) j i 0 = fo (fun k (s : Int) => if p k = true then s + 1 else s) j i 0 + (if i ≤ r ∧ r < i + j then 1 else 0) := by
  intro j
  induction j with
  | zero => intro i; simp [fo]
  | succ j ih =>
    intro i
    simp only [fo]
    rw [cnt_fo, cnt_fo p, ih]
    by_cases e : i = r
    · subst e
      rw [hp, hq]
      simp
      split
      · omega
      · omega
    · rw [h i e]
      split <;> split <;> split <;> omega
