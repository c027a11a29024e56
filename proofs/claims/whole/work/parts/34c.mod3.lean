section
variable (d : Nat) (P : Int → MM → Prop) (P0 : MM → Prop) (G : MG) (c : MC) (T : Int)
theorem l_rk22 (M : MDs G c T) (r k : Int) (hk0 : 0 ≤ k) (hk : k < c T 1) (K : Int → Prop) (hK : ∀ s, K s → At (d + 1) mX12_ranked 4 [mR 18 62, mI (w32 (w32 (r * w32 (c T 1 - k)) + s)), mI (k + 1), MU, MU] [] (G, c) (QI P)) : ∀ (j : Nat) (i : Int) (s : Int), 0 ≤ i → i + j = c T 1 → K (fo (fun j l => if c 73 j < c 73 k then w32 (l + 1) else w32 (l + 0)) j i s) → At (d + 1) mX12_ranked 22 [mR 18 62, mI r, mI k, mI s, mI i] [] (G, c) (QI P) := by
  have hT := M.T; have b1 := M.b1; have b3 := M.b3; have wk : w32 (k + 1) = k + 1 := w32i (by omega) (by omega)
  intro j
  induction j with
  | zero =>
    intro i s h0 hi hP
    apply wp_X12_ranked_22
    try simp only [M.p3, M.p27, M.l73, wk]
    (repeat (refine And.intro (by omega) ?_))
    rw [if_neg (by omega)]
    (repeat (refine And.intro (by omega) ?_))
    exact hK _ hP
  | succ j ih =>
    intro i s h0 hi hP
    have wi : w32 (i + 1) = i + 1 := w32i (by omega) (by omega)
    apply wp_X12_ranked_22
    simp only [M.p3, M.p27, M.l73, wk, wi]
    (repeat (refine And.intro (by omega) ?_))
    rw [if_pos (by omega)]
    simp only [fo] at hP
    skip
    (repeat' (first | (refine And.intro (by omega) ?_) | (split <;> rename_i hc <;> (first | rw [if_pos hc] at hP | rw [if_neg hc] at hP))))
    all_goals exact ih _ _ (by omega) (by omega) hP
theorem l_ranked (M : MDs G c T) : ∀ (j : Nat) (k r : Int), 0 ≤ k → k + j = c T 1 → P (fo (fun k s => w32 (w32 (s * w32 (c T 1 - k)) + fo (fun j l => if c 73 j < c 73 k then w32 (l + 1) else w32 (l + 0)) (c T 1 - (k + 1)).toNat (k + 1) 0)) j k r) (G, c) → At (d + 1) mX12_ranked 4 [mR 18 62, mI r, mI k, MU, MU] [] (G, c) (QI P) := by
  have hT := M.T; have b1 := M.b1; have b3 := M.b3
  intro j
  induction j with
  | zero =>
    intro k r h0 hi hP
    apply wp_X12_ranked_4
    simp only [M.p3]
    (repeat (refine And.intro (by omega) ?_))
    rw [if_neg (by omega)]
    exact hP
  | succ j ih =>
    intro k r h0 hi hP
    have wk : w32 (k + 1) = k + 1 := w32i (by omega) (by omega)
    apply wp_X12_ranked_4
    simp only [M.p3, wk]
    (repeat (refine And.intro (by omega) ?_))
    rw [if_pos (by omega)]
    exact l_rk22 d P G c T M r k h0 (by omega) (fun s => P (fo (fun k s => w32 (w32 (s * w32 (c T 1 - k)) + fo (fun j l => if c 73 j < c 73 k then w32 (l + 1) else w32 (l + 0)) (c T 1 - (k + 1)).toNat (k + 1) 0)) j (k + 1) (w32 (w32 (r * w32 (c T 1 - k)) + s))) (G, c)) (fun s hs => ih _ _ (by omega) (by omega) hs) (c T 1 - (k + 1)).toNat (k + 1) 0 (by omega) (by omega) hP
theorem q_ranked0 (M : MDs G c T) : EvI (d + 1) mX12_ranked [mR 18 62] (G, c) P = P (rkM (c 73) (c T 1)) (G, c) := evI_eq (ev_X12_ranked d _ G c 62 (by decide) (l_ranked d _ G c T M (c T 1).toNat 0 0 (by omega) (by have := M.b1; omega) ⟨rfl, rfl⟩)) P
theorem l_rgI (M : MDs G c T) (q k : Int) (hk0 : 0 ≤ k) (hk : k < c T 1) (hf : ∀ j, 0 ≤ j → j < c T 1 → 0 ≤ c 73 j ∧ c 73 j < c T 1) (v : Int) (h : At (d + 2) mX12_ringsOf 6 [mR 18 62, mI v, mI q, mI (k + 1), MU] [] (G, c) (QI P)) : ∀ (s : Nat) (sn j : Int), 0 ≤ j → j < c T 1 → rgI (c 73) s sn j = some v → At (d + 2) mX12_ringsOf 34 [mR 18 62, mI sn, mI q, mI k, mI j] [] (G, c) (QI P) := by
  have hT := M.T; have b1 := M.b1; have b3 := M.b3
  have wk : w32 (k + 1) = k + 1 := w32i (by omega) (by omega)
  intro s
  induction s with
  | zero => intro sn j _ _ e; cases e
  | succ s ih =>
    intro sn j h0 h1 e
    apply wp_X12_ringsOf_34
    simp only [q_mbit, M.p27, M.l73, wk]
    simp only [rgI] at e
    unfold mbt
    by_cases hb : bt sn j = 1
    · rw [if_pos hb] at e
      cases e
      rw [if_pos hb, if_neg (by decide)]
      exact h
    · rw [if_neg hb] at e
      rw [if_neg hb, if_pos rfl]
      (repeat (refine And.intro (by omega) ?_))
      exact ih _ _ (hf j h0 h1).1 (hf j h0 h1).2 e
theorem l_rgO (M : MDs G c T) (hf : ∀ j, 0 ≤ j → j < c T 1 → 0 ≤ c 73 j ∧ c 73 j < c T 1) (v : Int) (hP : P v (G, c)) : ∀ (j : Nat) (k sn q : Int), 0 ≤ k → k + j = c T 1 → rgO (c 73) j k sn q = some v → At (d + 2) mX12_ringsOf 6 [mR 18 62, mI sn, mI q, mI k, MU] [] (G, c) (QI P) := by
  have hT := M.T; have b1 := M.b1; have b3 := M.b3
  intro j
  induction j with
  | zero =>
    intro k sn q h0 hi e
    apply wp_X12_ringsOf_6
    simp only [M.p3]
    (repeat (refine And.intro (by omega) ?_))
    rw [if_neg (by omega)]
    cases e
    exact hP
  | succ j ih =>
    intro k sn q h0 hi e
    have wk : w32 (k + 1) = k + 1 := w32i (by omega) (by omega)
    apply wp_X12_ringsOf_6
    simp only [M.p3, q_mbit, wk]
    (repeat (refine And.intro (by omega) ?_))
    rw [if_pos (by omega)]
    simp only [rgO] at e
    unfold mbt
    by_cases hb : bt sn k = 1
    · rw [if_pos hb] at e
      rw [if_pos hb, if_neg (by decide)]
      exact ih _ _ _ (by omega) (by omega) e
    · rw [if_neg hb] at e
      rw [if_neg hb, if_pos rfl]
      cases hr : rgI (c 73) 8 sn k with
      | none => rw [hr] at e; cases e
      | some u =>
        rw [hr] at e
        exact l_rgI d P G c T M _ k h0 (by omega) hf u (ih _ _ _ (by omega) (by omega) e) 8 sn k h0 (by omega) hr
end
theorem rgI_congr {f g : Int → Int} {n : Int} (hf : ∀ j, 0 ≤ j → j < n → 0 ≤ f j ∧ f j < n) (h : ∀ j, 0 ≤ j → j < n → f j = g j) : ∀ (s : Nat) (sn j : Int), 0 ≤ j → j < n → rgI f s sn j = rgI g s sn j := by
  intro s
  induction s with
  | zero => intro sn j _ _; rfl
  | succ s ih =>
    intro sn j h0 h1
    simp only [rgI]
    rw [← h j h0 h1, ih _ _ (hf j h0 h1).1 (hf j h0 h1).2]
theorem rgO_congr {f g : Int → Int} {n : Int} (hf : ∀ j, 0 ≤ j → j < n → 0 ≤ f j ∧ f j < n) (h : ∀ j, 0 ≤ j → j < n → f j = g j) : ∀ (j : Nat) (k sn q : Int), 0 ≤ k → k + j = n → rgO f j k sn q = rgO g j k sn q := by
  intro j
  induction j with
  | zero => intro k sn q _ _; rfl
  | succ j ih =>
    intro k sn q h0 hi
    simp only [rgO]
    rw [rgI_congr hf h 8 sn k h0 (by omega)]
    rw [ih _ _ _ (by omega) (by omega)]
    split
    · rfl
    · split
      · exact ih _ _ _ (by omega) (by omega)
      · rfl
theorem rkM_congr {f g : Int → Int} {n : Int} (hn : 0 ≤ n) (h : ∀ j, 0 ≤ j → j < n → f j = g j) : rkM f n = rkM g n := by
  unfold rkM
  apply fo_congr
  intro k s h1 h2
  congr 1
  congr 1
  apply fo_congr
  intro j l h3 h4
  rw [h j (by omega) (by omega), h k (by omega) (by omega)]
/-- the row 'one' holds the word x -/
def One (c : MC) (x n : Int) : Prop := ∀ k, 0 ≤ k → k < n → c 73 k = dg x k
theorem PM.rg {x n : Int} (h : PM x n) : ∀ j, 0 ≤ j → j < n → 0 ≤ dg x j ∧ dg x j < n := fun j a b => ⟨(dg_rg x j).1, h.2.2.1 j a b⟩
theorem One.rg {c : MC} {x n : Int} (h : One c x n) (hx : PM x n) : ∀ j, 0 ≤ j → j < n → 0 ≤ c 73 j ∧ c 73 j < n := fun j a b => by rw [h j a b]; exact hx.rg j a b
theorem chk6_and {n x : Int} (h : chk6 n x = true) : rgO (dg x) n.toNat 0 0 0 = some (cyc x n) ∧ rkM (dg x) n = rnk x n ∧ 0 ≤ rnk x n ∧ rnk x n < 720 ∧ unrk n (rnk x n) = x ∧ 1 ≤ cyc x n ∧ cyc x n ≤ n ∧ pmB (inv6 x n) n = true ∧ alln n.toNat (fun i => decide (dg (inv6 x n) (dg x i) = i)) = true := by
  unfold chk6 at h
  simp only [Bool.and_eq_true, decide_eq_true_eq] at h
  obtain ⟨⟨⟨⟨⟨⟨⟨⟨h1, h2⟩, h3⟩, h4⟩, h5⟩, h6⟩, h7⟩, h8⟩, h9⟩ := h
  exact ⟨h1, h2, h3, h4, h5, h6, h7, h8, h9⟩
theorem pmB_of {x n : Int} (h : pmB x n = true) : PM x n := by
  unfold pmB at h
  simp only [Bool.and_eq_true, decide_eq_true_eq] at h
  obtain ⟨⟨⟨h1, h2⟩, h3⟩, h4⟩ := h
  refine ⟨h1, h2, fun i a b => ?_, fun i j a b a' b' e => ?_⟩
  · have := alln_at h3 i.toNat (by omega)
    rw [show ((i.toNat : Nat) : Int) = i by omega] at this
    simpa using this
  · have := alln_at (alln_at h4 i.toNat (by omega)) j.toNat (by omega)
    rw [show ((i.toNat : Nat) : Int) = i by omega, show ((j.toNat : Nat) : Int) = j by omega, e] at this
    simp at this
    omega
theorem rnk_inj {x y n : Int} (h2 : 2 ≤ n) (h6 : n ≤ 6) (hx : PM x n) (hy : PM y n) (e : rnk x n = rnk y n) : x = y := by
  have a := (chk6_and (chk_all6 h2 h6 hx)).2.2.2.2.1
  have b := (chk6_and (chk_all6 h2 h6 hy)).2.2.2.2.1
  rw [← a, ← b, e]
theorem rnk_rg {x n : Int} (h2 : 2 ≤ n) (h6 : n ≤ 6) (hx : PM x n) : 0 ≤ rnk x n ∧ rnk x n < 720 := by
  have a := chk6_and (chk_all6 h2 h6 hx)
  exact ⟨a.2.2.1, a.2.2.2.1⟩
theorem cyc_rg {x n : Int} (h2 : 2 ≤ n) (h6 : n ≤ 6) (hx : PM x n) : 1 ≤ cyc x n ∧ cyc x n ≤ n := by
  have a := chk6_and (chk_all6 h2 h6 hx)
  exact ⟨a.2.2.2.2.2.1, a.2.2.2.2.2.2.1⟩
theorem inv_pm {x n : Int} (h2 : 2 ≤ n) (h6 : n ≤ 6) (hx : PM x n) : PM (inv6 x n) n := pmB_of (chk6_and (chk_all6 h2 h6 hx)).2.2.2.2.2.2.2.1
theorem inv_dg {x n : Int} (h2 : 2 ≤ n) (h6 : n ≤ 6) (hx : PM x n) (i : Int) (h0 : 0 ≤ i) (h1 : i < n) : dg (inv6 x n) (dg x i) = i := by
  have := alln_at (chk6_and (chk_all6 h2 h6 hx)).2.2.2.2.2.2.2.2 i.toNat (by omega)
  rw [show ((i.toNat : Nat) : Int) = i by omega] at this
  simpa using this
section
variable (d : Nat) (P : Int → MM → Prop) (P0 : MM → Prop) (G : MG) (c : MC) (T : Int)
theorem q_ranked (M : MDs G c T) (x : Int) (h : One c x (c T 1)) (hx : PM x (c T 1)) : EvI (d + 1) mX12_ranked [mR 18 62] (G, c) P = P (rnk x (c T 1)) (G, c) := by
  rw [q_ranked0 d P G c T M, rkM_congr (by have := M.b1; omega) h, (chk6_and (chk_all6 M.b1.1 M.b1.2 hx)).2.1]
theorem q_ringsOf (M : MDs G c T) (x : Int) (h : One c x (c T 1)) (hx : PM x (c T 1)) : EvI (d + 2) mX12_ringsOf [mR 18 62] (G, c) P = P (cyc x (c T 1)) (G, c) := evI_eq (ev_X12_ringsOf (d + 1) _ G c 62 (by decide) (l_rgO d _ G c T M (h.rg hx) _ ⟨rfl, rfl⟩ (c T 1).toNat 0 0 0 (by omega) (by have := M.b1; omega) (by rw [rgO_congr (h.rg hx) h _ _ _ _ (by omega) (by have := M.b1; omega)]; exact (chk6_and (chk_all6 M.b1.1 M.b1.2 hx)).1))) P
theorem q_misEven (M : MDs G c T) (x : Int) (h : One c x (c T 1)) (hx : PM x (c T 1)) : EvI (d + 3) mX12_isEven [mR 18 62] (G, c) P = P (evn (cyc x (c T 1)) (c T 1)) (G, c) := evI_eq (ev_X12_isEven (d + 2) _ G c 62 (by decide) (by
  have hT := M.T
  simp only [q_ringsOf d _ G c T M x h hx, M.p3]
  unfold evn
  refine ⟨by omega, by omega, by omega, ?_⟩
  split <;> simp)) P
end
