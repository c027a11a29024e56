/-! loops over all that is come to -/
section
variable (d : Nat) (P : Int → MM → Prop) (G : MG) (c : MC) (r n T : Int) (S : MC)
theorem l_comesInto (C : CBT G c r n S) (hw : 0 ≤ S 0 0 ∧ S 0 0 ≤ 720) (k : Int) : ∀ (j : Nat) (i : Int) (s : Int), 0 ≤ i → i + j = S 0 0 → P (fo (fun i s => o_or s (o_shl 1 (dg (S 1 i) k))) j i s) (G, c) → At (d + 2) mX4_comesInto 4 [mR 11 r, mI k, mI s, mI i] [] (G, c) (QI P) := by
  have hr := C.h.r; have hcw := C.w
  intro j
  induction j with
  | zero =>
    intro i s h0 hi hP
    apply wp_X4_comesInto_4
    try simp only [C.h.p3, C.h.l1, C.w, q_X7_at]
    (repeat (refine And.intro (by first | omega | (simp only [true_and, and_true, and_self]; omega) | (simp only [true_and, and_true, and_self])) ?_))
    rw [if_neg (by omega)]
    skip
    exact hP
  | succ j ih =>
    intro i s h0 hi hP
    have wi : w32 (i + 1) = i + 1 := w32i (by omega) (by omega)
    apply wp_X4_comesInto_4
    simp only [C.h.p3, C.h.l1, C.w, q_X7_at, wi]
    (repeat (refine And.intro (by first | omega | (simp only [true_and, and_true, and_self]; omega) | (simp only [true_and, and_true, and_self])) ?_))
    rw [if_pos (by omega)]
    simp only [fo] at hP
    rw [(C.e i (by omega) (by omega)).1]
    (repeat' (first | (refine And.intro (by omega) ?_) | (split <;> rename_i hc <;> (first | rw [if_pos hc] at hP | rw [if_neg hc] at hP))))
    all_goals exact ih _ _ (by omega) (by omega) hP
theorem q_comesInto (C : CBT G c r n S) (hw : 0 ≤ S 0 0 ∧ S 0 0 ≤ 720) (k : Int) : EvI (d + 2) mX4_comesInto [mR 11 r, mI k] (G, c) P = P (fo (fun i s => o_or s (o_shl 1 (dg (S 1 i) k))) (S 0 0).toNat 0 0) (G, c) := evI_eq (ev_X4_comesInto (d + 1) _ G c r k (by have := C.h.r; omega) (l_comesInto d _ G c r n S C hw k (S 0 0).toNat 0 0 (by omega) (by omega) ⟨rfl, rfl⟩)) P
theorem l_leaving (C : CBT G c r n S) (hw : 0 ≤ S 0 0 ∧ S 0 0 ≤ 720) (k : Int) : ∀ (j : Nat) (i : Int) (s : Int), 0 ≤ i → i + j = S 0 0 → P (fo (fun i s => if dg (S 1 i) k = k then w32 (s + 1) else w32 (s + 0)) j i s) (G, c) → At (d + 2) mX4_leaving 4 [mR 11 r, mI k, mI s, mI i] [] (G, c) (QI P) := by
  have hr := C.h.r; have hcw := C.w
  intro j
  induction j with
  | zero =>
    intro i s h0 hi hP
    apply wp_X4_leaving_4
    try simp only [C.h.p3, C.h.l1, C.w, q_X7_at]
    (repeat (refine And.intro (by first | omega | (simp only [true_and, and_true, and_self]; omega) | (simp only [true_and, and_true, and_self])) ?_))
    rw [if_neg (by omega)]
    skip
    exact hP
  | succ j ih =>
    intro i s h0 hi hP
    have wi : w32 (i + 1) = i + 1 := w32i (by omega) (by omega)
    apply wp_X4_leaving_4
    simp only [C.h.p3, C.h.l1, C.w, q_X7_at, wi]
    (repeat (refine And.intro (by first | omega | (simp only [true_and, and_true, and_self]; omega) | (simp only [true_and, and_true, and_self])) ?_))
    rw [if_pos (by omega)]
    simp only [fo] at hP
    rw [(C.e i (by omega) (by omega)).1]
    (repeat' (first | (refine And.intro (by omega) ?_) | (split <;> rename_i hc <;> (first | rw [if_pos hc] at hP | rw [if_neg hc] at hP))))
    all_goals exact ih _ _ (by omega) (by omega) hP
theorem q_leaving (C : CBT G c r n S) (hw : 0 ≤ S 0 0 ∧ S 0 0 ≤ 720) (k : Int) : EvI (d + 2) mX4_leaving [mR 11 r, mI k] (G, c) P = P (fo (fun i s => if dg (S 1 i) k = k then w32 (s + 1) else w32 (s + 0)) (S 0 0).toNat 0 0) (G, c) := evI_eq (ev_X4_leaving (d + 1) _ G c r k (by have := C.h.r; omega) (l_leaving d _ G c r n S C hw k (S 0 0).toNat 0 0 (by omega) (by omega) ⟨rfl, rfl⟩)) P
theorem q_most (C : CBT G c r n S) (hw : 0 ≤ S 0 0 ∧ S 0 0 ≤ 720) (hw1 : 1 ≤ S 0 0) : EvI (d + 1) mX4_most [mR 11 r] (G, c) P = P (S 2 (S 0 0 - 1)) (G, c) := evI_eq (ev_X4_most d _ G c r (by have := C.h.r; omega) (by
  have hr := C.h.r
  rw [C.w, C.h.p4, C.h.l2, w32i (by omega) (by omega), (C.e (S 0 0 - 1) (by omega) (by omega)).2.1]
  refine ⟨by omega, ?_⟩
  rw [if_neg (by omega)]
  exact ⟨by omega, by omega, ⟨by omega, by omega, by omega⟩, rfl, rfl⟩)) P
theorem q_depthOf (C : CBT G c r n S) (hw : 0 ≤ S 0 0 ∧ S 0 0 ≤ 720) (x : Int) (h2 : 2 ≤ n) (h6 : n ≤ 6) (hx : PM x n) (hi : 0 ≤ S 5 (rnk x n) ∧ S 5 (rnk x n) < S 0 0) : EvI (d + 3) mX4_depthOf [mR 11 r, mI x] (G, c) P = P (S 2 (S 5 (rnk x n))) (G, c) := evI_eq (ev_X4_depthOf (d + 2) _ G c r x (by have := C.h.r; omega) (by
  have hr := C.h.r
  obtain ⟨k0, k1⟩ := rnk_rg h2 h6 hx
  simp only [C.n, q_X7_rank _ _ _ _ _ n (show n ≤ 1000 by omega), C.h.p7, C.h.l5, C.x _ k0 k1, C.h.p4, C.h.l2]
  refine ⟨by omega, ?_⟩
  rw [if_neg (show ¬ rnk x n < 0 by omega), if_pos k1]
  refine ⟨by omega, ⟨by omega, k0, k1⟩, ?_⟩
  rw [if_neg (by omega), (C.e _ hi.1 hi.2).2.1]
  exact ⟨by omega, ⟨by omega, hi.1, by omega⟩, by simp⟩)) P
theorem q_standBehind (C : CBT G c r n S) (hw : 0 ≤ S 0 0 ∧ S 0 0 ≤ 720) (i st pe : Int) (i0 : 0 ≤ i) (i1 : i < S 0 0) (hp : pe ≤ 1000) : EvI (d + 3) mX4_standBehind [mR 11 r, mI i, mI st, mI pe] (G, c) P = P (thr st (S 1 i) pe) (G, c) := evI_eq (ev_X4_standBehind (d + 2) _ G c r i st pe (by have := C.h.r; omega) (by
  have hr := C.h.r
  rw [C.h.p3, C.h.l1, (C.e i i0 i1).1, q_X7_through _ _ _ _ _ _ pe hp]
  exact ⟨by omega, ⟨by omega, by omega, by omega⟩, rfl, rfl⟩)) P
theorem l_firstHolding (C : CBT G c r n S) (hw : 0 ≤ S 0 0 ∧ S 0 0 ≤ 720) (a k wa st pe : Int) (H : PLs G c a k) (hp : pe ≤ 1000) : ∀ (j : Nat) (i : Int), 0 ≤ i → i + j = S 0 0 → P (fi (fun i => decide (hld c a (thr st (S 1 i) pe) = wa)) (fun i => i) (-1) j i) (G, c) → At (d + 4) mX4_firstHolding 3 [mR 11 r, mR 10 a, mI wa, mI st, mI pe, mI i] [] (G, c) (QI P) := by
  have hr := C.h.r; have hcw := C.w
  intro j
  induction j with
  | zero =>
    intro i h0 hi hP
    apply wp_X4_firstHolding_3
    try simp only [C.h.p3, C.h.l1, C.w, q_holding _ _ _ _ a k _ H]
    (repeat (refine And.intro (by first | omega | (simp only [true_and, and_true, and_self]; omega) | (simp only [true_and, and_true, and_self])) ?_))
    rw [if_neg (by omega)]
    (repeat (refine And.intro (by first | omega | (simp only [true_and, and_true, and_self]; omega) | (simp only [true_and, and_true, and_self])) ?_))
    exact hP
  | succ j ih =>
    intro i h0 hi hP
    have wi : w32 (i + 1) = i + 1 := w32i (by omega) (by omega)
    apply wp_X4_firstHolding_3
    simp only [C.h.p3, C.h.l1, C.w, q_holding _ _ _ _ a k _ H, wi]
    (repeat (refine And.intro (by first | omega | (simp only [true_and, and_true, and_self]; omega) | (simp only [true_and, and_true, and_self])) ?_))
    rw [if_pos (by omega)]
    simp only [fi] at hP
    rw [q_standBehind d _ G c r n S C hw i st pe (by omega) (by omega) hp]; simp only [q_holding _ _ _ _ a k _ H]
    (repeat (refine And.intro (by first | omega | (simp only [true_and, and_true, and_self]; omega) | (simp only [true_and, and_true, and_self])) ?_))
    by_cases hp : hld c a (thr st (S 1 i) pe) = wa
    · rw [if_pos (decide_eq_true hp)] at hP
      simp only [hp, if_true, if_false, true_and, and_self, not_true_eq_false, ne_eq, not_false_eq_true]
      first | exact hP | exact ⟨by omega, hP⟩
    · rw [if_neg (by simpa using hp)] at hP
      simp only [hp, if_true, if_false, not_false_eq_true]
      exact ih _ (by omega) (by omega) hP
theorem q_firstHolding (C : CBT G c r n S) (hw : 0 ≤ S 0 0 ∧ S 0 0 ≤ 720) (a k wa st pe : Int) (H : PLs G c a k) (hp : pe ≤ 1000) : EvI (d + 4) mX4_firstHolding [mR 11 r, mR 10 a, mI wa, mI st, mI pe] (G, c) P = P (fi (fun i => decide (hld c a (thr st (S 1 i) pe) = wa)) (fun i => i) (-1) (S 0 0).toNat 0) (G, c) := evI_eq (ev_X4_firstHolding (d + 3) _ G c r a wa st pe (by have := C.h.r; omega) (l_firstHolding d _ G c r n S C hw a k wa st pe H hp (S 0 0).toNat 0 (by omega) (by omega) ⟨rfl, rfl⟩)) P
theorem l_firstBringing (C : CBT G c r n S) (hw : 0 ≤ S 0 0 ∧ S 0 0 ≤ 720) (k b : Int) : ∀ (j : Nat) (i : Int), 0 ≤ i → i + j = S 0 0 → P (fi (fun i => decide (dg (S 1 i) k = b)) (fun i => i) (-1) j i) (G, c) → At (d + 2) mX4_firstBringing 2 [mR 11 r, mI k, mI b, mI i] [] (G, c) (QI P) := by
  have hr := C.h.r; have hcw := C.w
  intro j
  induction j with
  | zero =>
    intro i h0 hi hP
    apply wp_X4_firstBringing_2
    try simp only [C.h.p3, C.h.l1, C.w, q_X7_at]
    (repeat (refine And.intro (by first | omega | (simp only [true_and, and_true, and_self]; omega) | (simp only [true_and, and_true, and_self])) ?_))
    rw [if_neg (by omega)]
    (repeat (refine And.intro (by first | omega | (simp only [true_and, and_true, and_self]; omega) | (simp only [true_and, and_true, and_self])) ?_))
    exact hP
  | succ j ih =>
    intro i h0 hi hP
    have wi : w32 (i + 1) = i + 1 := w32i (by omega) (by omega)
    apply wp_X4_firstBringing_2
    simp only [C.h.p3, C.h.l1, C.w, q_X7_at, wi]
    (repeat (refine And.intro (by first | omega | (simp only [true_and, and_true, and_self]; omega) | (simp only [true_and, and_true, and_self])) ?_))
    rw [if_pos (by omega)]
    simp only [fi] at hP
    rw [(C.e i (by omega) (by omega)).1]
    (repeat (refine And.intro (by first | omega | (simp only [true_and, and_true, and_self]; omega) | (simp only [true_and, and_true, and_self])) ?_))
    by_cases hp : dg (S 1 i) k = b
    · rw [if_pos (decide_eq_true hp)] at hP
      simp only [hp, if_true, if_false, true_and, and_self, not_true_eq_false, ne_eq, not_false_eq_true]
      first | exact hP | exact ⟨by omega, hP⟩
    · rw [if_neg (by simpa using hp)] at hP
      simp only [hp, if_true, if_false, not_false_eq_true]
      exact ih _ (by omega) (by omega) hP
theorem q_firstBringing (C : CBT G c r n S) (hw : 0 ≤ S 0 0 ∧ S 0 0 ≤ 720) (k b : Int) : EvI (d + 2) mX4_firstBringing [mR 11 r, mI k, mI b] (G, c) P = P (fi (fun i => decide (dg (S 1 i) k = b)) (fun i => i) (-1) (S 0 0).toNat 0) (G, c) := evI_eq (ev_X4_firstBringing (d + 1) _ G c r k b (by have := C.h.r; omega) (l_firstBringing d _ G c r n S C hw k b (S 0 0).toNat 0 (by omega) (by omega) ⟨rfl, rfl⟩)) P
/-- the way back along the turns: the reference's loop and the class's -/
def bkF (S : MC) (st : Int) : Nat → Int → Int
  | 0, i => S 4 i
  | j + 1, i => if st + 1 < S 2 i then bkF S st j (S 3 i) else S 4 i
theorem l_turnAt (C : CBT G c r n S) (hw : 0 ≤ S 0 0 ∧ S 0 0 ≤ 720) {g : Int → Int} {nt : Int} (B : BV n g nt S) (st : Int) (s0 : 0 ≤ st) (s1 : st < 1000) : ∀ (j : Nat) (i : Int), 0 ≤ i → i < S 0 0 → i < j → P (bkF S st j i) (G, c) → At (d + 1) mX4_turnAt 10 [mR 11 r, MU, mI st, mI i, mI (S 2 i)] [] (G, c) (QI P) := by
  have hr := C.h.r
  intro j
  induction j with
  | zero => intro i a b e; omega
  | succ j ih =>
    intro i i0 i1 ij hP
    have hb := B.2.1 i i0 i1
    have he := C.e i i0 i1
    apply wp_X4_turnAt_10
    rw [w32i (x := st + 1) (by omega) (by omega), C.h.p5, C.h.l3, C.h.p6, C.h.l4, he.2.2.1, he.2.2.2]
    simp only [bkF] at hP
    by_cases h : st + 1 < S 2 i
    · rw [if_pos h] at hP ⊢
      refine ⟨by omega, ⟨by omega, by omega, by omega⟩, ?_⟩
      rcases hb.2.2.2.2 with ⟨q1, q2, q3, q4, q5⟩ | ⟨q1, q2, q3, q4, q5, q6, q7⟩
      · omega
      · rw [if_neg (by omega)]
        refine ⟨by omega, ⟨by omega, by omega, by omega⟩, ?_⟩
        rw [show w32 (S 2 i + -1) = S 2 (S 3 i) by rw [w32i (by omega) (by omega)]; omega]
        exact ih _ q2 (by omega) (by omega) hP
    · rw [if_neg h] at hP ⊢
      exact ⟨by omega, ⟨by omega, by omega, by omega⟩, hP⟩
theorem q_turnAt (C : CBT G c r n S) (hw : 0 ≤ S 0 0 ∧ S 0 0 ≤ 720) {g : Int → Int} {nt : Int} (B : BV n g nt S) (i st : Int) (s0 : 0 ≤ st) (s1 : st < 1000) (i0 : 0 ≤ i) (i1 : i < S 0 0) : EvI (d + 1) mX4_turnAt [mR 11 r, mI i, mI st] (G, c) P = P (bkF S st 721 i) (G, c) := evI_eq (ev_X4_turnAt d _ G c r i st (by have := C.h.r; omega) (by
  have hr := C.h.r
  rw [C.h.p4, C.h.l2, (C.e i i0 i1).2.1]
  exact ⟨by omega, ⟨by omega, by omega, by omega⟩, l_turnAt d _ G c r n S C hw B st s0 s1 721 i i0 i1 (by omega) ⟨rfl, rfl⟩⟩)) P
theorem l_mturnAt (M : MDs G c T) (Mb : MBT c n S) (hw : 0 ≤ S 0 0 ∧ S 0 0 ≤ 720) {g : Int → Int} {nt : Int} (B : BV n g nt S) (st : Int) (s0 : 0 ≤ st) (s1 : st < 1000) : ∀ (j : Nat) (i : Int), 0 ≤ i → i < S 0 0 → i < j → P (bkF S st j i) (G, mtr c 0) → At (d + 2) mX12_stepOf 44 [mR 18 62, MU, mI st, mI i] [] (G, c) (QI P) := by
  intro j
  induction j with
  | zero => intro i a b e; omega
  | succ j ih =>
    intro i i0 i1 ij hP
    have hb := B.2.1 i i0 i1
    have he := Mb.f i i0 i1
    apply wp_X12_stepOf_44
    rw [w32i (x := st + 1) (by omega) (by omega), M.p24, M.l70, M.p25, M.l71, M.p26, M.l72, he.1, he.2.1, he.2.2]
    simp only [q_mgood]
    refine ⟨by omega, ⟨by omega, by omega, by omega⟩, ?_⟩
    simp only [bkF] at hP
    by_cases h : st + 1 < S 2 i
    · rw [if_pos h] at hP ⊢
      refine ⟨by omega, ⟨by omega, by omega, by omega⟩, ?_⟩
      rcases hb.2.2.2.2 with ⟨q1, q2, q3, q4, q5⟩ | ⟨q1, q2, q3, q4, q5, q6, q7⟩
      · omega
      · exact ih _ q2 (by omega) (by omega) hP
    · rw [if_neg h] at hP ⊢
      exact ⟨by omega, ⟨by omega, by omega, by omega⟩, hP⟩
theorem l_evenCount (C : CBT G c r n S) (hw : 0 ≤ S 0 0 ∧ S 0 0 ≤ 720) (n0 : 0 ≤ n) (n6 : n ≤ 6) (K : Int → Prop) (hK : ∀ s, K s → P s (G, c)) : ∀ (j : Nat) (i : Int) (s : Int), 0 ≤ i → i + j = n + 1 → K (fo (fun k s => if evn k n = 0 then w32 (s + 0) else w32 (s + cnt (fun i => decide (cyc (S 1 i) n = k)) (S 0 0))) j i s) → At (d + 2) mX4_evenCount 4 [mR 11 r, mI s, mI i] [] (G, c) (QI P) := by
  have hr := C.h.r; have hcw := C.w
  intro j
  induction j with
  | zero =>
    intro i s h0 hi hP
    apply wp_X4_evenCount_4
    try simp only [C.n, q_X7_isEven, C.h.p8, C.h.l6]
    (repeat (refine And.intro (by first | omega | (simp only [true_and, and_true, and_self]; omega) | (simp only [true_and, and_true, and_self])) ?_))
    rw [if_pos (by omega)]
    skip
    exact hK _ hP
  | succ j ih =>
    intro i s h0 hi hP
    have wi : w32 (i + 1) = i + 1 := w32i (by omega) (by omega)
    apply wp_X4_evenCount_4
    simp only [C.n, q_X7_isEven, C.h.p8, C.h.l6, wi]
    (repeat (refine And.intro (by first | omega | (simp only [true_and, and_true, and_self]; omega) | (simp only [true_and, and_true, and_self])) ?_))
    rw [if_neg (by omega)]
    simp only [fo] at hP
    skip
    rw [C.y i (by omega) (by omega)]
    (repeat' (first | (refine And.intro (by omega) ?_) | (split <;> rename_i hc <;> (first | rw [if_pos hc] at hP | rw [if_neg hc] at hP))))
    all_goals exact ih _ _ (by omega) (by omega) hP
theorem q_evenCount (C : CBT G c r n S) (hw : 0 ≤ S 0 0 ∧ S 0 0 ≤ 720) (n0 : 0 ≤ n) (n6 : n ≤ 6) : EvI (d + 2) mX4_evenCount [mR 11 r] (G, c) P = P (fo (fun k s => if evn k n = 0 then w32 (s + 0) else w32 (s + cnt (fun i => decide (cyc (S 1 i) n = k)) (S 0 0))) (n + 1).toNat 0 0) (G, c) := evI_eq (ev_X4_evenCount (d + 1) _ G c r (by have := C.h.r; omega) (l_evenCount d _ G c r n S C hw n0 n6 (fun s => s = fo (fun k s => if evn k n = 0 then w32 (s + 0) else w32 (s + cnt (fun i => decide (cyc (S 1 i) n = k)) (S 0 0))) (n + 1).toNat 0 0) (fun s hs => ⟨hs, rfl⟩) (n + 1).toNat 0 0 (by omega) (by omega) rfl)) P
theorem l_morbit (M : MDs G c T) (Mb : MBT c n S) (hw : 0 ≤ S 0 0 ∧ S 0 0 ≤ 720) (hn : c T 1 = n) (k : Int) (k0 : 0 ≤ k) (k1 : k < n) (K : Int → Prop) (hK : ∀ s, K s → P s (G, mtr c 0)) : ∀ (j : Nat) (i : Int) (s : Int), 0 ≤ i → i + j = S 0 0 → K (fo (fun i s => o_or s (o_shl 1 (dg (S 1 i) k))) j i s) → At (d + 2) mX12_orbit 23 [mR 18 62, mI k, mI s, mI i] [] (G, c) (QI P) := by
  have hT := M.T; have b1 := M.b1; have hbw := Mb.w
  intro j
  induction j with
  | zero =>
    intro i s h0 hi hP
    apply wp_X12_orbit_23
    try simp only [Mb.w, q_mgood]
    (repeat (refine And.intro (by first | omega | (simp only [true_and, and_true, and_self]; omega) | (simp only [true_and, and_true, and_self])) ?_))
    rw [if_neg (by omega)]
    skip
    exact hK _ hP
  | succ j ih =>
    intro i s h0 hi hP
    have wi : w32 (i + 1) = i + 1 := w32i (by omega) (by omega)
    apply wp_X12_orbit_23
    simp only [Mb.w, q_mgood, wi]
    (repeat (refine And.intro (by first | omega | (simp only [true_and, and_true, and_self]; omega) | (simp only [true_and, and_true, and_self])) ?_))
    rw [if_pos (by omega)]
    simp only [fo] at hP
    rw [q_comes _ _ _ _ T M i k (by omega) (by omega) k0 (by omega)]; simp only []; rw [Mb.e i k (by omega) (by omega) k0 k1]
    (repeat' (first | (refine And.intro (by omega) ?_) | (split <;> rename_i hc <;> (first | rw [if_pos hc] at hP | rw [if_neg hc] at hP))))
    all_goals exact ih _ _ (by omega) (by omega) hP
theorem l_mkeeps (M : MDs G c T) (Mb : MBT c n S) (hw : 0 ≤ S 0 0 ∧ S 0 0 ≤ 720) (hn : c T 1 = n) (k : Int) (k0 : 0 ≤ k) (k1 : k < n) (K : Int → Prop) (hK : ∀ s, K s → P s (G, mtr c 0)) : ∀ (j : Nat) (i : Int) (s : Int), 0 ≤ i → i + j = S 0 0 → K (fo (fun i s => if dg (S 1 i) k = k then w32 (s + 1) else w32 (s + 0)) j i s) → At (d + 2) mX12_keeps 23 [mR 18 62, mI k, mI s, mI i] [] (G, c) (QI P) := by
  have hT := M.T; have b1 := M.b1; have hbw := Mb.w
  intro j
  induction j with
  | zero =>
    intro i s h0 hi hP
    apply wp_X12_keeps_23
    try simp only [Mb.w, q_mgood]
    (repeat (refine And.intro (by first | omega | (simp only [true_and, and_true, and_self]; omega) | (simp only [true_and, and_true, and_self])) ?_))
    rw [if_neg (by omega)]
    skip
    exact hK _ hP
  | succ j ih =>
    intro i s h0 hi hP
    have wi : w32 (i + 1) = i + 1 := w32i (by omega) (by omega)
    apply wp_X12_keeps_23
    simp only [Mb.w, q_mgood, wi]
    (repeat (refine And.intro (by first | omega | (simp only [true_and, and_true, and_self]; omega) | (simp only [true_and, and_true, and_self])) ?_))
    rw [if_pos (by omega)]
    simp only [fo] at hP
    rw [q_comes _ _ _ _ T M i k (by omega) (by omega) k0 (by omega)]; simp only []; rw [Mb.e i k (by omega) (by omega) k0 k1]
    (repeat' (first | (refine And.intro (by omega) ?_) | (split <;> rename_i hc <;> (first | rw [if_pos hc] at hP | rw [if_neg hc] at hP))))
    all_goals exact ih _ _ (by omega) (by omega) hP
end
