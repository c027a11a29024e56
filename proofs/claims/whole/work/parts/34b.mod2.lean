section
variable (d : Nat) (P : Int → MM → Prop) (P0 : MM → Prop) (G : MG) (c : MC) (T : Int)
theorem l_layWay (M : MDs G c T) (I : Int) (hI : 0 ≤ I) (hI2 : I < 720) (h : P0 (G, wr c 73 0 (c T 1) (fun k => c 68 (6 * I + k)))) : ∀ (j : Nat) (i : Int), 0 ≤ i → i + j = c T 1 → At (d + 1) mX12_layWay 2 [mR 18 62, mI I, mI i] [] (G, wr c 73 0 i (fun k => c 68 (6 * I + k))) (QV P0) := by
  have hT := M.T; have b1 := M.b1; have b3 := M.b3
  intro j
  induction j with
  | zero =>
    intro i h0 hi
    have M' := M.agr (Agr.rf.w (c := c) (a := 73) (lo := 0) (m := i) (f := fun k => c 68 (6 * I + k)) (fun j => by unfold scr; omega)); have x1 : wr c 73 0 i (fun k => c 68 (6 * I + k)) T 1 = c T 1 := wr_ne (by omega); have x3 : wr c 73 0 i (fun k => c 68 (6 * I + k)) T 3 = c T 3 := wr_ne (by omega); have y1 : w32 (6 * I) = 6 * I := w32i (by omega) (by omega); have y2 : w32 (6 * I + i) = 6 * I + i := w32i (by omega) (by omega)
    apply wp_X12_layWay_2
    simp only [y1, y2, M'.p3, M'.p22, M'.p27, M'.l68, M'.l73, x1]
    (repeat (refine And.intro (by omega) ?_))
    rw [if_neg (by omega)]
    have e : i = c T 1 := by omega
    rw [e]
    exact h
  | succ j ih =>
    intro i h0 hi
    have wi : w32 (i + 1) = i + 1 := w32i (by omega) (by omega)
    have M' := M.agr (Agr.rf.w (c := c) (a := 73) (lo := 0) (m := i) (f := fun k => c 68 (6 * I + k)) (fun j => by unfold scr; omega)); have x1 : wr c 73 0 i (fun k => c 68 (6 * I + k)) T 1 = c T 1 := wr_ne (by omega); have x3 : wr c 73 0 i (fun k => c 68 (6 * I + k)) T 3 = c T 3 := wr_ne (by omega); have y1 : w32 (6 * I) = 6 * I := w32i (by omega) (by omega); have y2 : w32 (6 * I + i) = 6 * I + i := w32i (by omega) (by omega)
    apply wp_X12_layWay_2
    simp only [y1, y2, M'.p3, M'.p22, M'.p27, M'.l68, M'.l73, x1, wi]
    (repeat (refine And.intro (by omega) ?_))
    rw [if_pos (by omega)]
    (repeat (refine And.intro (by omega) ?_))
    rintro _ rfl
    rw [wr_up h0 (by omega) (by rw [wr_ne (by decide)])]
    exact ih _ (by omega) (by omega)
theorem q_layWay (M : MDs G c T) (I : Int) (hI : 0 ≤ I) (hI2 : I < 720) : EvV (d + 1) mX12_layWay [mR 18 62, mI I] (G, c) P0 = P0 (G, wr c 73 0 (c T 1) (fun k => c 68 (6 * I + k))) := evV_eq (ev_X12_layWay d _ G c 62 I (by decide) (by have := l_layWay d (fun ν => ν = (G, wr c 73 0 (c T 1) (fun k => c 68 (6 * I + k)))) G c T M I hI hI2 rfl (c T 1).toNat 0 (by omega) (by have := M.b1; omega); rw [wr_zero (by omega)] at this; exact this)) P0
theorem l_goesBy (M : MDs G c T) (V : ∀ p, 0 ≤ p → p < c T 3 → 0 ≤ c 64 p ∧ c 64 p < 6) (I : Int) (hI : 0 ≤ I) (hI2 : I < 720) (h : P0 (G, wr c 65 0 (c T 3) (fun p => c 68 (6 * I + c 64 p)))) : ∀ (j : Nat) (i : Int), 0 ≤ i → i + j = c T 3 → At (d + 2) mX12_goesBy 2 [mR 18 62, mI I, mI i] [] (G, wr c 65 0 i (fun p => c 68 (6 * I + c 64 p))) (QV P0) := by
  have hT := M.T; have b1 := M.b1; have b3 := M.b3
  intro j
  induction j with
  | zero =>
    intro i h0 hi
    have M' := M.agr (Agr.rf.w (c := c) (a := 65) (lo := 0) (m := i) (f := fun p => c 68 (6 * I + c 64 p)) (fun j => by unfold scr; omega)); have x1 : wr c 65 0 i (fun p => c 68 (6 * I + c 64 p)) T 1 = c T 1 := wr_ne (by omega); have x3 : wr c 65 0 i (fun p => c 68 (6 * I + c 64 p)) T 3 = c T 3 := wr_ne (by omega); have y64 : wr c 65 0 i (fun p => c 68 (6 * I + c 64 p)) 64 i = c 64 i := wr_ne (by decide)
    apply wp_X12_goesBy_2
    simp only [M'.p3, M'.p16, M'.p17, M'.l64, M'.l65, x1, x3, y64]
    (repeat (refine And.intro (by omega) ?_))
    rw [if_neg (by omega)]
    have e : i = c T 3 := by omega
    rw [e]
    exact h
  | succ j ih =>
    intro i h0 hi
    have wi : w32 (i + 1) = i + 1 := w32i (by omega) (by omega)
    have M' := M.agr (Agr.rf.w (c := c) (a := 65) (lo := 0) (m := i) (f := fun p => c 68 (6 * I + c 64 p)) (fun j => by unfold scr; omega)); have x1 : wr c 65 0 i (fun p => c 68 (6 * I + c 64 p)) T 1 = c T 1 := wr_ne (by omega); have x3 : wr c 65 0 i (fun p => c 68 (6 * I + c 64 p)) T 3 = c T 3 := wr_ne (by omega); have y64 : wr c 65 0 i (fun p => c 68 (6 * I + c 64 p)) 64 i = c 64 i := wr_ne (by decide)
    apply wp_X12_goesBy_2
    simp only [M'.p3, M'.p16, M'.p17, M'.l64, M'.l65, x1, x3, y64, wi]
    (repeat (refine And.intro (by omega) ?_))
    rw [if_pos (by omega)]
    have hv := V i (by omega) (by omega)
    (repeat (refine And.intro (by omega) ?_))
    rw [q_comes d _ G _ T M' I (c 64 i) hI hI2 (by omega) (by omega)]
    simp only [M'.l65]
    (repeat (refine And.intro (by omega) ?_))
    rintro _ rfl
    rw [wr_up h0 (by omega) (by rw [wr_ne (by decide)])]
    exact ih _ (by omega) (by omega)
theorem q_goesBy (M : MDs G c T) (V : ∀ p, 0 ≤ p → p < c T 3 → 0 ≤ c 64 p ∧ c 64 p < 6) (I : Int) (hI : 0 ≤ I) (hI2 : I < 720) : EvV (d + 2) mX12_goesBy [mR 18 62, mI I] (G, c) P0 = P0 (G, wr c 65 0 (c T 3) (fun p => c 68 (6 * I + c 64 p))) := evV_eq (ev_X12_goesBy (d + 1) _ G c 62 I (by decide) (by have := l_goesBy d (fun ν => ν = (G, wr c 65 0 (c T 3) (fun p => c 68 (6 * I + c 64 p)))) G c T M V I hI hI2 rfl (c T 3).toNat 0 (by omega) (by have := M.b3; omega); rw [wr_zero (by omega)] at this; exact this)) P0
theorem l_besideOf (M : MDs G c T) (p : Int) (hp : 0 ≤ p) (hp6 : p < 6) : ∀ (j : Nat) (i : Int) (s : Int), 0 ≤ i → i + j = c T 3 → P (fo (fun q s => if bes (c 65 p) (c 65 q) = 0 then o_or s 0 else o_or s (o_shl 1 q)) j i s) (G, c) → At (d + 2) mX12_besideOf 4 [mR 18 62, mI p, mI s, mI i] [] (G, c) (QI P) := by
  have hT := M.T; have b1 := M.b1; have b3 := M.b3
  intro j
  induction j with
  | zero =>
    intro i s h0 hi hP
    apply wp_X12_besideOf_4
    try simp only [M.p3, M.p16, M.p17, M.l64, M.l65, q_X12_areBeside]
    (repeat (refine And.intro (by omega) ?_))
    rw [if_neg (by omega)]
    skip
    exact hP
  | succ j ih =>
    intro i s h0 hi hP
    have wi : w32 (i + 1) = i + 1 := w32i (by omega) (by omega)
    apply wp_X12_besideOf_4
    simp only [M.p3, M.p16, M.p17, M.l64, M.l65, q_X12_areBeside, wi]
    (repeat (refine And.intro (by omega) ?_))
    rw [if_pos (by omega)]
    simp only [fo] at hP
    skip
    (repeat' (first | (refine And.intro (by omega) ?_) | (split <;> rename_i hc <;> (first | rw [if_pos hc] at hP | rw [if_neg hc] at hP))))
    all_goals exact ih _ _ (by omega) (by omega) hP
theorem q_besideOf (M : MDs G c T) (p : Int) (hp : 0 ≤ p) (hp6 : p < 6) : EvI (d + 2) mX12_besideOf [mR 18 62, mI p] (G, c) P = P (bsd (c 65) (c T 3) p) (G, c) := evI_eq (ev_X12_besideOf (d + 1) _ G c 62 p (by decide) (l_besideOf d _ G c T M p hp hp6 (c T 3).toNat 0 0 (by omega) (by have := M.b3; omega) ⟨rfl, rfl⟩)) P
theorem l_whoIn (M : MDs G c T) (k : Int) : ∀ (j : Nat) (i : Int), 0 ≤ i → i + j = c T 3 → P (fi (fun i => decide (c 64 i = k)) (fun i => i) (-2) j i) (G, c) → At (d + 1) mX12_whoIn 2 [mR 18 62, mI k, mI i] [] (G, c) (QI P) := by
  have hT := M.T; have b1 := M.b1; have b3 := M.b3
  intro j
  induction j with
  | zero =>
    intro i h0 hi hP
    apply wp_X12_whoIn_2
    try simp only [M.p3, M.p16, M.p17, M.l64, M.l65]
    (repeat (refine And.intro (by omega) ?_))
    rw [if_neg (by omega)]
    (repeat (refine And.intro (by omega) ?_))
    exact hP
  | succ j ih =>
    intro i h0 hi hP
    have wi : w32 (i + 1) = i + 1 := w32i (by omega) (by omega)
    apply wp_X12_whoIn_2
    simp only [M.p3, M.p16, M.p17, M.l64, M.l65, wi]
    (repeat (refine And.intro (by omega) ?_))
    rw [if_pos (by omega)]
    simp only [fi] at hP
    skip
    (repeat (refine And.intro (by omega) ?_))
    by_cases hp : c 64 i = k
    · rw [if_pos (decide_eq_true hp)] at hP
      simp only [hp, if_true, if_false, true_and, and_self, not_true_eq_false, ne_eq, not_false_eq_true]
      first | exact hP | exact ⟨by omega, hP⟩
    · rw [if_neg (by simpa using hp)] at hP
      simp only [hp, if_true, if_false, not_false_eq_true]
      exact ih _ (by omega) (by omega) hP
theorem q_whoIn (M : MDs G c T) (k : Int) : EvI (d + 1) mX12_whoIn [mR 18 62, mI k] (G, c) P = P (whoF (c 64) (c T 3) k) (G, c) := evI_eq (ev_X12_whoIn d _ G c 62 k (by decide) (l_whoIn d _ G c T M k (c T 3).toNat 0 (by omega) (by have := M.b3; omega) ⟨rfl, rfl⟩)) P
def qrl (x f : Int → Int) (m : Int) : Int := o_div (fo (fun p s => w32 (s + pop (o_and (bsd x m p) (f p)))) m.toNat 0 0) 2
theorem l_quarrelsNow (M : MDs G c T) (hb : ∀ p, 0 ≤ p → p < c T 3 → 0 ≤ o_and (bsd (c 65) (c T 3) p) (c (T + 3) p) ∧ o_and (bsd (c 65) (c T 3) p) (c (T + 3) p) < 256) (K : Int → Prop) (hK : ∀ s, K s → P (o_div s 2) (G, c)) : ∀ (j : Nat) (i : Int) (s : Int), 0 ≤ i → i + j = c T 3 → K (fo (fun p s => w32 (s + pop (o_and (bsd (c 65) (c T 3) p) (c (T + 3) p)))) j i s) → At (d + 3) mX12_quarrelsNow 4 [mR 18 62, mI s, mI i] [] (G, c) (QI P) := by
  have hT := M.T; have b1 := M.b1; have b3 := M.b3
  intro j
  induction j with
  | zero =>
    intro i s h0 hi hP
    apply wp_X12_quarrelsNow_4
    try simp only [M.p3, M.t12, M.u3]
    (repeat (refine And.intro (by omega) ?_))
    rw [if_neg (by omega)]
    refine And.intro (by omega) ?_
    exact hK _ hP
  | succ j ih =>
    intro i s h0 hi hP
    have wi : w32 (i + 1) = i + 1 := w32i (by omega) (by omega)
    apply wp_X12_quarrelsNow_4
    simp only [M.p3, M.t12, M.u3, wi]
    (repeat (refine And.intro (by omega) ?_))
    rw [if_pos (by omega)]
    simp only [fo] at hP
    rw [q_besideOf d _ G c T M i (by omega) (by omega)]; simp only [M.p3, M.t12, M.u3]; (repeat (refine And.intro (by omega) ?_)); have hb1 := hb i (by omega) (by omega); rw [q_mbits (d + 1) _ G c _ hb1.1 hb1.2]
    (repeat' (first | (refine And.intro (by omega) ?_) | (split <;> rename_i hc <;> (first | rw [if_pos hc] at hP | rw [if_neg hc] at hP))))
    all_goals exact ih _ _ (by omega) (by omega) hP
theorem q_quarrelsNow (M : MDs G c T) (hb : ∀ p, 0 ≤ p → p < c T 3 → 0 ≤ o_and (bsd (c 65) (c T 3) p) (c (T + 3) p) ∧ o_and (bsd (c 65) (c T 3) p) (c (T + 3) p) < 256) : EvI (d + 3) mX12_quarrelsNow [mR 18 62] (G, c) P = P (qrl (c 65) (c (T + 3)) (c T 3)) (G, c) := evI_eq (ev_X12_quarrelsNow (d + 2) _ G c 62 (by decide) (l_quarrelsNow d _ G c T M hb (fun s => s = fo (fun p s => w32 (s + pop (o_and (bsd (c 65) (c T 3) p) (c (T + 3) p)))) (c T 3).toNat 0 0) (fun s hs => by rw [hs]; exact ⟨rfl, rfl⟩) (c T 3).toNat 0 0 (by omega) (by have := M.b3; omega) rfl)) P
def mtn (c : MC) (T : Int) (x : Int → Int) : Int := fo (fun k s => if bes (x (c (T + 5) k)) (x (c (T + 6) k)) = mbt (c T 16) k then o_or s 0 else o_or s (o_shl 1 k)) (c T 6).toNat 0 0
theorem l_metNow (M : MDs G c T) (hw : ∀ k, 0 ≤ k → k < c T 6 → (0 ≤ c (T + 5) k ∧ c (T + 5) k < 6) ∧ 0 ≤ c (T + 6) k ∧ c (T + 6) k < 6) : ∀ (j : Nat) (i : Int) (s : Int), 0 ≤ i → i + j = c T 6 → P (fo (fun k s => if bes (c 65 (c (T + 5) k)) (c 65 (c (T + 6) k)) = mbt (c T 16) k then o_or s 0 else o_or s (o_shl 1 k)) j i s) (G, c) → At (d + 2) mX12_metNow 4 [mR 18 62, mI s, mI i] [] (G, c) (QI P) := by
  have hT := M.T; have b1 := M.b1; have b3 := M.b3; have b6 := M.b6
  intro j
  induction j with
  | zero =>
    intro i s h0 hi hP
    apply wp_X12_metNow_4
    try simp only [M.p3, M.p17, M.l65, M.t14, M.t15, M.u5, M.u6, q_X12_areBeside, q_mbit]
    (repeat (refine And.intro (by omega) ?_))
    rw [if_neg (by omega)]
    skip
    exact hP
  | succ j ih =>
    intro i s h0 hi hP
    have wi : w32 (i + 1) = i + 1 := w32i (by omega) (by omega)
    apply wp_X12_metNow_4
    simp only [M.p3, M.p17, M.l65, M.t14, M.t15, M.u5, M.u6, q_X12_areBeside, q_mbit, wi]
    (repeat (refine And.intro (by omega) ?_))
    rw [if_pos (by omega)]
    simp only [fo] at hP
    have hw1 := hw i (by omega) (by omega)
    (repeat' (first | (refine And.intro (by omega) ?_) | (split <;> rename_i hc <;> (first | rw [if_pos hc] at hP | rw [if_neg hc] at hP))))
    all_goals exact ih _ _ (by omega) (by omega) hP
theorem q_metNow (M : MDs G c T) (hw : ∀ k, 0 ≤ k → k < c T 6 → (0 ≤ c (T + 5) k ∧ c (T + 5) k < 6) ∧ 0 ≤ c (T + 6) k ∧ c (T + 6) k < 6) : EvI (d + 2) mX12_metNow [mR 18 62] (G, c) P = P (mtn c T (c 65)) (G, c) := evI_eq (ev_X12_metNow (d + 1) _ G c 62 (by decide) (l_metNow d _ G c T M hw (c T 6).toNat 0 0 (by omega) (by have := M.b6; omega) ⟨rfl, rfl⟩)) P
theorem q_mplaces (M : MDs G c T) : EvI (d + 1) mX12_places [mR 18 62] (G, c) P = P (2 * c T 0 * c T 1) (G, c) := evI_eq (ev_X12_places d _ G c 62 (by decide) (by
  have hT := M.T; have b0 := M.b0; have b1 := M.b1
  have e : 2 * c T 0 * c T 1 < 2147483648 := by
    have : 2 * c T 0 * c T 1 ≤ 18 * 6 := Int.mul_le_mul (by omega) (by omega) (by omega) (by omega)
    omega
  have e0 : 0 ≤ 2 * c T 0 * c T 1 := Int.mul_nonneg (by omega) (by omega)
  rw [M.p3, w32i (x := 2 * c T 0) (by omega) (by omega), w32i (x := 2 * c T 0 * c T 1) (by omega) (by omega)]
  exact ⟨by omega, by omega, by omega, by omega, rfl, rfl⟩)) P
theorem q_misPlace (M : MDs G c T) (i : Int) : EvI (d + 2) mX12_isPlace [mR 18 62, mI i] (G, c) P = P (if 0 ≤ i ∧ i < 2 * c T 0 * c T 1 then 1 else 0) (G, c) := evI_eq (ev_X12_isPlace (d + 1) _ G c 62 i (by decide) (by have hT := M.T; simp only [q_mplaces d _ G c T M, M.p3]; grind)) P
theorem q_nisPlace (N : c 62 3 = -1) (i : Int) : EvI (d + 2) mX12_isPlace [mR 18 62, mI i] (G, c) P = P 0 (G, c) := evI_eq (ev_X12_isPlace (d + 1) _ G c 62 i (by decide) (by rw [N]; simp)) P
theorem q_seenSlot (M : MDs G c T) (i : Int) : EvI (d + 1) mX12_seenSlot [mR 18 62, mI i] (G, c) P = P (ssl (c T 1) i) (G, c) := evI_eq (ev_X12_seenSlot d _ G c 62 i (by decide) (by
  have hT := M.T; have b1 := M.b1
  rw [M.p3]; unfold ssl
  refine ⟨by omega, by omega, by omega, by omega, ?_⟩
  split
  · exact ⟨by omega, by omega, by omega, rfl, rfl⟩
  · exact ⟨by omega, by omega, by omega, by omega, by omega, rfl, rfl⟩)) P
theorem l_mfixed (M : MDs G c T) : ∀ (j : Nat) (i : Int) (s : Int), 0 ≤ i → i + j = c T 1 → P (fo (fun i s => if c 73 i = i then w32 (s + 1) else w32 (s + 0)) j i s) (G, c) → At (d + 1) mX12_fixed 4 [mR 18 62, mI s, mI i] [] (G, c) (QI P) := by
  have hT := M.T; have b1 := M.b1; have b3 := M.b3
  intro j
  induction j with
  | zero =>
    intro i s h0 hi hP
    apply wp_X12_fixed_4
    try simp only [M.p3, M.p27, M.l73]
    (repeat (refine And.intro (by omega) ?_))
    rw [if_neg (by omega)]
    skip
    exact hP
  | succ j ih =>
    intro i s h0 hi hP
    have wi : w32 (i + 1) = i + 1 := w32i (by omega) (by omega)
    apply wp_X12_fixed_4
    simp only [M.p3, M.p27, M.l73, wi]
    (repeat (refine And.intro (by omega) ?_))
    rw [if_pos (by omega)]
    simp only [fo] at hP
    skip
    (repeat' (first | (refine And.intro (by omega) ?_) | (split <;> rename_i hc <;> (first | rw [if_pos hc] at hP | rw [if_neg hc] at hP))))
    all_goals exact ih _ _ (by omega) (by omega) hP
theorem q_mfixed (M : MDs G c T) : EvI (d + 1) mX12_fixed [mR 18 62] (G, c) P = P (fo (fun i s => if c 73 i = i then w32 (s + 1) else w32 (s + 0)) (c T 1).toNat 0 0) (G, c) := evI_eq (ev_X12_fixed d _ G c 62 (by decide) (l_mfixed d _ G c T M (c T 1).toNat 0 0 (by omega) (by have := M.b1; omega) ⟨rfl, rfl⟩)) P
end
