theorem IV.z {G : MG} {c : MC} (h : IV G c) : IV G (up c 62 0 0) := h.kp (ki_agr (agr_0 c)) ⟨by rw [up_nj (by decide), up_na (by decide)]; exact h.1.1, by rw [up_nj (by decide), up_na (by decide), up_na (by decide)]; exact h.1.2⟩
theorem k_fault (d : Nat) (G : MG) (c : MC) (H : IV G c) : EvI (d + 40) mX10_fault [mR 16 0] (G, c) (fun r1 ν1 => EvI (d + 40) mX12_fault [mR 18 62] (ν1.1, ν1.2) (fun r2 ν2 => K2 G r1 r2 ν2)) := by
  obtain ⟨hr, t, z, S, V⟩ := id H
  refine ev_X10_fault (d + 39) _ G c 0 (by decide) ?_
  rw [S.p2]
  refine ⟨by omega, by omega, ?_⟩
  refine ev_X12_fault (d + 39) _ G _ 62 (by decide) ⟨by decide, ?_⟩
  rintro _ rfl
  exact ⟨by omega, by rw [up_nj (by decide)]; exact S.fa, rfl, H.z⟩
theorem k_where (d : Nat) (G : MG) (c : MC) (H : IV G c) : EvI (d + 40) mX10_where [mR 16 0] (G, c) (fun r1 ν1 => EvI (d + 40) mX12_where [mR 18 62] (ν1.1, ν1.2) (fun r2 ν2 => K2 G r1 r2 ν2)) := by
  obtain ⟨hr, t, z, S, V⟩ := id H
  have mdl : ∀ r, r = c 62 2 → EvI (d + 40) mX12_where [mR 18 62] (G, c) (fun r2 ν2 => K2 G r r2 ν2) := by
    intro r h
    refine ev_X12_where (d + 39) _ G _ 62 (by decide) ⟨by decide, ?_⟩
    rintro _ rfl
    exact ⟨by omega, by rw [up_nj (by decide)]; exact h, rfl, H.z⟩
  refine ev_X10_where (d + 39) _ G c 0 (by decide) ?_
  rw [S.p2]
  refine ⟨by omega, ?_⟩
  split
  · rename_i h
    exact ⟨by omega, by omega, mdl _ (by rw [hr.2, if_pos h])⟩
  · rename_i h
    exact mdl _ (by rw [hr.2, if_neg h])
theorem k_trouble (d : Nat) (G : MG) (c : MC) (H : IV G c) : EvI (d + 40) mX10_trouble [mR 16 0] (G, c) (fun r1 ν1 => EvI (d + 40) mX12_trouble [mR 18 62] (ν1.1, ν1.2) (fun r2 ν2 => K2 G r1 r2 ν2)) := by
  obtain ⟨hr, t, z, S, V⟩ := id H
  refine ev_X10_trouble (d + 39) _ G c 0 (by decide) ⟨by decide, ?_⟩
  refine ev_X12_trouble (d + 39) _ G _ 62 (by decide) ⟨by decide, ?_⟩
  rintro _ rfl
  exact ⟨by omega, by rw [up_nj (by decide)]; exact hr.1.symm, rfl, H.z⟩
theorem k_size (d : Nat) (G : MG) (c : MC) (a : Int) (H : IV G c) : EvI (d + 40) mX10_size [mR 16 0, mI a] (G, c) (fun r1 ν1 => EvI (d + 40) mX12_size [mR 18 62, mI a] (ν1.1, ν1.2) (fun r2 ν2 => K2 G r1 r2 ν2)) := by
  obtain ⟨hr, t, z, S, V⟩ := id H
  have ht := S.t
  have mdl : ∀ r, r = (if a = 11 then c 62 6 else if ¬ (0 ≤ a ∧ a ≤ 10) then -1 else if c 62 3 < 0 then 0 else if a = 9 then c 62 20 else if a = 10 then c 62 21 else c (c 62 3) a) → EvI (d + 40) mX12_size [mR 18 62, mI a] (G, c) (fun r2 ν2 => K2 G r r2 ν2) := by
    intro r h
    refine ev_X12_size (d + 39) _ G _ 62 a (by decide) ⟨by decide, ?_⟩
    rintro _ rfl
    have e6 : up c 62 0 0 62 6 = c 62 6 := up_nj (by decide)
    have e3 : up c 62 0 0 62 3 = c 62 3 := up_nj (by decide)
    have e20 : up c 62 0 0 62 20 = c 62 20 := up_nj (by decide)
    have e21 : up c 62 0 0 62 21 = c 62 21 := up_nj (by decide)
    simp only [q_min, e6, e3, e20, e21]
    by_cases h11 : a = 11
    · rw [if_pos h11] at h ⊢; exact ⟨by omega, h, rfl, H.z⟩
    · rw [if_neg h11] at h ⊢
      by_cases hr' : 0 ≤ a ∧ a ≤ 10
      · rw [if_neg (by simpa using hr')] at h
        rw [if_pos hr', if_neg (by decide)]
        refine ⟨by omega, ?_⟩
        by_cases hn : c 62 3 < 0
        · rw [if_pos hn] at h ⊢; exact ⟨h, rfl, H.z⟩
        · rw [if_neg hn] at h ⊢
          have eT : ∀ k : Int, up c 62 0 0 (c 62 3) k = c (c 62 3) k ∨ (c 62 3 = 62 ∧ k = 0) := fun k => by
            by_cases q : c 62 3 = 62 ∧ k = 0
            · exact Or.inr q
            · unfold up; rw [if_neg q]; exact Or.inl rfl
          have hne : c 62 3 ≠ 62 := by
            rcases V with V | ⟨T, n, m, u, q, w, x, s, ka, ki, g, V⟩
            · have := V.T; omega
            · have := V.M.T; have := V.M.p3; omega
          have eT' : ∀ k : Int, up c 62 0 0 (c 62 3) k = c (c 62 3) k := fun k => up_na hne
          simp only [eT']
          have : a = 0 ∨ a = 1 ∨ a = 2 ∨ a = 3 ∨ a = 4 ∨ a = 5 ∨ a = 6 ∨ a = 7 ∨ a = 8 ∨ a = 9 ∨ a = 10 := by omega
          rcases this with rfl | rfl | rfl | rfl | rfl | rfl | rfl | rfl | rfl | rfl | rfl <;> simp only [↓reduceIte, Int.reduceEq] at h ⊢ <;> (first | exact ⟨by omega, by omega, h, rfl, H.z⟩ | exact ⟨by omega, h, rfl, H.z⟩)
      · rw [if_pos hr'] at h
        rw [if_neg hr', if_pos rfl]; exact ⟨h, rfl, H.z⟩
  have key : ∀ r, r = (if a = 0 then c t 0 else if a = 1 then c t 1 else if a = 2 then c t 2 else if a = 3 then c t 3 else if a = 4 then c t 4 else if a = 5 then c (t + 6) 3 else if a = 6 then c (t + 10) 3 else if a = 7 then c t 5 else if a = 8 then c (t + 14) 3 else if a = 9 then c 42 2 else if a = 10 then c 42 4 else if a = 11 then c 19 2 else -1) → EvI (d + 40) mX12_size [mR 18 62, mI a] (G, c) (fun r2 ν2 => K2 G r r2 ν2) := by
    intro r h
    apply mdl
    rw [h]
    have htp := S.tp
    rcases V with V | ⟨T, n, m, u, q, w, x, s, ka, ki, g, V⟩
    · have := V.T; have := V.e0; have := V.e1; have := V.e2; have := V.e3; have := V.e4; have := V.e5; have := V.q; have := V.w; have := V.s; have := V.a; have := V.i
      clear mdl H hr S; grind (splits := 40)
    · have hT := V.M.T; have hp3 := V.M.p3; have := V.e0; have := V.e1; have := V.e2; have := V.e3; have := V.e4; have := V.e5; have := V.eq; have := V.ew; have := V.es; have := V.ac; have := V.im; have := V.v1; have := V.v3; have := V.v4; have := V.v5; have := V.v6; have := V.v7; have := V.v8
      rw [hp3]
      clear mdl H hr S; grind (splits := 40)
  refine ev_X10_size (d + 39) _ G c 0 a (by decide) ?_
  have hp := S.told
  rw [S.p0, S.p2, S.p3, hp.p11, hp.p12, hp.p13]
  by_cases h0 : a = 0
  · rw [if_pos h0]; exact ⟨by omega, by omega, key _ (by rw [if_pos h0])⟩
  rw [if_neg h0]
  by_cases h1 : a = 1
  · rw [if_pos h1]; exact ⟨by omega, by omega, key _ (by rw [if_neg h0, if_pos h1])⟩
  rw [if_neg h1]
  by_cases h2 : a = 2
  · rw [if_pos h2]; exact ⟨by omega, by omega, key _ (by rw [if_neg h0, if_neg h1, if_pos h2])⟩
  rw [if_neg h2]
  by_cases h3 : a = 3
  · rw [if_pos h3]; exact ⟨by omega, by omega, key _ (by rw [if_neg h0, if_neg h1, if_neg h2, if_pos h3])⟩
  rw [if_neg h3]
  by_cases h4 : a = 4
  · rw [if_pos h4]; exact ⟨by omega, by omega, key _ (by rw [if_neg h0, if_neg h1, if_neg h2, if_neg h3, if_pos h4])⟩
  rw [if_neg h4]
  by_cases h5 : a = 5
  · rw [if_pos h5]; exact ⟨by omega, by omega, by omega, key _ (by rw [if_neg h0, if_neg h1, if_neg h2, if_neg h3, if_neg h4, if_pos h5])⟩
  rw [if_neg h5]
  by_cases h6 : a = 6
  · rw [if_pos h6]; exact ⟨by omega, by omega, by omega, key _ (by rw [if_neg h0, if_neg h1, if_neg h2, if_neg h3, if_neg h4, if_neg h5, if_pos h6])⟩
  rw [if_neg h6]
  by_cases h7 : a = 7
  · rw [if_pos h7]; exact ⟨by omega, by omega, key _ (by rw [if_neg h0, if_neg h1, if_neg h2, if_neg h3, if_neg h4, if_neg h5, if_neg h6, if_pos h7])⟩
  rw [if_neg h7]
  by_cases h8 : a = 8
  · rw [if_pos h8]; exact ⟨by omega, by omega, by omega, key _ (by rw [if_neg h0, if_neg h1, if_neg h2, if_neg h3, if_neg h4, if_neg h5, if_neg h6, if_neg h7, if_pos h8])⟩
  rw [if_neg h8]
  by_cases h9 : a = 9
  · rw [if_pos h9]; exact ⟨by omega, by omega, key _ (by rw [if_neg h0, if_neg h1, if_neg h2, if_neg h3, if_neg h4, if_neg h5, if_neg h6, if_neg h7, if_neg h8, if_pos h9])⟩
  rw [if_neg h9]
  by_cases h10 : a = 10
  · rw [if_pos h10]; exact ⟨by omega, by omega, key _ (by rw [if_neg h0, if_neg h1, if_neg h2, if_neg h3, if_neg h4, if_neg h5, if_neg h6, if_neg h7, if_neg h8, if_neg h9, if_pos h10])⟩
  rw [if_neg h10]
  by_cases h11 : a = 11
  · rw [if_pos h11]; exact ⟨by omega, by omega, key _ (by rw [if_neg h0, if_neg h1, if_neg h2, if_neg h3, if_neg h4, if_neg h5, if_neg h6, if_neg h7, if_neg h8, if_neg h9, if_neg h10, if_pos h11])⟩
  rw [if_neg h11]
  exact key _ (by rw [if_neg h0, if_neg h1, if_neg h2, if_neg h3, if_neg h4, if_neg h5, if_neg h6, if_neg h7, if_neg h8, if_neg h9, if_neg h10, if_neg h11])
def eyeF (b l h : Int) : Int := if l = 0 then (if h = 0 then 1 else 0) else (if h = 0 then w32 (1 - b) else 3)
def strF (b l h : Int) : Int := if h = 0 then 1 else (if l = 0 then w32 (2 - b) else 3)
def lkF (k : Int) : Int := if k < 2 then 0 else 1
def hpF (k : Int) : Int := if o_rem k 2 = 1 then 1 else 0
def rst (b k : Int) : Int := if eyeF b (lkF k) (hpF k) < eyeF b (1 - lkF k) (hpF k) then 0 else if strF b (lkF k) (hpF k) < strF b (lkF k) (1 - hpF k) then 0 else 1
section
variable (d : Nat) (P : Int → MM → Prop) (G : MG) (c : MC)
theorem q_X1_ofEye (b l h : Int) : EvI (d + 1) mX1_ofEye [mI b, mI l, mI h] (G, c) P = P (eyeF b l h) (G, c) := evI_eq (ev_X1_ofEye d _ G c b l h (by unfold eyeF; grind)) P
theorem q_X1_ofStreet (b l h : Int) : EvI (d + 1) mX1_ofStreet [mI b, mI l, mI h] (G, c) P = P (strF b l h) (G, c) := evI_eq (ev_X1_ofStreet d _ G c b l h (by unfold strF; grind)) P
theorem q_X12_eye (b l h : Int) : EvI (d + 1) mX12_eye [mI b, mI l, mI h] (G, c) P = P (eyeF b l h) (G, c) := evI_eq (ev_X12_eye d _ G c b l h (by unfold eyeF; grind)) P
theorem q_X12_street (b l h : Int) : EvI (d + 1) mX12_street [mI b, mI l, mI h] (G, c) P = P (strF b l h) (G, c) := evI_eq (ev_X12_street d _ G c b l h (by unfold strF; grind)) P
theorem q_X1_isLook (k : Int) : EvI (d + 1) mX1_isLook [mI k] (G, c) P = P (lkF k) (G, c) := evI_eq (ev_X1_isLook d _ G c k (by unfold lkF; grind)) P
theorem q_X1_isHope (k : Int) : EvI (d + 1) mX1_isHope [mI k] (G, c) P = P (hpF k) (G, c) := evI_eq (ev_X1_isHope d _ G c k (by unfold hpF; grind)) P
theorem q_X1_isRest (b k : Int) : EvI (d + 2) mX1_isRest [mI b, mI k] (G, c) P = P (rst b k) (G, c) := evI_eq (ev_X1_isRest (d + 1) _ G c b k (by
  simp only [q_X1_isLook, q_X1_isHope, q_X1_ofEye, q_X1_ofStreet]
  have hl : lkF k = 0 ∨ lkF k = 1 := by unfold lkF; split <;> simp
  have hh : hpF k = 0 ∨ hpF k = 1 := by unfold hpF; split <;> simp
  unfold rst
  rcases hl with hl | hl <;> rcases hh with hh | hh <;> rw [hl, hh] <;> simp only [↓reduceIte, Int.reduceSub, Int.reduceEq] <;> grind)) P
theorem q_X12_isRest (b k : Int) : EvI (d + 2) mX12_isRest [mI b, mI k] (G, c) P = P (rst b k) (G, c) := evI_eq (ev_X12_isRest (d + 1) _ G c b k (by
  have key : ∀ l, l = lkF k → At (d + 2) mX12_isRest 10 [mI b, mI k, MU, MU] [mI l] (G, c) (QI fun x ν' => x = rst b k ∧ ν' = (G, c)) := by
    intro l hl
    apply wp_X12_isRest_10
    refine ⟨by omega, ?_⟩
    have key2 : ∀ h, h = hpF k → At (d + 2) mX12_isRest 23 [mI b, MU, mI l, MU] [mI h] (G, c) (QI fun x ν' => x = rst b k ∧ ν' = (G, c)) := by
      intro h hh
      apply wp_X12_isRest_23
      have key3 : ∀ l', l' = 1 - lkF k → At (d + 2) mX12_isRest 34 [mI b, MU, mI l, mI h] [mI l', mI b] (G, c) (QI fun x ν' => x = rst b k ∧ ν' = (G, c)) := by
        intro l' hl'
        apply wp_X12_isRest_34
        simp only [q_X12_eye, q_X12_street]
        have h0 : hpF k = 0 ∨ hpF k = 1 := by unfold hpF; split <;> simp
        unfold rst
        rw [hl, hh, hl']
        rcases h0 with h0 | h0 <;> rw [h0] <;> simp only [↓reduceIte, Int.reduceSub, Int.reduceEq] <;> grind
      have h0 : lkF k = 0 ∨ lkF k = 1 := by unfold lkF; split <;> simp
      split
      · exact key3 1 (by omega)
      · exact key3 0 (by omega)
    split
    · rename_i h; exact key2 1 (by unfold hpF; rw [if_pos h])
    · rename_i h; exact key2 0 (by unfold hpF; rw [if_neg h])
  split
  · exact key 1 (by unfold lkF; rw [if_neg (by omega)])
  · exact key 0 (by unfold lkF; rw [if_pos (by omega)]))) P
theorem q_mrefusesBlue (T : Int) (M : MDs G c T) (b : Int) : EvI (d + 2) mX12_refusesBlue [mR 18 62, mI b] (G, c) P = P (if 0 ≤ b ∧ b ≤ 9 then 0 else 2) (G, c) := evI_eq (ev_X12_refusesBlue (d + 1) _ G c 62 b (by decide) (by have hT := M.T; simp only [q_min, M.p3]; grind)) P
theorem q_nrefusesBlue (N : c 62 3 = -1) (b : Int) : EvI (d + 2) mX12_refusesBlue [mR 18 62, mI b] (G, c) P = P 1 (G, c) := evI_eq (ev_X12_refusesBlue (d + 1) _ G c 62 b (by decide) (by rw [N]; simp)) P
theorem l_crests (b : Int) (K : Int → Prop) (hK : ∀ s, K s → P s (G, up c 0 6 0)) : ∀ (j : Nat) (i : Int) (s : Int), 0 ≤ i → i + j = 4 → K (fo (fun k s => if rst b k = 0 then w32 (s + 0) else w32 (s + 1)) j i s) → At (d + 3) mX10_rests 30 [mR 16 0, mI b, mI s, mI i] [] (G, c) (QI P) := by
  skip
  intro j
  induction j with
  | zero =>
    intro i s h0 hi hP
    apply wp_X10_rests_30
    try simp only [q_X1_isRest, q_fine]
    (repeat (refine And.intro (by first | omega | (simp only [true_and, and_true, and_self]; omega) | (simp only [true_and, and_true, and_self])) ?_))
    rw [if_neg (by omega)]
    skip
    exact hK _ hP
  | succ j ih =>
    intro i s h0 hi hP
    have wi : w32 (i + 1) = i + 1 := w32i (by omega) (by omega)
    apply wp_X10_rests_30
    simp only [q_X1_isRest, q_fine, wi]
    (repeat (refine And.intro (by first | omega | (simp only [true_and, and_true, and_self]; omega) | (simp only [true_and, and_true, and_self])) ?_))
    rw [if_pos (by omega)]
    simp only [fo] at hP
    skip
    (repeat' (first | (refine And.intro (by omega) ?_) | (split <;> rename_i hc <;> (first | rw [if_pos hc] at hP | rw [if_neg hc] at hP))))
    all_goals exact ih _ _ (by omega) (by omega) hP
theorem l_mrests (b : Int) (K : Int → Prop) (hK : ∀ s, K s → P s (G, mtr c 0)) : ∀ (j : Nat) (i : Int) (s : Int), 0 ≤ i → i + j = 4 → K (fo (fun k s => if rst b k = 0 then w32 (s + 0) else w32 (s + 1)) j i s) → At (d + 3) mX12_rests 26 [mR 18 62, mI b, MU, mI s, mI i] [] (G, c) (QI P) := by
  skip
  intro j
  induction j with
  | zero =>
    intro i s h0 hi hP
    apply wp_X12_rests_26
    try simp only [q_X12_isRest, q_mgood]
    (repeat (refine And.intro (by first | omega | (simp only [true_and, and_true, and_self]; omega) | (simp only [true_and, and_true, and_self])) ?_))
    rw [if_neg (by omega)]
    skip
    exact hK _ hP
  | succ j ih =>
    intro i s h0 hi hP
    have wi : w32 (i + 1) = i + 1 := w32i (by omega) (by omega)
    apply wp_X12_rests_26
    simp only [q_X12_isRest, q_mgood, wi]
    (repeat (refine And.intro (by first | omega | (simp only [true_and, and_true, and_self]; omega) | (simp only [true_and, and_true, and_self])) ?_))
    rw [if_pos (by omega)]
    simp only [fo] at hP
    skip
    (repeat' (first | (refine And.intro (by omega) ?_) | (split <;> rename_i hc <;> (first | rw [if_pos hc] at hP | rw [if_neg hc] at hP))))
    all_goals exact ih _ _ (by omega) (by omega) hP
def rsv (k : Int) : Int := w32 (w32 (10 * o_div k 2) + o_rem k 2)
theorem rsv_eq : ∀ k : Nat, k < 4 → rsv k = (if lkF k = 0 then 0 else 10) + (if hpF k = 0 then 0 else 1) := by decide +kernel
theorem l_crest (b : Int) (K : Int → Prop) (hK : ∀ v, K v → P v (G, up c 0 6 0)) : ∀ (j : Nat) (i : Int), 0 ≤ i → i + j = 4 → K (fi (fun k => decide (rst b k ≠ 0)) rsv (-2) j i) → At (d + 3) mX10_rest 28 [mR 16 0, mI b, mI i] [] (G, c) (QI P) := by
  intro j
  induction j with
  | zero => intro i h0 hi hP; apply wp_X10_rest_28; rw [if_neg (by omega)]; simp only [q_fine]; exact hK _ hP
  | succ j ih =>
    intro i h0 hi hP
    have wi : w32 (i + 1) = i + 1 := w32i (by omega) (by omega)
    apply wp_X10_rest_28
    rw [if_pos (by omega)]
    simp only [q_X1_isRest, q_X1_isLook, q_X1_isHope, q_fine, wi]
    simp only [fi] at hP
    by_cases hr : rst b i = 0
    · rw [if_pos hr]
      rw [if_neg (by simpa using hr)] at hP
      exact ih _ (by omega) (by omega) hP
    · rw [if_neg hr]
      rw [if_pos (by simpa using hr)] at hP
      have hv := hK _ hP
      obtain ⟨k, rfl⟩ := Int.eq_ofNat_of_zero_le h0
      rw [rsv_eq k (by omega)] at hv
      have w0 : w32 (0 + 0) = 0 := by decide
      have w1 : w32 (0 + 1) = 1 := by decide
      have w10 : w32 (10 + 0) = 10 := by decide
      have w11 : w32 (10 + 1) = 11 := by decide
      rw [w0, w1, w10, w11]
      by_cases hl : lkF k = 0
      · rw [if_pos hl] at hv ⊢
        by_cases hh : hpF k = 0
        · rw [if_pos hh] at hv ⊢; exact hv
        · rw [if_neg hh] at hv ⊢; exact hv
      · rw [if_neg hl] at hv ⊢
        by_cases hh : hpF k = 0
        · rw [if_pos hh] at hv ⊢; exact hv
        · rw [if_neg hh] at hv ⊢; exact hv
theorem l_mrest (b : Int) (K : Int → Prop) (hK : ∀ v, K v → P v (G, mtr c 0)) : ∀ (j : Nat) (i : Int), 0 ≤ i → i + j = 4 → K (fi (fun k => decide (rst b k ≠ 0)) rsv (-2) j i) → At (d + 3) mX12_rest 23 [mR 18 62, mI b, MU, mI i] [] (G, c) (QI P) := by
  intro j
  induction j with
  | zero => intro i h0 hi hP; apply wp_X12_rest_23; rw [if_neg (by omega)]; simp only [q_mgood]; exact hK _ hP
  | succ j ih =>
    intro i h0 hi hP
    have wi : w32 (i + 1) = i + 1 := w32i (by omega) (by omega)
    apply wp_X12_rest_23
    rw [if_pos (by omega)]
    simp only [q_X12_isRest, q_mgood, wi]
    simp only [fi] at hP
    by_cases hr : rst b i = 0
    · rw [if_pos hr]
      rw [if_neg (by simpa using hr)] at hP
      exact ih _ (by omega) (by omega) hP
    · rw [if_neg hr]
      rw [if_pos (by simpa using hr)] at hP
      exact ⟨by omega, by omega, hK _ hP⟩
end
theorem k_looks (d : Nat) (G : MG) (c : MC) (a l h o : Int) (H : IV G c) : EvI (d + 40) mX10_looks [mR 16 0, mI a, mI l, mI h, mI o] (G, c) (fun r1 ν1 => EvI (d + 40) mX12_looks [mR 18 62, mI a, mI l, mI h, mI o] (ν1.1, ν1.2) (fun r2 ν2 => K2 G r1 r2 ν2)) := by
  obtain ⟨hr, t, z, S, V⟩ := H
  have H0 : IV0 G c := ⟨t, z, S, V⟩
  rcases V with V | ⟨T, n, m, u, q, w, x, s, ka, ki, g, V⟩
  · have I := S.ciN V
    have e1 := V.e1; have e3 := V.e3; have e4 := V.e4; have N := V.T
    have N1 : ∀ wy, up (up c 0 6 wy) 62 0 0 62 3 = -1 := fun wy => by rw [up_nj (by decide), up_na (by decide)]; exact N
    refine ev_X10_looks (d + 39) _ G c 0 a l h o (by decide) ?_
    simp only [z_isTube _ _ _ _ t I e1, z_isPerson _ _ _ _ t I _ e3, z_isSlot _ _ _ _ t I _ e1, z_isTurn _ _ _ _ t I _ e4, z_areTwo _ _ _ _ t I _ _ e3, z_isPlace _ _ _ _ t I _ e1, ↓reduceIte, q_refused]
    refine ev_X12_looks (d + 39) _ G _ 62 a l h o (by decide) ⟨by decide, ?_⟩
    rintro _ rfl
    simp only [q_nrefusesBlue _ _ _ _ (N1 _), q_mlost, q_nisSlot _ _ _ _ (N1 _), q_nisPerson _ _ _ _ (N1 _), q_nisTurn _ _ _ _ (N1 _), q_nareTwo _ _ _ _ (N1 _), q_nisPlace _ _ _ _ (N1 _), N1, ↓reduceIte, q_mrefused, Int.reduceNeg, Int.reduceLT, Int.reduceLE, true_and]
    exact ⟨rfl, rfl, IV.q H0 (by decide) (agr_0 _)⟩
  · have I := S.ciT V
    have M := V.M; have hT := M.T; have ht := V.t
    have v1 := V.v1; have v3 := V.v3; have v4 := V.v4; have e0 := V.e0; have e1 := V.e1; have e3 := V.e3; have e4 := V.e4; have e5 := V.e5
    have b0 := M.b0; have b1 := M.b1; have b3 := M.b3; have b4 := M.b4
    rw [v1] at b1; rw [v3] at b3; rw [v4] at b4
    have hnp : 0 < n := by omega
    have hTn : ¬ T < 0 := by omega
    have M1 : ∀ wy, MDs G (up (up c 0 6 wy) 62 0 0) T := fun wy => (M.ki ki_up7).agr (agr_0 _)
    have r64 : ∀ wy, up (up c 0 6 wy) 62 0 0 64 = c 64 := fun wy => by funext j; rw [up_na (by decide), up_na (by decide)]
    have rT : ∀ wy k, up (up c 0 6 wy) 62 0 0 T k = c T k := fun wy k => by rw [up_na (by omega), up_na (by omega)]
    have rTT : ∀ wy (a : Int), 0 ≤ a → up (up c 0 6 wy) 62 0 0 (T + a) = c (T + a) := fun wy a ha => by funext j; rw [up_na (by omega), up_na (by omega)]
    have rS : ∀ wy a b, sld (up (up c 0 6 wy) 62 0 0) T a b = sld c T a b := fun wy a b => sld_eq (fun a j q => by rw [up_na (by omega), up_na (by omega)]) hT
    have hS : ∀ a b, 0 ≤ a → a < u → 0 ≤ b → b < n → sld c T a b = dg (g a) b := fun a b h1 h2 h3 h4 => by unfold sld; rw [v4, if_pos h2]; exact V.tk a b h1 h2 h3 h4
    have V1 : ∀ wy, TV G (up (up c 0 6 wy) 62 0 0) t T n m u q w x s ka ki g := fun wy => (V.kp ki_up7).kp (ki_agr (agr_0 _))
    skip
    refine ev_X10_looks (d + 39) _ G c 0 a l h o (by decide) ?_
    simp only [q_isBlue, q_isTube _ _ _ _ t I, q_isPerson _ _ _ _ t I, q_isSlot _ _ _ _ t I, q_isTurn _ _ _ _ t I, q_areTwo _ _ _ _ t I, q_isPlace _ _ _ _ t I, e0, e1, e3, e4, hnp, ↓reduceIte]
    by_cases h1 : 0 ≤ a ∧ a ≤ 9
    · simp only [h1, and_self, ↓reduceIte, q_X1_ofEye, q_X1_ofStreet, q_fine]
      by_cases ho : o = 0
      · rw [if_pos ho]
        refine ev_X12_looks (d + 39) _ G _ 62 a l h o (by decide) ⟨by decide, ?_⟩
        rintro _ rfl
        simp only [q_misSlot _ _ _ _ T (M1 _), q_misPerson _ _ _ _ T (M1 _), q_misTurn _ _ _ _ T (M1 _), q_mareTwo _ _ _ _ T (M1 _), q_misPlace _ _ _ _ T (M1 _), (M1 _).p3, hTn, rT, v1, v3, v4, ↓reduceIte, Int.reduceLE, true_and, q_mrefusesBlue _ _ _ _ T (M1 _), h1, and_self, ↓reduceIte, Int.reduceLT, q_X12_eye, q_X12_street, q_mgood, ho]
        exact ⟨rfl, rfl, IV.q H0 (by decide) (agr_0 _)⟩
      · rw [if_neg ho]
        refine ev_X12_looks (d + 39) _ G _ 62 a l h o (by decide) ⟨by decide, ?_⟩
        rintro _ rfl
        simp only [q_misSlot _ _ _ _ T (M1 _), q_misPerson _ _ _ _ T (M1 _), q_misTurn _ _ _ _ T (M1 _), q_mareTwo _ _ _ _ T (M1 _), q_misPlace _ _ _ _ T (M1 _), (M1 _).p3, hTn, rT, v1, v3, v4, ↓reduceIte, Int.reduceLE, true_and, q_mrefusesBlue _ _ _ _ T (M1 _), h1, and_self, ↓reduceIte, Int.reduceLT, q_X12_eye, q_X12_street, q_mgood, ho]
        exact ⟨rfl, rfl, IV.q H0 (by decide) (agr_0 _)⟩
    · simp only [h1, q_isBlue, and_self, ↓reduceIte, q_refused]
      refine ev_X12_looks (d + 39) _ G _ 62 a l h o (by decide) ⟨by decide, ?_⟩
      rintro _ rfl
      simp only [q_mrefusesBlue _ _ _ _ T (M1 _), q_mlost, Int.reduceLT, q_misSlot _ _ _ _ T (M1 _), q_misPerson _ _ _ _ T (M1 _), q_misTurn _ _ _ _ T (M1 _), q_mareTwo _ _ _ _ T (M1 _), q_misPlace _ _ _ _ T (M1 _), (M1 _).p3, hTn, rT, v1, v3, v4, ↓reduceIte, Int.reduceLE, true_and, h1, and_self, ↓reduceIte, q_mrefused]
      exact ⟨rfl, rfl, IV.q H0 (by decide) (agr_0 _)⟩
theorem k_rests (d : Nat) (G : MG) (c : MC) (a : Int) (H : IV G c) : EvI (d + 40) mX10_rests [mR 16 0, mI a] (G, c) (fun r1 ν1 => EvI (d + 40) mX12_rests [mR 18 62, mI a] (ν1.1, ν1.2) (fun r2 ν2 => K2 G r1 r2 ν2)) := by
  obtain ⟨hr, t, z, S, V⟩ := H
  have H0 : IV0 G c := ⟨t, z, S, V⟩
  rcases V with V | ⟨T, n, m, u, q, w, x, s, ka, ki, g, V⟩
  · have I := S.ciN V
    have e1 := V.e1; have e3 := V.e3; have e4 := V.e4; have N := V.T
    have N1 : ∀ wy, up (up c 0 6 wy) 62 0 0 62 3 = -1 := fun wy => by rw [up_nj (by decide), up_na (by decide)]; exact N
    refine ev_X10_rests (d + 39) _ G c 0 a (by decide) ?_
    simp only [z_isTube _ _ _ _ t I e1, z_isPerson _ _ _ _ t I _ e3, z_isSlot _ _ _ _ t I _ e1, z_isTurn _ _ _ _ t I _ e4, z_areTwo _ _ _ _ t I _ _ e3, z_isPlace _ _ _ _ t I _ e1, ↓reduceIte, q_refused]
    refine ev_X12_rests (d + 39) _ G _ 62 a (by decide) ⟨by decide, ?_⟩
    rintro _ rfl
    simp only [q_nrefusesBlue _ _ _ _ (N1 _), q_nisSlot _ _ _ _ (N1 _), q_nisPerson _ _ _ _ (N1 _), q_nisTurn _ _ _ _ (N1 _), q_nareTwo _ _ _ _ (N1 _), q_nisPlace _ _ _ _ (N1 _), N1, ↓reduceIte, q_mrefused, Int.reduceNeg, Int.reduceLT, Int.reduceLE, true_and]
    exact ⟨rfl, rfl, IV.q H0 (by decide) (agr_0 _)⟩
  · have I := S.ciT V
    have M := V.M; have hT := M.T; have ht := V.t
    have v1 := V.v1; have v3 := V.v3; have v4 := V.v4; have e0 := V.e0; have e1 := V.e1; have e3 := V.e3; have e4 := V.e4; have e5 := V.e5
    have b0 := M.b0; have b1 := M.b1; have b3 := M.b3; have b4 := M.b4
    rw [v1] at b1; rw [v3] at b3; rw [v4] at b4
    have hnp : 0 < n := by omega
    have hTn : ¬ T < 0 := by omega
    have M1 : ∀ wy, MDs G (up (up c 0 6 wy) 62 0 0) T := fun wy => (M.ki ki_up7).agr (agr_0 _)
    have r64 : ∀ wy, up (up c 0 6 wy) 62 0 0 64 = c 64 := fun wy => by funext j; rw [up_na (by decide), up_na (by decide)]
    have rT : ∀ wy k, up (up c 0 6 wy) 62 0 0 T k = c T k := fun wy k => by rw [up_na (by omega), up_na (by omega)]
    have rTT : ∀ wy (a : Int), 0 ≤ a → up (up c 0 6 wy) 62 0 0 (T + a) = c (T + a) := fun wy a ha => by funext j; rw [up_na (by omega), up_na (by omega)]
    have rS : ∀ wy a b, sld (up (up c 0 6 wy) 62 0 0) T a b = sld c T a b := fun wy a b => sld_eq (fun a j q => by rw [up_na (by omega), up_na (by omega)]) hT
    have hS : ∀ a b, 0 ≤ a → a < u → 0 ≤ b → b < n → sld c T a b = dg (g a) b := fun a b h1 h2 h3 h4 => by unfold sld; rw [v4, if_pos h2]; exact V.tk a b h1 h2 h3 h4
    have V1 : ∀ wy, TV G (up (up c 0 6 wy) 62 0 0) t T n m u q w x s ka ki g := fun wy => (V.kp ki_up7).kp (ki_agr (agr_0 _))
    skip
    refine ev_X10_rests (d + 39) _ G c 0 a (by decide) ?_
    simp only [q_isBlue, q_isTube _ _ _ _ t I, q_isPerson _ _ _ _ t I, q_isSlot _ _ _ _ t I, q_isTurn _ _ _ _ t I, q_areTwo _ _ _ _ t I, q_isPlace _ _ _ _ t I, e0, e1, e3, e4, hnp, ↓reduceIte]
    by_cases h1 : 0 ≤ a ∧ a ≤ 9
    · simp only [h1, and_self, ↓reduceIte]
      refine l_crests (d + 37) _ G c a (fun s => s = fo (fun k s => if rst a k = 0 then w32 (s + 0) else w32 (s + 1)) 4 0 0) (fun s hs => ?_) 4 0 0 (by omega) (by omega) rfl
      refine ev_X12_rests (d + 39) _ G _ 62 a (by decide) ⟨by decide, ?_⟩
      rintro _ rfl
      simp only [q_misSlot _ _ _ _ T (M1 _), q_misPerson _ _ _ _ T (M1 _), q_misTurn _ _ _ _ T (M1 _), q_mareTwo _ _ _ _ T (M1 _), q_misPlace _ _ _ _ T (M1 _), (M1 _).p3, hTn, rT, v1, v3, v4, ↓reduceIte, Int.reduceLE, true_and, q_mrefusesBlue _ _ _ _ T (M1 _), h1, and_self, ↓reduceIte, Int.reduceLT]
      refine l_mrests (d + 37) _ G _ a (fun s => s = fo (fun k s => if rst a k = 0 then w32 (s + 0) else w32 (s + 1)) 4 0 0) (fun r hr' => ?_) 4 0 0 (by omega) (by omega) rfl
      exact ⟨hs.trans hr'.symm, rfl, IV.q H0 (by decide) (agr_0 _)⟩
    · simp only [h1, q_isBlue, and_self, ↓reduceIte, q_refused]
      refine ev_X12_rests (d + 39) _ G _ 62 a (by decide) ⟨by decide, ?_⟩
      rintro _ rfl
      simp only [q_mrefusesBlue _ _ _ _ T (M1 _), Int.reduceLT, q_misSlot _ _ _ _ T (M1 _), q_misPerson _ _ _ _ T (M1 _), q_misTurn _ _ _ _ T (M1 _), q_mareTwo _ _ _ _ T (M1 _), q_misPlace _ _ _ _ T (M1 _), (M1 _).p3, hTn, rT, v1, v3, v4, ↓reduceIte, Int.reduceLE, true_and, h1, and_self, ↓reduceIte, q_mrefused]
      exact ⟨rfl, rfl, IV.q H0 (by decide) (agr_0 _)⟩
theorem k_rest (d : Nat) (G : MG) (c : MC) (a : Int) (H : IV G c) : EvI (d + 40) mX10_rest [mR 16 0, mI a] (G, c) (fun r1 ν1 => EvI (d + 40) mX12_rest [mR 18 62, mI a] (ν1.1, ν1.2) (fun r2 ν2 => K2 G r1 r2 ν2)) := by
  obtain ⟨hr, t, z, S, V⟩ := H
  have H0 : IV0 G c := ⟨t, z, S, V⟩
  rcases V with V | ⟨T, n, m, u, q, w, x, s, ka, ki, g, V⟩
  · have I := S.ciN V
    have e1 := V.e1; have e3 := V.e3; have e4 := V.e4; have N := V.T
    have N1 : ∀ wy, up (up c 0 6 wy) 62 0 0 62 3 = -1 := fun wy => by rw [up_nj (by decide), up_na (by decide)]; exact N
    refine ev_X10_rest (d + 39) _ G c 0 a (by decide) ?_
    simp only [z_isTube _ _ _ _ t I e1, z_isPerson _ _ _ _ t I _ e3, z_isSlot _ _ _ _ t I _ e1, z_isTurn _ _ _ _ t I _ e4, z_areTwo _ _ _ _ t I _ _ e3, z_isPlace _ _ _ _ t I _ e1, ↓reduceIte, q_refused]
    refine ev_X12_rest (d + 39) _ G _ 62 a (by decide) ⟨by decide, ?_⟩
    rintro _ rfl
    simp only [q_nrefusesBlue _ _ _ _ (N1 _), q_nisSlot _ _ _ _ (N1 _), q_nisPerson _ _ _ _ (N1 _), q_nisTurn _ _ _ _ (N1 _), q_nareTwo _ _ _ _ (N1 _), q_nisPlace _ _ _ _ (N1 _), N1, ↓reduceIte, q_mrefused, Int.reduceNeg, Int.reduceLT, Int.reduceLE, true_and]
    exact ⟨rfl, rfl, IV.q H0 (by decide) (agr_0 _)⟩
  · have I := S.ciT V
    have M := V.M; have hT := M.T; have ht := V.t
    have v1 := V.v1; have v3 := V.v3; have v4 := V.v4; have e0 := V.e0; have e1 := V.e1; have e3 := V.e3; have e4 := V.e4; have e5 := V.e5
    have b0 := M.b0; have b1 := M.b1; have b3 := M.b3; have b4 := M.b4
    rw [v1] at b1; rw [v3] at b3; rw [v4] at b4
    have hnp : 0 < n := by omega
    have hTn : ¬ T < 0 := by omega
    have M1 : ∀ wy, MDs G (up (up c 0 6 wy) 62 0 0) T := fun wy => (M.ki ki_up7).agr (agr_0 _)
    have r64 : ∀ wy, up (up c 0 6 wy) 62 0 0 64 = c 64 := fun wy => by funext j; rw [up_na (by decide), up_na (by decide)]
    have rT : ∀ wy k, up (up c 0 6 wy) 62 0 0 T k = c T k := fun wy k => by rw [up_na (by omega), up_na (by omega)]
    have rTT : ∀ wy (a : Int), 0 ≤ a → up (up c 0 6 wy) 62 0 0 (T + a) = c (T + a) := fun wy a ha => by funext j; rw [up_na (by omega), up_na (by omega)]
    have rS : ∀ wy a b, sld (up (up c 0 6 wy) 62 0 0) T a b = sld c T a b := fun wy a b => sld_eq (fun a j q => by rw [up_na (by omega), up_na (by omega)]) hT
    have hS : ∀ a b, 0 ≤ a → a < u → 0 ≤ b → b < n → sld c T a b = dg (g a) b := fun a b h1 h2 h3 h4 => by unfold sld; rw [v4, if_pos h2]; exact V.tk a b h1 h2 h3 h4
    have V1 : ∀ wy, TV G (up (up c 0 6 wy) 62 0 0) t T n m u q w x s ka ki g := fun wy => (V.kp ki_up7).kp (ki_agr (agr_0 _))
    skip
    refine ev_X10_rest (d + 39) _ G c 0 a (by decide) ?_
    simp only [q_isBlue, q_isTube _ _ _ _ t I, q_isPerson _ _ _ _ t I, q_isSlot _ _ _ _ t I, q_isTurn _ _ _ _ t I, q_areTwo _ _ _ _ t I, q_isPlace _ _ _ _ t I, e0, e1, e3, e4, hnp, ↓reduceIte]
    by_cases h1 : 0 ≤ a ∧ a ≤ 9
    · simp only [h1, and_self, ↓reduceIte]
      refine l_crest (d + 37) _ G c a (fun s => s = fi (fun k => decide (rst a k ≠ 0)) rsv (-2) 4 0) (fun s hs => ?_) 4 0 (by omega) (by omega) rfl
      refine ev_X12_rest (d + 39) _ G _ 62 a (by decide) ⟨by decide, ?_⟩
      rintro _ rfl
      simp only [q_misSlot _ _ _ _ T (M1 _), q_misPerson _ _ _ _ T (M1 _), q_misTurn _ _ _ _ T (M1 _), q_mareTwo _ _ _ _ T (M1 _), q_misPlace _ _ _ _ T (M1 _), (M1 _).p3, hTn, rT, v1, v3, v4, ↓reduceIte, Int.reduceLE, true_and, q_mrefusesBlue _ _ _ _ T (M1 _), h1, and_self, ↓reduceIte, Int.reduceLT]
      refine l_mrest (d + 37) _ G _ a (fun s => s = fi (fun k => decide (rst a k ≠ 0)) rsv (-2) 4 0) (fun r hr' => ?_) 4 0 (by omega) (by omega) rfl
      exact ⟨hs.trans hr'.symm, rfl, IV.q H0 (by decide) (agr_0 _)⟩
    · simp only [h1, q_isBlue, and_self, ↓reduceIte, q_refused]
      refine ev_X12_rest (d + 39) _ G _ 62 a (by decide) ⟨by decide, ?_⟩
      rintro _ rfl
      simp only [q_mrefusesBlue _ _ _ _ T (M1 _), Int.reduceLT, q_misSlot _ _ _ _ T (M1 _), q_misPerson _ _ _ _ T (M1 _), q_misTurn _ _ _ _ T (M1 _), q_mareTwo _ _ _ _ T (M1 _), q_misPlace _ _ _ _ T (M1 _), (M1 _).p3, hTn, rT, v1, v3, v4, ↓reduceIte, Int.reduceLE, true_and, h1, and_self, ↓reduceIte, q_mrefused]
      exact ⟨rfl, rfl, IV.q H0 (by decide) (agr_0 _)⟩
