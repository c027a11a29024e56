/-! the class reads all lines -/
section
variable (d : Nat) (P : Int → MM → Prop) (P0 : MM → Prop) {G : MG} {c0 c R : MC} {b e p : Int} {tx : Int → Int}
theorem px_rg (W : WF R) (h : pqF tx e p R = 0) : (0 ≤ pxF tx e p R ∧ pxF tx e p R < R 0 3) ∧ isn tx e p ∧ nmI R (va tx e p) ≠ -1 ∧ R 22 (nmI R (va tx e p)) ≠ -1 := by
  have hn := W.n; have hp := W.p; have ht := W.t
  unfold pqF at h
  by_cases hi : isn tx e p
  · rw [if_pos hi] at h
    by_cases hm : nmI R (va tx e p) = -1
    · rw [if_pos hm] at h; omega
    · rw [if_neg hm] at h
      by_cases hh : R 22 (nmI R (va tx e p)) = -1
      · rw [if_pos hh] at h; omega
      · obtain ⟨n0, n1, n2⟩ := nmI_rg (by omega) _ hm
        have := W.nd _ n0 n1
        exact ⟨by unfold pxF; omega, hi, hm, hh⟩
  · rw [if_neg hi] at h; omega
theorem srt_rg : srtF tx e p = -1 ∨ srtF tx e p = 0 ∨ srtF tx e p = 1 ∨ srtF tx e p = 2 ∨ srtF tx e p = 3 ∨ srtF tx e p = 4 ∨ srtF tx e p = 5 ∨ srtF tx e p = 6 ∨ srtF tx e p = 7 := by
  unfold srtF lnK
  repeat' split
  all_goals omega
theorem wf_rest (W : WF R) (s : Int) (hs : s = 0 ∨ s = 1 ∨ s = 2 ∨ s = 3 ∨ s = 4 ∨ s = 5 ∨ s = 6 ∨ s = 7) (h0 : ¬ (s = 0 ∧ 0 < R 0 1)) (h1 : ¬ (s ≠ 0 ∧ R 0 1 = 0)) (hf : ¬ ful R s) (hp : p ≤ e) (p' : Int) (R' : MC) (h : restF tx e s p R = Sum.inr (p', R')) : WF R' ∧ p ≤ p' ∧ p' ≤ e := by
  have a := W.a
  have n1 := nx_rg (tx := tx) hp
  have n2 := nx_rg (tx := tx) n1.2
  have n3 := nx_rg (tx := tx) n2.2
  have n4 := nx_rg (tx := tx) n3.2
  have n5 := nx_rg (tx := tx) n4.2
  have n6 := nx_rg (tx := tx) n5.2
  unfold restF at h
  rcases hs with rfl | rfl | rfl | rfl | rfl | rfl | rfl | rfl
  · simp only [↓reduceIte] at h
    unfold tubeF at h
    repeat' split at h
    all_goals first | (cases h; done) | skip
    rename_i q1 q2 q3 q4 q5 q6
    simp only [Sum.inr.injEq, Prod.mk.injEq] at h
    obtain ⟨rfl, rfl⟩ := h
    exact ⟨wf_tube W (by omega) (btw_0 q2).2 (btw_0 q4).2 (btw_0 q6).2, by omega, by omega⟩
  · simp only [Int.reduceEq, ↓reduceIte] at h
    unfold persF at h
    repeat' split at h
    all_goals first | (cases h; done) | skip
    rename_i q1 q2 q3 q4 q5
    simp only [Sum.inr.injEq, Prod.mk.injEq] at h
    obtain ⟨rfl, rfl⟩ := h
    exact ⟨wf_pers W (by omega) (by omega) (btw_0 q4).2, by omega, by omega⟩
  · simp only [Int.reduceEq, ↓reduceIte] at h
    unfold turnF at h
    split at h
    · have := sls_ok (tx := tx) (e := e) (R := nmU R (va tx e p) (-1)) (n := R 0 1) (by omega) (by omega) (R 0 1).toNat 0 (nx tx e p) 0 0 (by decide) (by omega) n1.2 (TF.z _) p' R' h
      obtain ⟨q1, ch, q2, rfl⟩ := this
      rw [nmU_o (show (0 : Int) ≤ 17 by decide)]
      exact ⟨wf_turn W (by omega) (by omega) q2, by omega, by omega⟩
    · cases h
  · simp only [Int.reduceEq, ↓reduceIte] at h
    unfold quarF at h
    repeat' split at h
    all_goals first | (cases h; done) | skip
    rename_i q1 q2 q3 q4
    simp only [Sum.inr.injEq, Prod.mk.injEq] at h
    obtain ⟨rfl, rfl⟩ := h
    exact ⟨wf_quar W (by omega) (by omega) (px_rg W q1).1 (px_rg W q2).1 q3 q4, by omega, by omega⟩
  · simp only [Int.reduceEq, ↓reduceIte] at h
    unfold wishF at h
    repeat' split at h
    all_goals first | (cases h; done) | skip
    rename_i q1 q2 q3
    simp only [Sum.inr.injEq, Prod.mk.injEq] at h
    obtain ⟨rfl, rfl⟩ := h
    exact ⟨wf_wish W (by omega) (by omega) (px_rg W q1).1 (px_rg W q2).1, by omega, by omega⟩
  · simp only [Int.reduceEq, ↓reduceIte] at h
    unfold wishF at h
    repeat' split at h
    all_goals first | (cases h; done) | skip
    rename_i q1 q2 q3
    simp only [Sum.inr.injEq, Prod.mk.injEq] at h
    obtain ⟨rfl, rfl⟩ := h
    exact ⟨wf_wish W (by omega) (by omega) (px_rg W q1).1 (px_rg W q2).1, by omega, by omega⟩
  · simp only [Int.reduceEq, ↓reduceIte] at h
    unfold unsF at h
    repeat' split at h
    all_goals first | (cases h; done) | skip
    rename_i q1 q2 q3
    simp only [Sum.inr.injEq, Prod.mk.injEq] at h
    obtain ⟨rfl, rfl⟩ := h
    exact ⟨wf_uns W (by omega) (by omega) (px_rg W q1).1 (btw_0 q3).2, by omega, by omega⟩
  · simp only [Int.reduceEq, ↓reduceIte] at h
    unfold seenF at h
    repeat' split at h
    all_goals first | (cases h; done) | skip
    · rename_i q1 q2 q3 q4
      simp only [Sum.inr.injEq, Prod.mk.injEq] at h
      obtain ⟨rfl, rfl⟩ := h
      exact ⟨wf_seen W (by omega) (by omega) (px_rg W q1).1 (px_rg W q2).1, by omega, by omega⟩
    · rename_i q1 q2 q3 q4 q5
      simp only [Sum.inr.injEq, Prod.mk.injEq] at h
      obtain ⟨rfl, rfl⟩ := h
      exact ⟨wf_seen W (by omega) (by omega) (px_rg W q1).1 (px_rg W q2).1, by omega, by omega⟩
theorem wf_line (W : WF R) (hp : p ≤ e) (p' : Int) (R' : MC) (h : lineF tx e p R = Sum.inr (p', R')) : WF R' ∧ p ≤ p' ∧ p' ≤ e := by
  unfold lineF at h
  by_cases h1 : srtF tx e p = -1
  · rw [if_pos h1] at h; cases h
  · rw [if_neg h1] at h
    by_cases h2 : srtF tx e p = 0 ∧ 0 < R 0 1
    · rw [if_pos h2] at h; cases h
    · rw [if_neg h2] at h
      by_cases h3 : srtF tx e p ≠ 0 ∧ R 0 1 = 0
      · rw [if_pos h3] at h; cases h
      · rw [if_neg h3] at h
        by_cases h4 : ful R (srtF tx e p)
        · rw [if_pos h4] at h; cases h
        · rw [if_neg h4] at h
          have n1 := nx_rg (tx := tx) hp
          have hs := srt_rg (tx := tx) (e := e) (p := p)
          have := wf_rest W (srtF tx e p) (by omega) h2 h3 h4 n1.2 p' R' h
          exact ⟨this.1, by omega, this.2.2⟩
theorem sls_nz {n : Int} : ∀ (j : Nat) (k p ch us : Int) (f pl : Int), slsF tx e n R j p k ch us = Sum.inl (f, pl) → f ≠ 0 := by
  intro j
  induction j with
  | zero => intro k p ch us f pl h; simp only [slsF] at h; cases h
  | succ j ih =>
    intro k p ch us f pl h
    simp only [slsF] at h
    split at h
    · split at h
      · cases h; decide
      · exact ih _ _ _ _ _ _ h
    · rename_i q
      cases h; exact q
theorem rest_nz {s : Int} (f pl : Int) (h : restF tx e s p R = Sum.inl (f, pl)) : f ≠ 0 := by
  unfold restF at h
  split at h
  · unfold tubeF at h
    repeat' split at h
    all_goals first | (cases h; done) | (cases h; assumption) | (cases h; decide)
  · split at h
    · unfold persF at h
      repeat' split at h
      all_goals first | (cases h; done) | (cases h; assumption) | (cases h; decide)
    · split at h
      · unfold turnF at h
        split at h
        · exact sls_nz _ _ _ _ _ _ _ h
        · cases h; assumption
      · split at h
        · unfold quarF at h
          repeat' split at h
          all_goals first | (cases h; done) | (cases h; assumption) | (cases h; decide)
        · split at h
          · unfold wishF at h
            repeat' split at h
            all_goals first | (cases h; done) | (cases h; assumption) | (cases h; decide)
          · split at h
            · unfold wishF at h
              repeat' split at h
              all_goals first | (cases h; done) | (cases h; assumption) | (cases h; decide)
            · split at h
              · unfold unsF at h
                repeat' split at h
                all_goals first | (cases h; done) | (cases h; assumption) | (cases h; decide)
              · unfold seenF at h
                repeat' split at h
                all_goals first | (cases h; done) | (cases h; assumption) | (cases h; decide)
theorem line_nz (f pl : Int) (h : lineF tx e p R = Sum.inl (f, pl)) : f ≠ 0 := by
  unfold lineF at h
  repeat' split at h
  all_goals first | (cases h; decide) | exact rest_nz _ _ h
theorem q_full (C : CS G c0 c b tx e p R) (B : BD R) (s : Int) : EvI (d + 2) mX5_isFull [mR 12 19, mI s] (G, c) P = P (if ful R s then 1 else 0) (G, c) := by
  have hb := C.1.b0
  have TL := C.tl B
  have e3 : c b 3 = R 0 3 := C.a0 (by decide) (by decide)
  have e4 : c b 4 = R 0 4 := C.a0 (by decide) (by decide)
  have e5 : c b 5 = R 0 5 := C.a0 (by decide) (by decide)
  have e6 : c (b + 6) 3 = R 6 3 := C.at (by unfold Tm; omega)
  have e10 : c (b + 10) 3 = R 10 3 := C.at (by unfold Tm; omega)
  have e14 : c (b + 14) 3 = R 14 3 := C.at (by unfold Tm; omega)
  refine evI_eq (ev_X5_isFull (d + 1) _ G c 19 s (by decide) ?_) P
  simp only [C.1.2.2.1, e3, e4, e5, TL.p11, TL.p12, TL.p13, q_isFull _ _ _ _ (b + 6) 6 TL.q, q_isFull _ _ _ _ (b + 10) 4 TL.w, q_isFull _ _ _ _ (b + 14) 5 TL.s, e6, e10, e14]
  have hb0 : 0 ≤ b := by omega
  unfold ful
  repeat' split
  all_goals (try simp only [hb0, true_and, Int.reduceLE, and_self])
  all_goals (first | omega | grind)
end
