/-! the reference reads: line by line -/
section
variable (d : Nat) (P : Int → MM → Prop) (P0 : MM → Prop) {G : MG} {c0 c R : MC} {T e p f pl : Int} {tx : Int → Int}
theorem line_0 (hs : srtF tx e p = 0) : lineF tx e p R = if 0 < R 0 1 then bad 3 p else tubeF tx e (nx tx e p) R := by
  unfold lineF
  rw [hs, if_neg (by decide)]
  by_cases h : 0 < R 0 1
  · rw [if_pos ⟨rfl, h⟩, if_pos h]
  · rw [if_neg (fun k => h k.2), if_neg (fun k => k.1 rfl), if_neg (by unfold ful; omega), if_neg h]
    unfold restF
    rw [if_pos rfl]
theorem line_k {s : Int} (hs : srtF tx e p = s) (h1 : 1 ≤ s ∧ s ≤ 7) : lineF tx e p R = if R 0 1 = 0 then bad 6 p else if ful R s then bad 5 p else restF tx e s (nx tx e p) R := by
  unfold lineF
  rw [hs, if_neg (by omega), if_neg (fun k => by omega)]
  by_cases h : R 0 1 = 0
  · rw [if_pos ⟨by omega, h⟩, if_pos h]
  · rw [if_neg (fun k => h k.2), if_neg h]
theorem r_line (M : MS G c0 c T tx e p R) (W : WF R) (hP : ∀ c', ME G c0 T tx e (lineF tx e p R) c' → P0 (G, c')) : EvV (d + 7) mX12_readLine [mR 18 62] (G, c) P0 := by
  refine ev_X12_readLine (d + 6) _ G c 62 (by decide) ?_
  have i0 := srt_iff (tx := tx) (e := e) (p := p) 0 (by decide) (by decide)
  have i1 := srt_iff (tx := tx) (e := e) (p := p) 1 (by decide) (by decide)
  have i2 := srt_iff (tx := tx) (e := e) (p := p) 2 (by decide) (by decide)
  have i3 := srt_iff (tx := tx) (e := e) (p := p) 3 (by decide) (by decide)
  have i4 := srt_iff (tx := tx) (e := e) (p := p) 4 (by decide) (by decide)
  have i5 := srt_iff (tx := tx) (e := e) (p := p) 5 (by decide) (by decide)
  have i6 := srt_iff (tx := tx) (e := e) (p := p) 6 (by decide) (by decide)
  have i7 := srt_iff (tx := tx) (e := e) (p := p) 7 (by decide) (by decide)
  rw [q_mw _ _ M (by decide) (by decide)]
  by_cases h0 : isw tx e 0 p
  · simp only [if_pos h0]
    rw [if_neg (by decide)]
    rw [line_0 (i0.2 h0)] at hP
    exact r_tube d _ M W hP
  · simp only [if_neg h0, ↓reduceIte]
    rw [q_mw _ _ M (by decide) (by decide)]
    by_cases h1 : isw tx e 1 p
    · simp only [if_pos h1]
      rw [if_neg (by decide)]
      rw [line_k (i1.2 h1) (by decide)] at hP
      refine r_person d _ M W (fun c' h => hP c' ?_)
      by_cases q : R 0 1 = 0
      · rw [if_pos q] at h ⊢; exact h
      · rw [if_neg q] at h ⊢
        by_cases q' : 6 ≤ R 0 3
        · rw [if_pos q'] at h; rw [if_pos (by unfold ful; omega)]; exact h
        · rw [if_neg q'] at h; rw [if_neg (by unfold ful; omega)]; unfold restF; rw [if_neg (by decide), if_pos rfl]; exact h
    · simp only [if_neg h1, ↓reduceIte]
      rw [q_mw _ _ M (by decide) (by decide)]
      by_cases h2 : isw tx e 2 p
      · simp only [if_pos h2]
        rw [if_neg (by decide)]
        rw [line_k (i2.2 h2) (by decide)] at hP
        refine r_turn d _ M W (fun c' h => hP c' ?_)
        by_cases q : R 0 1 = 0
        · rw [if_pos q] at h ⊢; exact h
        · rw [if_neg q] at h ⊢
          by_cases q' : 3 ≤ R 0 4
          · rw [if_pos q'] at h; rw [if_pos (by unfold ful; omega)]; exact h
          · rw [if_neg q'] at h; rw [if_neg (by unfold ful; omega)]; unfold restF; rw [if_neg (by decide), if_neg (by decide), if_pos rfl]; exact h
      · simp only [if_neg h2, ↓reduceIte]
        rw [q_mw _ _ M (by decide) (by decide)]
        by_cases h3 : isw tx e 3 p
        · simp only [if_pos h3]
          rw [if_neg (by decide)]
          rw [line_k (i3.2 h3) (by decide)] at hP
          refine r_quarrel d _ M W (fun c' h => hP c' ?_)
          by_cases q : R 0 1 = 0
          · rw [if_pos q] at h ⊢; exact h
          · rw [if_neg q] at h ⊢
            by_cases q' : 6 ≤ R 6 3
            · rw [if_pos q'] at h; rw [if_pos (by unfold ful; omega)]; exact h
            · rw [if_neg q'] at h; rw [if_neg (by unfold ful; omega)]; unfold restF; rw [if_neg (by decide), if_neg (by decide), if_neg (by decide), if_pos rfl]; exact h
        · simp only [if_neg h3, ↓reduceIte]
          rw [q_mw _ _ M (by decide) (by decide)]
          by_cases h4 : isw tx e 4 p
          · simp only [if_pos h4]
            rw [if_neg (by decide)]
            rw [line_k (i4.2 h4) (by decide)] at hP
            refine r_wish d _ M W 0 1 (Or.inl ⟨rfl, rfl⟩) (fun c' h => hP c' ?_)
            by_cases q : R 0 1 = 0
            · rw [if_pos q] at h ⊢; exact h
            · rw [if_neg q] at h ⊢
              by_cases q' : 4 ≤ R 10 3
              · rw [if_pos q'] at h; rw [if_pos (by unfold ful; omega)]; exact h
              · rw [if_neg q'] at h; rw [if_neg (by unfold ful; omega)]; unfold restF; rw [if_neg (by decide), if_neg (by decide), if_neg (by decide), if_neg (by decide), if_pos rfl]; exact h
          · simp only [if_neg h4, ↓reduceIte]
            rw [q_mw _ _ M (by decide) (by decide)]
            by_cases h5 : isw tx e 5 p
            · simp only [if_pos h5]
              rw [if_neg (by decide)]
              rw [line_k (i5.2 h5) (by decide)] at hP
              refine r_wish d _ M W 1 0 (Or.inr ⟨rfl, rfl⟩) (fun c' h => hP c' ?_)
              by_cases q : R 0 1 = 0
              · rw [if_pos q] at h ⊢; exact h
              · rw [if_neg q] at h ⊢
                by_cases q' : 4 ≤ R 10 3
                · rw [if_pos q'] at h; rw [if_pos (by unfold ful; omega)]; exact h
                · rw [if_neg q'] at h; rw [if_neg (by unfold ful; omega)]; unfold restF; rw [if_neg (by decide), if_neg (by decide), if_neg (by decide), if_neg (by decide), if_neg (by decide), if_pos rfl]; exact h
            · simp only [if_neg h5, ↓reduceIte]
              rw [q_mw _ _ M (by decide) (by decide)]
              by_cases h6 : isw tx e 6 p
              · simp only [if_pos h6]
                rw [if_neg (by decide)]
                rw [line_k (i6.2 h6) (by decide)] at hP
                refine r_unsure d _ M W (fun c' h => hP c' ?_)
                by_cases q : R 0 1 = 0
                · rw [if_pos q] at h ⊢; exact h
                · rw [if_neg q] at h ⊢
                  by_cases q' : 3 ≤ R 0 5
                  · rw [if_pos q'] at h; rw [if_pos (by unfold ful; omega)]; exact h
                  · rw [if_neg q'] at h; rw [if_neg (by unfold ful; omega)]; unfold restF; rw [if_neg (by decide), if_neg (by decide), if_neg (by decide), if_neg (by decide), if_neg (by decide), if_neg (by decide), if_pos rfl]; exact h
              · simp only [if_neg h6, ↓reduceIte]
                rw [q_mw _ _ M (by decide) (by decide)]
                by_cases h7 : isw tx e 7 p
                · simp only [if_pos h7]
                  rw [if_neg (by decide)]
                  rw [line_k (i7.2 h7) (by decide)] at hP
                  refine r_seen d _ M W (fun c' h => hP c' ?_)
                  by_cases q : R 0 1 = 0
                  · rw [if_pos q] at h ⊢; exact h
                  · rw [if_neg q] at h ⊢
                    by_cases q' : 5 ≤ R 14 3
                    · rw [if_pos q'] at h; rw [if_pos (by unfold ful; omega)]; exact h
                    · rw [if_neg q'] at h; rw [if_neg (by unfold ful; omega)]; unfold restF; rw [if_neg (by decide), if_neg (by decide), if_neg (by decide), if_neg (by decide), if_neg (by decide), if_neg (by decide), if_neg (by decide)]; exact h
                · simp only [if_neg h7, ↓reduceIte]
                  have hs := srt_rg (tx := tx) (e := e) (p := p)
                  have hm : srtF tx e p = -1 := by
                    rcases hs with q | q | q | q | q | q | q | q | q
                    · exact q
                    · exact absurd (i0.1 q) h0
                    · exact absurd (i1.1 q) h1
                    · exact absurd (i2.1 q) h2
                    · exact absurd (i3.1 q) h3
                    · exact absurd (i4.1 q) h4
                    · exact absurd (i5.1 q) h5
                    · exact absurd (i6.1 q) h6
                    · exact absurd (i7.1 q) h7
                  unfold lineF at hP
                  rw [if_pos hm] at hP
                  exact m_flaw (d + 5) _ M W 1 (fun c' M' => hP _ M')
theorem o_eats (M : MO G c0 c T tx e f pl) : EvI (d + 1) mX12_eatsSemicolon [mR 18 62] (G, c) P = P 0 (G, c) := evI_eq (ev_X12_eatsSemicolon d _ G c 62 (by decide) ⟨by decide, by rw [M.2.1, if_neg (by decide), if_pos rfl]; exact ⟨⟨by decide, by decide⟩, rfl, rfl⟩⟩) P
theorem m_eats (M : MS G c0 c T tx e p R) (h3 : kd tx e p = 3 → ∀ c', MS G c0 c' T tx e (nx tx e p) R → P 1 (G, c')) (h0 : kd tx e p ≠ 3 → P 0 (G, c)) : EvI (d + 3) mX12_eatsSemicolon [mR 18 62] (G, c) P := by
  refine ev_X12_eatsSemicolon (d + 2) _ G c 62 (by decide) ⟨by decide, ?_⟩
  rw [M.so]
  by_cases h : kd tx e p = 3
  · rw [if_pos ((sg_k kd_rg).2.2.1.2 h), if_neg (by decide)]
    exact m_goes d _ M (fun c' M' => ⟨⟨by decide, by decide⟩, h3 h c' M'⟩)
  · rw [if_neg (fun k => h ((sg_k kd_rg).2.2.1.1 k)), if_pos rfl]
    exact ⟨⟨by decide, by decide⟩, h0 h⟩
theorem lo_all (M : MO G c0 c T tx e f pl) (hP : P0 (G, c)) : At (d + 2) mX12_readAll 2 [mR 18 62, mI 0] [] (G, c) (QV P0) := by
  have hT := M.1.2.1.n
  apply wp_X12_readAll_2
  rw [if_pos rfl, M.2.1, if_neg (by decide), o_flaw _ _ M]
  dsimp only
  simp only [o_flaw _ _ M, M.1.2.2.1]
  refine ⟨by decide, by decide, by omega, ?_⟩
  split
  · exact hP
  · refine ⟨by decide, by omega, ?_⟩
    split
    · exact hP
    · exact hP
theorem l_rall : ∀ (k : Nat) (i p : Int) (R c : MC), 0 ≤ i → i + k = e + 1 → i ≤ p → MS G c0 c T tx e p R → WF R → (∀ c', ME G c0 T tx e (readF tx e k p R) c' → P0 (G, c')) → At (d + 8) mX12_readAll 2 [mR 18 62, mI 1] [] (G, c) (QV P0) := by
  intro k
  induction k with
  | zero =>
    intro i p R c i0 hi ip M W hP
    have := M.2.1.2.2.2.2.2
    omega
  | succ k ih =>
    intro i p R c i0 hi ip M W hP
    have hp := M.2.1.2.2.2.2.2
    have hT := M.1.2.1.n
    apply wp_X12_readAll_2
    rw [if_neg (by decide)]
    refine r_line d _ M W (fun c1 h1 => ?_)
    simp only [readF] at hP
    cases hl : lineF tx e p R with
    | inl x =>
      obtain ⟨f, pl⟩ := x
      rw [hl] at h1 hP
      have M1 : MO G c0 c1 T tx e f pl := h1
      dsimp only
      rw [o_eats _ _ M1]
      exact lo_all (d + 6) P0 M1 (hP _ M1)
    | inr x =>
      obtain ⟨p', R'⟩ := x
      rw [hl] at h1 hP
      have M1 : MS G c0 c1 T tx e p' R' := h1
      have W1 := wf_line W hp.2 p' R' hl
      dsimp only at hP
      refine m_eats (d + 4) _ M1 (fun k3 c2 M2 => ?_) (fun k3 => ?_)
      · rw [if_pos k3] at hP
        have := nx_lt (tx := tx) (e := e) (p := p') (by omega)
        exact ih (i + 1) _ _ _ (by omega) (by omega) (by omega) M2 W1.1 hP
      · rw [if_neg k3] at hP
        apply wp_X12_readAll_2
        rw [if_pos rfl]
        dsimp only
        by_cases k0 : kd tx e p' = 0
        · rw [if_pos k0] at hP
          rw [if_pos (by rw [M1.so]; exact (sg_k kd_rg).2.2.2.2 k0)]
          simp only [M1.1.2.2.1, M1.2.2.2.f3, M1.2.2.2.f4]
          refine ⟨by decide, by decide, by omega, ?_⟩
          by_cases q3 : R' 0 3 = 0
          · rw [if_pos (Or.inl q3)] at hP
            rw [if_pos q3]
            exact m_flaw (d + 6) _ M1 W1.1 6 (fun c' M' => hP _ M')
          · rw [if_neg q3]
            refine ⟨by decide, by omega, ?_⟩
            by_cases q4 : R' 0 4 = 0
            · rw [if_pos (Or.inr q4)] at hP
              rw [if_pos q4]
              exact m_flaw (d + 6) _ M1 W1.1 6 (fun c' M' => hP _ M')
            · rw [if_neg (by omega)] at hP
              rw [if_neg q4]
              exact hP _ M1
        · rw [if_neg k0] at hP
          rw [if_neg (fun q => k0 ((sg_k kd_rg).2.2.2.1 (by rw [← M1.so]; exact q)))]
          refine ⟨by decide, ?_⟩
          refine m_flaw (d + 6) _ M1 W1.1 1 (fun c2 M2 => ?_)
          dsimp only
          simp only [o_flaw _ _ M2, M2.1.2.2.1]
          refine ⟨by decide, by omega, ?_⟩
          split
          · exact hP _ M2
          · refine ⟨by decide, by omega, ?_⟩
            split
            · exact hP _ M2
            · exact hP _ M2
theorem read_ok : ∀ (k : Nat) (p : Int) (R : MC) (p' : Int) (R' : MC), p ≤ e → WF R → readF tx e k p R = Sum.inr (p', R') → WF R' ∧ R' 0 3 ≠ 0 ∧ R' 0 4 ≠ 0 := by
  intro k
  induction k with
  | zero => intro p R p' R' _ _ h; simp only [readF] at h; cases h
  | succ k ih =>
    intro p R p' R' hp W h
    simp only [readF] at h
    cases hl : lineF tx e p R with
    | inl x => rw [hl] at h; cases h
    | inr x =>
      obtain ⟨q, S⟩ := x
      rw [hl] at h
      have W1 := wf_line W hp q S hl
      dsimp only at h
      by_cases k3 : kd tx e q = 3
      · rw [if_pos k3] at h
        exact ih _ _ _ _ (nx_rg W1.2.2).2 W1.1 h
      · rw [if_neg k3] at h
        by_cases k0 : kd tx e q = 0
        · rw [if_pos k0] at h
          by_cases z : S 0 3 = 0 ∨ S 0 4 = 0
          · rw [if_pos z] at h; cases h
          · rw [if_neg z] at h
            simp only [Sum.inr.injEq, Prod.mk.injEq] at h
            obtain ⟨rfl, rfl⟩ := h
            exact ⟨W1.1, fun y => z (Or.inl y), fun y => z (Or.inr y)⟩
        · rw [if_neg k0] at h; cases h
end
