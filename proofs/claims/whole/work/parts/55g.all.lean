/-! the class reads all lines, one by one -/
section
variable (d : Nat) (P : Int → MM → Prop) (P0 : MM → Prop) {G : MG} {c0 c R : MC} {b e p : Int} {tx : Int → Int}
theorem CR.b01 {r : PR} {v : Int} (h : CR G c0 b tx e r v c) : 0 ≤ v ∧ v ≤ 1 := by
  unfold CR at h
  split at h
  · have := h.1; omega
  · have := h.1; omega
theorem l_tl57 (C : CS G c0 c b tx e p R) (W : WF R) (s : Int) (hs : s = 0 ∨ s = 1 ∨ s = 2 ∨ s = 3 ∨ s = 4 ∨ s = 5 ∨ s = 6 ∨ s = 7) (hP : ∀ v c', CR G c0 b tx e (if ful R s then bad 5 p else restF tx e s (nx tx e p) R) v c' → P v (G, c')) : At (d + 5) mX5_takeLine 57 [mR 12 19, mI s] [] (G, c) (QI P) := by
  have x1 := W.p; have x2 := W.t; have x3 := W.q; have x4 := W.w; have x5 := W.x; have x6 := W.s
  apply wp_X5_takeLine_57
  rw [q_full _ _ C W.bd]
  by_cases hf : ful R s
  · rw [if_pos hf] at hP
    simp only [if_pos hf]
    rw [if_neg (by decide)]
    exact f_fail (d + 3) _ C 5 (fun c' F => ⟨⟨by decide, by decide⟩, hP 0 _ ⟨rfl, F⟩⟩)
  · rw [if_neg hf] at hP
    simp only [if_neg hf]
    rw [if_pos trivial]
    refine f_cstep (d + 2) _ C (fun c1 C1 => ?_)
    have hP' : ∀ v c', CR G c0 b tx e (restF tx e s (nx tx e p) R) v c' → (0 ≤ v ∧ v ≤ 1) ∧ P v (G, c') := fun v c' h => ⟨h.b01, hP v c' h⟩
    unfold restF at hP'
    rcases hs with rfl | rfl | rfl | rfl | rfl | rfl | rfl | rfl
    · simp only [↓reduceIte] at hP' ⊢
      exact f_tube d _ C1 hP'
    · simp only [Int.reduceEq, ↓reduceIte] at hP' ⊢
      exact f_person d _ C1 W (by omega) hP'
    · simp only [Int.reduceEq, ↓reduceIte] at hP' ⊢
      exact f_turn d _ C1 W (by omega) hP'
    · simp only [Int.reduceEq, ↓reduceIte] at hP' ⊢
      exact f_quarrel d _ C1 W (by omega) hP'
    · simp only [Int.reduceEq, ↓reduceIte] at hP' ⊢
      exact f_wish d _ C1 W (by omega) 1 (by decide) hP'
    · simp only [Int.reduceEq, ↓reduceIte] at hP' ⊢
      exact f_wish d _ C1 W (by omega) 0 (by decide) hP'
    · simp only [Int.reduceEq, ↓reduceIte] at hP' ⊢
      exact f_unsure d _ C1 W (by omega) hP'
    · simp only [Int.reduceEq, ↓reduceIte] at hP' ⊢
      exact f_seen d _ C1 W (by omega) hP'
theorem f_takeLine (C : CS G c0 c b tx e p R) (W : WF R) (hP : ∀ v c', CR G c0 b tx e (lineF tx e p R) v c' → P v (G, c')) : EvI (d + 5) mX5_takeLine [mR 12 19] (G, c) P := by
  have hb := C.1.b0
  have hs := srt_rg (tx := tx) (e := e) (p := p)
  have a := W.a
  refine ev_X5_takeLine (d + 4) _ G c 19 (by decide) ?_
  unfold lineF at hP
  rw [q_lineSort _ _ C]
  by_cases h1 : srtF tx e p = -1
  · rw [if_pos h1] at hP ⊢
    exact f_fail (d + 3) _ C 1 (fun c' F => ⟨⟨by decide, by decide⟩, hP 0 _ ⟨rfl, F⟩⟩)
  · rw [if_neg h1] at hP ⊢
    by_cases h0 : srtF tx e p = 0
    · rw [if_pos h0]
      dsimp only
      simp only [C.1.2.2.1, C.a0 (j := 1) (by decide) (by decide)]
      refine ⟨by decide, by omega, ?_⟩
      by_cases h2 : 0 < R 0 1
      · rw [if_pos ⟨h0, h2⟩] at hP
        rw [if_pos h2]
        exact f_fail (d + 3) _ C 3 (fun c' F => ⟨⟨by decide, by decide⟩, hP 0 _ ⟨rfl, F⟩⟩)
      · rw [if_neg (fun h => h2 h.2), if_neg (fun h => h.1 h0)] at hP
        rw [if_neg h2]
        apply wp_X5_takeLine_36
        rw [if_pos h0]
        exact l_tl57 d P C W _ (by omega) hP
    · rw [if_neg (fun h => h0 h.1)] at hP
      rw [if_neg h0]
      apply wp_X5_takeLine_36
      rw [if_neg h0]
      dsimp only
      simp only [C.1.2.2.1, C.a0 (j := 1) (by decide) (by decide)]
      refine ⟨by decide, by omega, ?_⟩
      by_cases h2 : R 0 1 = 0
      · rw [if_pos ⟨h0, h2⟩] at hP
        rw [if_pos h2]
        exact f_fail (d + 3) _ C 6 (fun c' F => ⟨⟨by decide, by decide⟩, hP 0 _ ⟨rfl, F⟩⟩)
      · rw [if_neg (fun h => h2 h.2)] at hP
        rw [if_neg h2]
        exact l_tl57 d P C W _ (by omega) hP
theorem f_cgoesOn (C : CS G c0 c b tx e p R) (h3 : kd tx e p = 3 → ∀ c', CS G c0 c' b tx e (nx tx e p) R → P 1 (G, c')) (h6 : kd tx e p = 0 → (R 0 3 = 0 ∨ R 0 4 = 0) → ∀ c', CF G c0 c' b tx e 6 p → P 0 (G, c')) (h0 : kd tx e p = 0 → ¬ (R 0 3 = 0 ∨ R 0 4 = 0) → P 0 (G, c)) (h1 : kd tx e p ≠ 3 → kd tx e p ≠ 0 → ∀ c', CF G c0 c' b tx e 1 p → P 0 (G, c')) : EvI (d + 3) mX5_goesOn [mR 12 19] (G, c) P := by
  have hb := C.1.b0
  refine ev_X5_goesOn (d + 2) _ G c 19 (by decide) ⟨by decide, ?_⟩
  rw [C.2.1.2.1]
  by_cases k3 : kd tx e p = 3
  · rw [if_pos k3]
    exact f_cstep d _ C (fun c' C' => ⟨⟨by decide, by decide⟩, h3 k3 c' C'⟩)
  · rw [if_neg k3]
    refine ⟨by decide, ?_⟩
    by_cases k0 : kd tx e p = 0
    · rw [if_pos k0, C.1.2.2.1, C.a0 (j := 3) (by decide) (by decide)]
      refine ⟨by decide, by omega, ?_⟩
      by_cases q3 : R 0 3 = 0
      · rw [if_pos q3]
        exact f_fail (d + 1) _ C 6 (fun c' F => ⟨⟨by decide, by decide⟩, h6 k0 (Or.inl q3) c' F⟩)
      · rw [if_neg q3, C.a0 (j := 4) (by decide) (by decide)]
        refine ⟨by decide, by omega, ?_⟩
        by_cases q4 : R 0 4 = 0
        · rw [if_pos q4]
          exact f_fail (d + 1) _ C 6 (fun c' F => ⟨⟨by decide, by decide⟩, h6 k0 (Or.inr q4) c' F⟩)
        · rw [if_neg q4]
          exact ⟨⟨by decide, by decide⟩, h0 k0 (by omega)⟩
    · rw [if_neg k0]
      exact f_fail (d + 1) _ C 1 (fun c' F => ⟨⟨by decide, by decide⟩, h1 k3 k0 c' F⟩)
/-- what stands behind all lines -/
def CE (G : MG) (c0 : MC) (b : Int) (tx : Int → Int) (e : Int) (r : PR) (v : Int) (c : MC) : Prop := match r with
  | Sum.inl (f, pl) => v = 0 ∧ CF G c0 c b tx e f pl ∧ f ≠ 0
  | Sum.inr (p, R) => v = 1 ∧ CS G c0 c b tx e p R ∧ WF R
theorem l_rdz (C : CX G c0 c b tx e) (i : Int) (f : Int) (hf : c 19 12 = f) (h0 : f = 0 → P 1 (G, c)) (h1 : f ≠ 0 → P 0 (G, c)) : At (d + 1) mX5_read 52 [mR 12 19, MU, mI 0, mI i] [] (G, c) (QI P) := by
  apply wp_X5_read_52
  rw [if_pos rfl, hf]
  refine ⟨by decide, ?_⟩
  by_cases h : f = 0
  · rw [if_pos h]; exact ⟨⟨by decide, by decide⟩, h0 h⟩
  · rw [if_neg h]; exact ⟨⟨by decide, by decide⟩, h1 h⟩
theorem l_read : ∀ (k : Nat) (i p : Int) (R c : MC), 0 ≤ i → i + k = e + 1 → i ≤ p → CS G c0 c b tx e p R → WF R → (∀ v c', CE G c0 b tx e (readF tx e k p R) v c' → P v (G, c')) → At (d + 6) mX5_read 52 [mR 12 19, MU, mI 1, mI i] [] (G, c) (QI P) := by
  intro k
  induction k with
  | zero =>
    intro i p R c i0 hi ip C W hP
    have := C.2.1.2.2.2.2
    omega
  | succ k ih =>
    intro i p R c i0 hi ip C W hP
    have hp := C.2.1.2.2.2.2
    have he := C.rd.eb
    have wi : w32 (i + 1) = i + 1 := w32i (by omega) (by omega)
    apply wp_X5_read_52
    rw [if_neg (by decide), C.rd.p3, if_neg (by omega), wi]
    refine ⟨by decide, ?_⟩
    refine f_takeLine d _ C W (fun v c1 h1 => ?_)
    simp only [readF] at hP
    cases hl : lineF tx e p R with
    | inl x =>
      obtain ⟨f, pl⟩ := x
      rw [hl] at h1 hP
      obtain ⟨rfl, F⟩ := h1
      have fz := line_nz f pl hl
      rw [if_pos rfl]
      exact l_rdz (d + 5) P F.1 _ f F.2.1 (fun h => absurd h fz) (fun h => hP 0 _ ⟨rfl, F, fz⟩)
    | inr x =>
      obtain ⟨p', R'⟩ := x
      rw [hl] at h1 hP
      obtain ⟨rfl, C1⟩ := h1
      have W1 := wf_line W hp.2 p' R' hl
      dsimp only at hP
      rw [if_neg (by decide)]
      refine f_cgoesOn (d + 2) _ C1 (fun k3 c2 C2 => ?_) (fun k0 q c2 F2 => ?_) (fun k0 q => ?_) (fun k3 k0 c2 F2 => ?_)
      · rw [if_pos k3] at hP
        rw [if_neg (by decide)]
        have := nx_lt (tx := tx) (e := e) (p := p') (by omega)
        exact ih _ _ _ _ (by omega) (by omega) (by omega) C2 W1.1 hP
      · rw [if_neg (by omega), if_pos k0, if_pos q] at hP
        rw [if_pos rfl]
        exact l_rdz (d + 5) P F2.1 _ 6 F2.2.1 (fun h => absurd h (by decide)) (fun h => hP 0 _ ⟨rfl, F2, by decide⟩)
      · rw [if_neg (by omega), if_pos k0, if_neg q] at hP
        rw [if_pos rfl]
        exact l_rdz (d + 5) P C1.1 _ 0 C1.2.2.1.1 (fun h => hP 1 _ ⟨rfl, C1, W1.1⟩) (fun h => absurd rfl h)
      · rw [if_neg k3, if_neg k0] at hP
        rw [if_pos rfl]
        exact l_rdz (d + 5) P F2.1 _ 1 F2.2.1 (fun h => absurd h (by decide)) (fun h => hP 0 _ ⟨rfl, F2, by decide⟩)
/-- what is told where nothing is -/
def R00 (c : MC) (b : Int) : MC := fun a j => if a = 20 then 0 else if a = 21 then c 22 j else if a = 22 then c 23 j else if a = 0 ∧ 0 ≤ j ∧ j < 6 then 0 else if (a = 6 ∨ a = 10 ∨ a = 14) ∧ j = 3 then 0 else c (b + a) j
theorem wf_00 : WF (R00 c b) := by
  have z : ∀ j, 0 ≤ j → j < 6 → R00 c b 0 j = 0 := fun j x y => by unfold R00; rw [if_neg (by decide), if_neg (by decide), if_neg (by decide), if_pos ⟨rfl, x, y⟩]
  have z6 : R00 c b 6 3 = 0 := by unfold R00; rw [if_neg (by decide), if_neg (by decide), if_neg (by decide), if_neg (by decide), if_pos (by omega)]
  have z10 : R00 c b 10 3 = 0 := by unfold R00; rw [if_neg (by decide), if_neg (by decide), if_neg (by decide), if_neg (by decide), if_pos (by omega)]
  have z14 : R00 c b 14 3 = 0 := by unfold R00; rw [if_neg (by decide), if_neg (by decide), if_neg (by decide), if_neg (by decide), if_pos (by omega)]
  have z20 : R00 c b 20 0 = 0 := by unfold R00; rw [if_pos rfl]
  unfold WF
  rw [z 0 (by decide) (by decide), z 1 (by decide) (by decide), z 2 (by decide) (by decide), z 3 (by decide) (by decide), z 4 (by decide) (by decide), z 5 (by decide) (by decide), z6, z10, z14, z20]
  refine ⟨Or.inl (by omega), by omega, by omega, by omega, by omega, by omega, by omega, by omega, by omega, fun i a b => by omega, fun i a b => by omega, fun i a b => by omega, fun i a b => by omega, fun i j a b c => by omega, fun i a b => by omega, fun i a b => by omega, fun i a b => by omega⟩
theorem f_read {t z n : Int} (S : SH G c t z) (n0 : 0 ≤ n) (n1 : n ≤ c 19 2) (hP : ∀ v c', CE G (up c 19 2 0) (25 - t) (c 21) n (readF (c 21) n (n + 1).toNat (sk (c 21) n 0) (R00 c (25 - t))) v c' → P v (G, c')) : EvI (d + 7) mX5_read [mR 12 19, mI n] (G, c) P := by
  have ht := S.t
  have hz := S.tp
  have hp1 := S.p1
  generalize hb : 25 - t = b at *
  have hb1 : b = 1 ∨ b = 24 := by omega
  have TP : TPs G c b := by
    rcases hb1 with rfl | rfl
    · exact S.A
    · exact S.B
  refine ev_X5_read (d + 6) _ G c 19 n (by decide) ⟨by decide, ?_⟩
  rw [q_J9_min, if_neg (by omega)]
  refine ⟨by decide, ?_⟩
  rintro _ rfl
  refine ⟨by decide, ?_⟩
  rintro _ rfl
  refine ⟨by decide, ?_⟩
  rintro _ rfl
  refine ⟨by decide, ?_⟩
  rintro _ rfl
  refine ⟨by decide, ?_⟩
  rintro _ rfl
  refine ⟨by decide, ?_⟩
  rintro c8 h8
  have h8' : c8 = up (up (up (up (up (up c 19 3 n) 19 2 0) 19 4 0) 19 10 0) 19 12 0) 19 13 0 := h8
  clear h8
  have o8 : ∀ a j, ¬ (a = 19 ∧ (j = 2 ∨ j = 3 ∨ j = 4 ∨ j = 10 ∨ j = 12 ∨ j = 13)) → c8 a j = c a j := fun a j h => by rw [h8', up_o (by omega), up_o (by omega), up_o (by omega), up_o (by omega), up_o (by omega), up_o (by omega)]
  have e11 : c8 19 11 = b := by rw [o8 _ _ (by omega)]; exact hp1
  have e13 : c8 19 13 = 0 := by rw [h8', up_eq]
  have e12 : c8 19 12 = 0 := by rw [h8', up_nj (by decide), up_eq]
  have e10 : c8 19 10 = 0 := by rw [h8', up_nj (by decide), up_nj (by decide), up_eq]
  have e4 : c8 19 4 = 0 := by rw [h8', up_nj (by decide), up_nj (by decide), up_nj (by decide), up_eq]
  have e2 : c8 19 2 = 0 := by rw [h8', up_nj (by decide), up_nj (by decide), up_nj (by decide), up_nj (by decide), up_eq]
  have e3 : c8 19 3 = n := by rw [h8', up_nj (by decide), up_nj (by decide), up_nj (by decide), up_nj (by decide), up_nj (by decide), up_eq]
  clear h8'
  rw [e11]
  refine ⟨by decide, ?_⟩
  refine ev_X9_clear (d + 5) _ G c8 b (by omega) ⟨by omega, ?_⟩
  have p11 : c8 b 11 = b + 6 := by rw [o8 _ _ (by omega)]; exact TP.p11
  have p12 : c8 b 12 = b + 10 := by rw [o8 _ _ (by omega)]; exact TP.p12
  have p13 : c8 b 13 = b + 14 := by rw [o8 _ _ (by omega)]; exact TP.p13
  rintro _ rfl
  refine ⟨by omega, ?_⟩
  rintro _ rfl
  refine ⟨by omega, ?_⟩
  rintro _ rfl
  refine ⟨by omega, ?_⟩
  rintro _ rfl
  refine ⟨by omega, ?_⟩
  rintro _ rfl
  refine ⟨by omega, ?_⟩
  rintro _ rfl
  rw [up_nj (show (11 : Int) ≠ 5 by decide), up_nj (show (11 : Int) ≠ 4 by decide), up_nj (show (11 : Int) ≠ 3 by decide), up_nj (show (11 : Int) ≠ 2 by decide), up_nj (show (11 : Int) ≠ 1 by decide), up_nj (show (11 : Int) ≠ 0 by decide), p11]
  refine ⟨by omega, by omega, ?_⟩
  rintro _ rfl
  rw [up_na (show b ≠ b + 6 by omega), up_nj (show (12 : Int) ≠ 5 by decide), up_nj (show (12 : Int) ≠ 4 by decide), up_nj (show (12 : Int) ≠ 3 by decide), up_nj (show (12 : Int) ≠ 2 by decide), up_nj (show (12 : Int) ≠ 1 by decide), up_nj (show (12 : Int) ≠ 0 by decide), p12]
  refine ⟨by omega, by omega, ?_⟩
  rintro _ rfl
  rw [up_na (show b ≠ b + 10 by omega), up_na (show b ≠ b + 6 by omega), up_nj (show (13 : Int) ≠ 5 by decide), up_nj (show (13 : Int) ≠ 4 by decide), up_nj (show (13 : Int) ≠ 3 by decide), up_nj (show (13 : Int) ≠ 2 by decide), up_nj (show (13 : Int) ≠ 1 by decide), up_nj (show (13 : Int) ≠ 0 by decide), p13]
  refine ⟨by omega, by omega, ?_⟩
  rintro c9 h9
  have h9' : c9 = up (up (up (up (up (up (up (up (up c8 b 0 0) b 1 0) b 2 0) b 3 0) b 4 0) b 5 0) (b + 6) 3 0) (b + 10) 3 0) (b + 14) 3 0 := h9
  clear h9
  have o9 : ∀ a j, ¬ (a = b ∧ 0 ≤ j ∧ j < 6) → ¬ ((a = b + 6 ∨ a = b + 10 ∨ a = b + 14) ∧ j = 3) → c9 a j = c8 a j := fun a j h h' => by rw [h9', up_o (by omega), up_o (by omega), up_o (by omega), up_o (by omega), up_o (by omega), up_o (by omega), up_o (by omega), up_o (by omega), up_o (by omega)]
  have z9 : ∀ a j, (a = b ∧ 0 ≤ j ∧ j < 6) ∨ ((a = b + 6 ∨ a = b + 10 ∨ a = b + 14) ∧ j = 3) → c9 a j = 0 := fun a j h => by
    rw [h9']
    unfold up
    grind
  clear h9'
  have RD9 : RD G c9 (c 21) n := ⟨by rw [o9 _ _ (by omega) (by omega), o8 _ _ (by omega)]; exact S.r0, by rw [o9 _ _ (by omega) (by omega), o8 _ _ (by omega)]; exact S.r1, by rw [o9 _ _ (by omega) (by omega), o8 _ _ (by omega)]; exact S.r8, by rw [o9 _ _ (by omega) (by omega), o8 _ _ (by omega)]; exact S.r9, by rw [o9 _ _ (by omega) (by omega)]; exact e3, ⟨n0, by omega⟩, S.l20, S.l21, S.l22, S.l23, fun j x y => by rw [o9 _ _ (by omega) (by omega), o8 _ _ (by omega)], fun k x y => by rw [o9 _ _ (by omega) (by omega), o8 _ _ (by omega)]; exact S.lw k x y⟩
  dsimp only
  refine f_step (d + 4) _ RD9 0 (by decide) n0 (by rw [o9 _ _ (by omega) (by omega)]; exact e4) (fun ca F T => ?_)
  have TP9 : TPs G c9 b := TP.tm (fun a j x y h => by rw [o9 _ _ (fun k => h (by unfold Tm; omega)) (fun k => h (by unfold Tm; omega)), o8 _ _ (by omega)])
  have CX9 : CX G (up c 19 2 0) c9 b (c 21) n := ⟨RD9, TP9, by rw [o9 _ _ (by omega) (by omega)]; exact e11, fun a j h1 h2 h3 h4 => by
    rw [o9 _ _ (by omega) (by omega)]
    by_cases q : a = 19 ∧ j = 2
    · rw [q.1, q.2, up_eq]; exact e2
    · rw [up_o q, o8 _ _ (by omega)]⟩
  have Ca : CS G (up c 19 2 0) ca b (c 21) n (sk (c 21) n 0) (R00 c b) := by
    refine ⟨CX9.f4 F, T, ?_, ?_, fun a j h => ?_, fun j => ?_⟩
    · rw [F 19 12 (by omega), F 19 13 (by omega), o9 _ _ (by omega) (by omega), o9 _ _ (by omega) (by omega)]; exact ⟨e12, e13⟩
    · rw [F 19 10 (by omega), o9 _ _ (by omega) (by omega), e10]; unfold R00; rw [if_pos rfl]
    · unfold Tm at h
      rw [F _ _ (by omega)]
      unfold R00
      rw [if_neg (by omega), if_neg (by omega), if_neg (by omega)]
      by_cases q1 : a = 0 ∧ 0 ≤ j ∧ j < 6
      · rw [if_pos q1]; exact z9 _ _ (by omega)
      · rw [if_neg q1]
        by_cases q2 : (a = 6 ∨ a = 10 ∨ a = 14) ∧ j = 3
        · rw [if_pos q2]; exact z9 _ _ (by omega)
        · rw [if_neg q2, o9 _ _ (by omega) (by omega), o8 _ _ (by omega)]
    · rw [F 22 j (by omega), F 23 j (by omega), o9 _ _ (by omega) (by omega), o9 _ _ (by omega) (by omega), o8 _ _ (by omega), o8 _ _ (by omega)]
      unfold R00
      exact ⟨by rw [if_neg (by decide), if_pos rfl], by rw [if_neg (by decide), if_neg (by decide), if_pos rfl]⟩
  exact l_read (d + 1) P (n + 1).toNat 0 _ _ _ (by decide) (by omega) (sk_rg n0).1 Ca wf_00 hP
end
