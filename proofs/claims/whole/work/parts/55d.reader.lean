/-! the class's lines -/
section
variable (d : Nat) (P : Int → MM → Prop) (P0 : MM → Prop) {G : MG} {c0 c R : MC} {b e p : Int} {tx : Int → Int}
theorem f_add (C : CS G c0 c b tx e p R) (A m x y f : Int) (hA : A = 6 ∨ A = 10 ∨ A = 14) (H : PLs G c (b + A) m) (hlt : R A 3 < m) (hf : 0 ≤ f ∧ f ≤ 1) (hP : ∀ c', CS G c0 c' b tx e p (addP R A x y f) → P0 (G, c')) : EvV (d + 2) mX3_add [mR 10 (b + A), mI x, mI y, mI f] (G, c) P0 := by
  have hb := C.1.b0
  have e3 : c (b + A) 3 = R A 3 := C.at (by unfold Tm; omega)
  have hlo := H.lo
  have hm : m ≤ 10 := H.2.2.2.2.2.2.2.2.2
  rw [e3] at hlo
  refine ev_X3_add (d + 1) _ G c (b + A) x y f H.n ?_
  rw [q_isFull _ _ _ _ (b + A) m H, if_pos (by rw [e3, if_pos hlt])]
  dsimp only
  simp only [H.f0, H.g1, e3]
  refine ⟨H.n, H.n, ⟨by omega, hlo, hlt⟩, ?_⟩
  rintro _ rfl
  simp only [up_na (show b + A ≠ b + A + 1 by omega), H.f1, H.g2, e3]
  refine ⟨H.n, H.n, ⟨by omega, hlo, hlt⟩, ?_⟩
  rintro _ rfl
  simp only [up_na (show b + A ≠ b + A + 1 by omega), up_na (show b + A ≠ b + A + 2 by omega), H.f2, H.g3, e3]
  refine ⟨H.n, H.n, ⟨by omega, hlo, hlt, hf.1, hf.2⟩, ?_⟩
  rintro _ rfl
  simp only [up_na (show b + A ≠ b + A + 1 by omega), up_na (show b + A ≠ b + A + 2 by omega), up_na (show b + A ≠ b + A + 3 by omega), e3]
  rw [w32i (by omega) (by omega)]
  refine ⟨H.n, H.n, ?_⟩
  rintro _ rfl
  apply hP
  have C4 := (((C.upR (a := A + 1) (j := R A 3) (v := x) (by unfold Tm; omega)).upR (a := A + 2) (j := R A 3) (v := y) (by unfold Tm; omega)).upR (a := A + 3) (j := R A 3) (v := f) (by unfold Tm; omega)).upR (a := A) (j := 3) (v := R A 3 + 1) (by unfold Tm; omega)
  rw [← Int.add_assoc, ← Int.add_assoc, ← Int.add_assoc] at C4
  exact C4
theorem CS.up0 (C : CS G c0 c b tx e p R) {j v : Int} (j0 : 0 ≤ j) (j1 : j < 6) : CS G c0 (up c b j v) b tx e p (up R 0 j v) := by
  have := C.upR (a := 0) (j := j) (v := v) (by unfold Tm; omega)
  rw [Int.add_zero] at this
  exact this
theorem f_aPers (C : CS G c0 c b tx e p R) (B : BD R) (hlt : R 0 3 ≤ 5) (x y : Int) (hP : ∀ c', CS G c0 c' b tx e p (up (up (up R 1 (R 0 3) x) 2 (R 0 3) y) 0 3 (R 0 3 + 1)) → P0 (G, c')) : EvV (d + 1) mX9_addPerson [mR 15 b, mI x, mI y] (G, c) P0 := by
  have hb := C.1.b0
  have hp := B.p
  have TL := C.tl B
  have e3 : c b 3 = R 0 3 := C.a0 (by decide) (by decide)
  refine ev_X9_addPerson d _ G c b x y (by omega) ⟨by omega, ?_⟩
  rw [e3, if_pos (by omega), TL.p6, TL.g1]
  refine ⟨by omega, by omega, ⟨by omega, by omega, by omega⟩, ?_⟩
  rintro _ rfl
  simp only [up_na (show b ≠ b + 1 by omega), TL.p7, TL.g2, e3]
  refine ⟨by omega, by omega, ⟨by omega, by omega, by omega⟩, ?_⟩
  rintro _ rfl
  simp only [up_na (show b ≠ b + 1 by omega), up_na (show b ≠ b + 2 by omega), e3, w32i (show -2147483648 ≤ R 0 3 + 1 by omega) (show R 0 3 + 1 < 2147483648 by omega)]
  refine ⟨by omega, by omega, ?_⟩
  rintro _ rfl
  exact hP _ (((C.upR (a := 1) (j := R 0 3) (v := x) (by unfold Tm; omega)).upR (a := 2) (j := R 0 3) (v := y) (by unfold Tm; omega)).up0 (j := 3) (by decide) (by decide))
theorem f_aTurn (C : CS G c0 c b tx e p R) (B : BD R) (hlt : R 0 4 ≤ 2) (x : Int) (hP : ∀ c', CS G c0 c' b tx e p (up (up R 3 (R 0 4) x) 0 4 (R 0 4 + 1)) → P0 (G, c')) : EvV (d + 1) mX9_addTurn [mR 15 b, mI x] (G, c) P0 := by
  have hb := C.1.b0
  have hp := B.t
  have TL := C.tl B
  have e4 : c b 4 = R 0 4 := C.a0 (by decide) (by decide)
  refine ev_X9_addTurn d _ G c b x (by omega) ⟨by omega, ?_⟩
  rw [e4, if_pos (by omega), TL.p8, TL.g3]
  refine ⟨by omega, by omega, ⟨by omega, by omega, by omega⟩, ?_⟩
  rintro _ rfl
  simp only [up_na (show b ≠ b + 3 by omega), e4, w32i (show -2147483648 ≤ R 0 4 + 1 by omega) (show R 0 4 + 1 < 2147483648 by omega)]
  refine ⟨by omega, by omega, ?_⟩
  rintro _ rfl
  exact hP _ ((C.upR (a := 3) (j := R 0 4) (v := x) (by unfold Tm; omega)).up0 (j := 4) (by decide) (by decide))
theorem f_aUns (C : CS G c0 c b tx e p R) (B : BD R) (hlt : R 0 5 ≤ 2) (x y : Int) (hP : ∀ c', CS G c0 c' b tx e p (up (up (up R 4 (R 0 5) x) 5 (R 0 5) y) 0 5 (R 0 5 + 1)) → P0 (G, c')) : EvV (d + 1) mX9_addUnsure [mR 15 b, mI x, mI y] (G, c) P0 := by
  have hb := C.1.b0
  have hp := B.x
  have TL := C.tl B
  have e5 : c b 5 = R 0 5 := C.a0 (by decide) (by decide)
  refine ev_X9_addUnsure d _ G c b x y (by omega) ⟨by omega, ?_⟩
  rw [e5, if_pos (by omega), TL.p9, TL.g4]
  refine ⟨by omega, by omega, ⟨by omega, by omega, by omega⟩, ?_⟩
  rintro _ rfl
  simp only [up_na (show b ≠ b + 4 by omega), TL.p10, TL.g5, e5]
  refine ⟨by omega, by omega, ⟨by omega, by omega, by omega⟩, ?_⟩
  rintro _ rfl
  simp only [up_na (show b ≠ b + 4 by omega), up_na (show b ≠ b + 5 by omega), e5, w32i (show -2147483648 ≤ R 0 5 + 1 by omega) (show R 0 5 + 1 < 2147483648 by omega)]
  refine ⟨by omega, by omega, ?_⟩
  rintro _ rfl
  exact hP _ (((C.upR (a := 4) (j := R 0 5) (v := x) (by unfold Tm; omega)).upR (a := 5) (j := R 0 5) (v := y) (by unfold Tm; omega)).up0 (j := 5) (by decide) (by decide))
theorem f_tube (C : CS G c0 c b tx e p R) (hP : ∀ v c', CR G c0 b tx e (tubeF tx e p R) v c' → P v (G, c')) : EvI (d + 4) mX5_takeTube [mR 12 19] (G, c) P := by
  have hb := C.1.b0
  refine ev_X5_takeTube (d + 3) _ G c 19 (by decide) ?_
  unfold tubeF at hP
  refine f_this d _ C (by decide) (by decide) (fun h1 c1 C1 => ?_) (fun h1 c1 F1 => ?_)
  · rw [if_pos h1] at hP
    rw [if_neg (by decide)]
    refine f_takeBtw d _ C1 2 9 (fun h2 c2 C2 => ?_) (fun h2 c2 F2 => ?_)
    · rw [if_pos h2] at hP
      have v2 := btw_0 h2
      rw [if_neg (by omega)]
      refine f_this d _ C2 (by decide) (by decide) (fun h3 c3 C3 => ?_) (fun h3 c3 F3 => ?_)
      · rw [if_pos h3] at hP
        rw [if_neg (by decide)]
        refine f_takeBtw d _ C3 2 6 (fun h4 c4 C4 => ?_) (fun h4 c4 F4 => ?_)
        · rw [if_pos h4] at hP
          have v4 := btw_0 h4
          rw [if_neg (by omega)]
          refine f_this d _ C4 (by decide) (by decide) (fun h5 c5 C5 => ?_) (fun h5 c5 F5 => ?_)
          · rw [if_pos h5] at hP
            rw [if_neg (by decide)]
            refine f_takeBtw d _ C5 0 100 (fun h6 c6 C6 => ?_) (fun h6 c6 F6 => ?_)
            · rw [if_pos h6] at hP
              have v6 := btw_0 h6
              rw [if_neg (by omega)]
              dsimp only
              rw [C6.1.2.2.1]
              refine ⟨by decide, by omega, ?_⟩
              rintro _ rfl
              rw [up_na (by omega), C6.1.2.2.1]
              refine ⟨by decide, by omega, ?_⟩
              rintro _ rfl
              rw [up_na (by omega), up_na (by omega), C6.1.2.2.1]
              refine ⟨by decide, by omega, ?_⟩
              rintro _ rfl
              refine ⟨⟨by decide, by decide⟩, hP 1 _ ⟨rfl, ?_⟩⟩
              exact ((C6.up0 (by decide) (by decide)).up0 (by decide) (by decide)).up0 (by decide) (by decide)
            · rw [if_neg h6] at hP
              rw [if_pos rfl]
              exact ⟨⟨by decide, by decide⟩, hP 0 _ ⟨rfl, F6⟩⟩
          · rw [if_neg h5] at hP
            rw [if_pos rfl]
            exact ⟨⟨by decide, by decide⟩, hP 0 _ ⟨rfl, F5⟩⟩
        · rw [if_neg h4] at hP
          rw [if_pos rfl]
          exact ⟨⟨by decide, by decide⟩, hP 0 _ ⟨rfl, F4⟩⟩
      · rw [if_neg h3] at hP
        rw [if_pos rfl]
        exact ⟨⟨by decide, by decide⟩, hP 0 _ ⟨rfl, F3⟩⟩
    · rw [if_neg h2] at hP
      rw [if_pos rfl]
      exact ⟨⟨by decide, by decide⟩, hP 0 _ ⟨rfl, F2⟩⟩
  · rw [if_neg h1] at hP
    rw [if_pos rfl]
    exact ⟨⟨by decide, by decide⟩, hP 0 _ ⟨rfl, F1⟩⟩
theorem l_p56 {p0 vv : Int} (C : CS G c0 c b tx e p (nmU R vv (R 0 3))) (B : BD R) (hp6 : R 0 3 ≤ 5) (s0 : Int) (hP : ∀ v c', CR G c0 b tx e (if s0 = -1 then bad 1 p else if isw tx e 14 (nx tx e p) then (if btw tx e (nx tx e (nx tx e p)) 0 (R 0 1 - 1) = 0 then (if hmF R (va tx e (nx tx e (nx tx e p))) = 0 then okR (nx tx e (nx tx e (nx tx e p))) (up (up (up (nmU R vv (R 0 3)) 1 (R 0 3) s0) 2 (R 0 3) (va tx e (nx tx e (nx tx e p)))) 0 3 (R 0 3 + 1)) else bad 3 (nx tx e (nx tx e p))) else bad (btw tx e (nx tx e (nx tx e p)) 0 (R 0 1 - 1)) (nx tx e (nx tx e p))) else bad 1 (nx tx e p)) v c' → P v (G, c')) : At (d + 4) mX5_takePerson 56 [mR 12 19, MU] [mI s0] (G, c) (QI P) := by
  have hb := C.1.b0
  have Bn := B.nm vv (R 0 3)
  have hsl := B.sl
  have hp := B.p
  apply wp_X5_takePerson_56
  by_cases h0 : s0 = -1
  · rw [if_pos h0] at hP ⊢
    exact f_fail (d + 2) _ C 1 (fun c' F => ⟨⟨by decide, by decide⟩, hP 0 _ ⟨rfl, F⟩⟩)
  · rw [if_neg h0] at hP ⊢
    refine f_cstep (d + 1) _ C (fun c1 C1 => ?_)
    refine f_this d _ C1 (by decide) (by decide) (fun h3 c3 C3 => ?_) (fun h3 c3 F3 => ?_)
    · rw [if_pos h3] at hP
      rw [if_neg (by decide)]
      dsimp only
      rw [C3.1.2.2.1, C3.a0 (j := 1) (by decide) (by decide), nmU_o (by decide), w32i (show -2147483648 ≤ R 0 1 - 1 by omega) (by omega)]
      refine ⟨by decide, by omega, ?_⟩
      refine f_isBtw (d + 1) _ C3 0 (R 0 1 - 1) (fun h4 => ?_) (fun h4 c4 F4 => ?_)
      · rw [if_pos h4] at hP
        have v4 := btw_0 h4
        rw [if_neg (by decide)]
        dsimp only
        rw [C3.1.2.2.1, C3.w7 v4.1, q_isHome _ _ _ _ b _ (C3.tl Bn)]
        have eh : fi (fun i => decide (c3 (b + 2) i = va tx e (nx tx e (nx tx e p)))) (fun _ => (1 : Int)) 0 (c3 b 3).toNat 0 = hmF R (va tx e (nx tx e (nx tx e p))) := by
          unfold hmF
          rw [C3.a0 (by decide) (by decide), nmU_o (by decide)]
          congr 1
          funext i
          rw [C3.at (by unfold Tm; omega), nmU_o (by decide)]
        rw [eh]
        refine ⟨by decide, by decide, ?_⟩
        by_cases h5 : hmF R (va tx e (nx tx e (nx tx e p))) = 0
        · rw [if_pos h5] at hP
          rw [if_pos h5]
          dsimp only
          have e03 : nmU R vv (R 0 3) 0 3 = R 0 3 := nmU_o (by decide)
          rw [C3.1.2.2.1, C3.w7 v4.1]
          refine ⟨by decide, by decide, ?_⟩
          refine f_aPers (d + 2) _ C3 Bn (by rw [e03]; omega) _ _ (fun c5 C5 => ?_)
          rw [e03] at C5
          exact f_cstep (d + 1) _ C5 (fun c' C' => ⟨⟨by decide, by decide⟩, hP 1 _ ⟨rfl, C'⟩⟩)
        · rw [if_neg h5] at hP
          rw [if_neg h5]
          exact f_fail (d + 2) _ C3 3 (fun c' F => ⟨⟨by decide, by decide⟩, hP 0 _ ⟨rfl, F⟩⟩)
      · rw [if_neg h4] at hP
        rw [if_pos rfl]
        exact ⟨⟨by decide, by decide⟩, hP 0 _ ⟨rfl, F4⟩⟩
    · rw [if_neg h3] at hP
      rw [if_pos rfl]
      exact ⟨⟨by decide, by decide⟩, hP 0 _ ⟨rfl, F3⟩⟩
theorem f_person (C : CS G c0 c b tx e p R) (W : WF R) (hp6 : R 0 3 ≤ 5) (hP : ∀ v c', CR G c0 b tx e (persF tx e p R) v c' → P v (G, c')) : EvI (d + 4) mX5_takePerson [mR 12 19] (G, c) P := by
  have hb := C.1.b0
  have hn := W.n; have hp := W.p; have ht := W.t
  refine ev_X5_takePerson (d + 3) _ G c 19 (by decide) ?_
  rw [C.1.2.2.1, C.a0 (by decide) (by decide)]
  refine ⟨by decide, by omega, ?_⟩
  unfold persF at hP
  refine f_newName d _ C (by omega) _ (fun h1 c1 C1 => ?_) (fun h1 c1 F1 => ?_)
  · rw [if_pos h1] at hP
    rw [if_neg (by decide)]
    dsimp only
    have key := fun s0 (hs : s0 = colF tx e (nx tx e p)) => l_p56 (p0 := p) d P C1 W.bd hp6 s0 (by rw [hs]; exact hP)
    unfold colF at key
    rw [q_cw _ _ C1 (by decide) (by decide)]
    by_cases h11 : isw tx e 11 (nx tx e p)
    · simp only [if_pos h11]
      rw [if_neg (by decide)]
      exact key 0 (by rw [if_pos h11])
    · simp only [if_neg h11, ↓reduceIte]
      rw [q_cw _ _ C1 (by decide) (by decide)]
      by_cases h12 : isw tx e 12 (nx tx e p)
      · simp only [if_pos h12]
        rw [if_neg (by decide)]
        exact key 1 (by rw [if_neg h11, if_pos h12])
      · simp only [if_neg h12, ↓reduceIte]
        rw [q_cw _ _ C1 (by decide) (by decide)]
        by_cases h13 : isw tx e 13 (nx tx e p)
        · simp only [if_pos h13]
          rw [if_neg (by decide)]
          exact key 2 (by rw [if_neg h11, if_neg h12, if_pos h13])
        · simp only [if_neg h13, ↓reduceIte]
          exact key (-1) (by rw [if_neg h11, if_neg h12, if_neg h13])
  · rw [if_neg h1] at hP
    rw [if_pos rfl]
    exact ⟨⟨by decide, by decide⟩, hP 0 _ ⟨rfl, F1⟩⟩
theorem l_tt (B : BD R) (ht3 : R 0 4 ≤ 2) : ∀ (j : Nat) (k p ch us : Int) (c : MC), 0 ≤ k → k + j = R 0 1 → CS G c0 c b tx e p R → (∀ v c', CR G c0 b tx e (slsF tx e (R 0 1) R j p k ch us) v c' → P v (G, c')) → At (d + 4) mX5_takeTurn 16 [mR 12 19, mI ch, mI us, mI k, MU] [] (G, c) (QI P) := by
  have hsl := B.sl
  have ht := B.t
  intro j
  induction j with
  | zero =>
    intro k p ch us c k0 hk C hP
    have hb := C.1.b0
    simp only [slsF] at hP
    apply wp_X5_takeTurn_16
    simp only [C.1.2.2.1, C.a0 (j := 1) (by decide) (by decide)]
    rw [if_neg (by omega)]
    refine ⟨by decide, by omega, by decide, ?_⟩
    exact f_aTurn (d + 2) _ C B ht3 ch (fun c' C' => ⟨⟨by decide, by decide⟩, hP 1 _ ⟨rfl, C'⟩⟩)
  | succ j ih =>
    intro k p ch us c k0 hk C hP
    have hb := C.1.b0
    simp only [slsF] at hP
    apply wp_X5_takeTurn_16
    simp only [C.1.2.2.1, C.a0 (j := 1) (by decide) (by decide), w32i (show -2147483648 ≤ R 0 1 - 1 by omega) (show R 0 1 - 1 < 2147483648 by omega), w32i (show -2147483648 ≤ k + 1 by omega) (show k + 1 < 2147483648 by omega)]
    rw [if_pos (by omega)]
    refine ⟨by decide, by omega, by decide, by omega, ?_⟩
    refine f_isBtw (d + 1) _ C 0 (R 0 1 - 1) (fun h4 => ?_) (fun h4 c4 F4 => ?_)
    · rw [if_pos h4] at hP
      have v4 := btw_0 h4
      rw [if_neg (by decide)]
      dsimp only
      rw [C.w7 v4.1]
      refine ⟨by decide, ?_⟩
      by_cases h5 : o_and (o_shr us (va tx e p)) 1 = 1
      · rw [if_pos h5] at hP ⊢
        exact f_fail (d + 2) _ C 3 (fun c' F => ⟨⟨by decide, by decide⟩, hP 0 _ ⟨rfl, F⟩⟩)
      · rw [if_neg h5] at hP ⊢
        rw [q_X7_with]
        exact f_cstep (d + 1) _ C (fun c' C' => ih _ _ _ _ _ (by omega) (by omega) C' hP)
    · rw [if_neg h4] at hP
      rw [if_pos rfl]
      exact ⟨⟨by decide, by decide⟩, hP 0 _ ⟨rfl, F4⟩⟩
theorem f_turn (C : CS G c0 c b tx e p R) (W : WF R) (ht3 : R 0 4 ≤ 2) (hP : ∀ v c', CR G c0 b tx e (turnF tx e p R) v c' → P v (G, c')) : EvI (d + 4) mX5_takeTurn [mR 12 19] (G, c) P := by
  have hn := W.n; have hp := W.p; have ht := W.t; have hsl := W.bd.sl
  refine ev_X5_takeTurn (d + 3) _ G c 19 (by decide) ?_
  unfold turnF at hP
  refine f_newName d _ C (by omega) _ (fun h1 c1 C1 => ?_) (fun h1 c1 F1 => ?_)
  · rw [if_pos h1] at hP
    rw [if_neg (by decide)]
    have r : ∀ j, nmU R (va tx e p) (-1) 0 j = R 0 j := fun j => nmU_o (by decide)
    refine l_tt d P (W.bd.nm _ _) (by rw [r]; exact ht3) (R 0 1).toNat 0 _ 0 0 _ (by decide) (by rw [r]; omega) C1 ?_
    rw [r]
    exact hP
  · rw [if_neg h1] at hP
    rw [if_pos rfl]
    exact ⟨⟨by decide, by decide⟩, hP 0 _ ⟨rfl, F1⟩⟩
theorem CS.ptn (C : CS G c0 c b tx e p R) (x : Int) : ptn c (b + 6) x = CStreetTubeLaw_law_r8614_698fbe.ptn R 6 x := by
  unfold CStreetTubeLaw_law_r8614_698fbe.ptn
  rw [C.at (by unfold Tm; omega)]
  apply fo_congr
  intro k s _ _
  rw [Int.add_assoc, Int.add_assoc, C.at (by unfold Tm; omega), C.at (by unfold Tm; omega)]
theorem f_quarrel (C : CS G c0 c b tx e p R) (W : WF R) (hq6 : R 6 3 ≤ 5) (hP : ∀ v c', CR G c0 b tx e (quarF tx e p R) v c' → P v (G, c')) : EvI (d + 4) mX5_takeQuarrel [mR 12 19] (G, c) P := by
  have hb := C.1.b0
  refine ev_X5_takeQuarrel (d + 3) _ G c 19 (by decide) ?_
  unfold quarF at hP
  refine f_tpers d _ C W (fun h1 r1 c1 C1 => ?_) (fun h1 c1 F1 => ?_)
  · rw [if_pos h1] at hP
    rw [if_neg (by omega)]
    refine f_pers (d + 1) _ C1 W (fun h2 r2 => ?_) (fun h2 c2 F2 => ?_)
    · rw [if_pos h2] at hP
      rw [if_neg (by omega)]
      by_cases h3 : pxF tx e (nx tx e p) R = pxF tx e p R
      · rw [if_pos h3] at hP ⊢
        exact f_fail (d + 2) _ C1 3 (fun c' F => ⟨⟨by decide, by decide⟩, hP 0 _ ⟨rfl, F⟩⟩)
      · rw [if_neg h3] at hP ⊢
        have TL := C1.tl W.bd
        dsimp only
        simp only [C1.1.2.2.1, TL.p11]
        rw [q_partners _ _ _ _ (b + 6) 6 _ TL.q, C1.ptn]
        refine ⟨by decide, by omega, ?_⟩
        by_cases h4 : o_and (o_shr (ptn R 6 (pxF tx e p R)) (pxF tx e (nx tx e p) R)) 1 = 1
        · rw [if_pos h4] at hP ⊢
          exact f_fail (d + 2) _ C1 3 (fun c' F => ⟨⟨by decide, by decide⟩, hP 0 _ ⟨rfl, F⟩⟩)
        · rw [if_neg h4] at hP ⊢
          simp only [C1.1.2.2.1, TL.p11]
          refine ⟨by decide, by omega, ?_⟩
          refine f_add (d + 1) _ C1 6 6 _ _ 1 (by omega) TL.q (by omega) (by decide) (fun c2 C2 => ?_)
          exact f_cstep (d + 1) _ C2 (fun c' C' => ⟨⟨by decide, by decide⟩, hP 1 _ ⟨rfl, C'⟩⟩)
    · rw [if_neg h2] at hP
      rw [if_pos rfl]
      exact ⟨⟨by decide, by decide⟩, hP 0 _ ⟨rfl, F2⟩⟩
  · rw [if_neg h1] at hP
    rw [if_pos rfl]
    exact ⟨⟨by decide, by decide⟩, hP 0 _ ⟨rfl, F1⟩⟩
theorem f_wish (C : CS G c0 c b tx e p R) (W : WF R) (hq6 : R 10 3 ≤ 3) (f : Int) (hf : 0 ≤ f ∧ f ≤ 1) (hP : ∀ v c', CR G c0 b tx e (wishF tx e f p R) v c' → P v (G, c')) : EvI (d + 4) mX5_takeWish [mR 12 19, mI f] (G, c) P := by
  have hb := C.1.b0
  refine ev_X5_takeWish (d + 3) _ G c 19 f (by decide) ?_
  unfold wishF at hP
  refine f_tpers d _ C W (fun h1 r1 c1 C1 => ?_) (fun h1 c1 F1 => ?_)
  · rw [if_pos h1] at hP
    rw [if_neg (by omega)]
    refine f_other d _ C1 W _ (fun h2 r2 h3 c2 C2 => ?_) (fun h2 h3 c2 F2 => ?_) (fun h2 c2 F2 => ?_)
    · rw [if_pos h2, if_neg h3] at hP
      rw [if_neg (by omega)]
      have TL := C2.tl W.bd
      dsimp only
      simp only [C2.1.2.2.1, TL.p12]
      refine ⟨by decide, by omega, ?_⟩
      exact f_add (d + 1) _ C2 10 4 _ _ f (by omega) TL.w (by omega) hf (fun c3 C3 => ⟨⟨by decide, by decide⟩, hP 1 _ ⟨rfl, C3⟩⟩)
    · rw [if_pos h2, if_pos h3] at hP
      rw [if_pos rfl]
      exact ⟨⟨by decide, by decide⟩, hP 0 _ ⟨rfl, F2⟩⟩
    · rw [if_neg h2] at hP
      rw [if_pos rfl]
      exact ⟨⟨by decide, by decide⟩, hP 0 _ ⟨rfl, F2⟩⟩
  · rw [if_neg h1] at hP
    rw [if_pos rfl, if_pos rfl]
    exact ⟨⟨by decide, by decide⟩, hP 0 _ ⟨rfl, F1⟩⟩
theorem f_unsure (C : CS G c0 c b tx e p R) (W : WF R) (hq6 : R 0 5 ≤ 2) (hP : ∀ v c', CR G c0 b tx e (unsF tx e p R) v c' → P v (G, c')) : EvI (d + 4) mX5_takeUnsure [mR 12 19] (G, c) P := by
  have hb := C.1.b0
  have hsl := W.bd.sl
  have hx := W.x
  refine ev_X5_takeUnsure (d + 3) _ G c 19 (by decide) ?_
  unfold unsF at hP
  refine f_pers (d + 1) _ C W (fun h1 r1 => ?_) (fun h1 c1 F1 => ?_)
  · rw [if_pos h1] at hP
    rw [if_neg (by omega)]
    dsimp only
    rw [C.1.2.2.1, q_isUnsure _ _ _ _ b _ (C.tl W.bd)]
    have eh : fi (fun i => decide (c (b + 4) i = pxF tx e p R)) (fun _ => (1 : Int)) 0 (c b 5).toNat 0 = usF R (pxF tx e p R) := by
      unfold usF
      rw [C.a0 (by decide) (by decide)]
      congr 1
      funext i
      rw [C.at (by unfold Tm; omega)]
    rw [eh]
    refine ⟨by decide, ?_⟩
    by_cases h2 : usF R (pxF tx e p R) = 0
    · rw [if_pos h2] at hP ⊢
      refine f_cstep (d + 1) _ C (fun c1 C1 => ?_)
      dsimp only
      rw [C1.1.2.2.1, C1.a0 (j := 1) (by decide) (by decide), w32i (show -2147483648 ≤ R 0 1 - 1 by omega) (by omega)]
      refine ⟨by decide, by omega, ?_⟩
      refine f_takeBtw d _ C1 0 (R 0 1 - 1) (fun h3 c3 C3 => ?_) (fun h3 c3 F3 => ?_)
      · rw [if_pos h3] at hP
        have v3 := btw_0 h3
        rw [if_neg (by omega)]
        dsimp only
        rw [C3.1.2.2.1]
        refine ⟨by decide, ?_⟩
        exact f_aUns (d + 2) _ C3 W.bd hq6 _ _ (fun c' C' => ⟨⟨by decide, by decide⟩, hP 1 _ ⟨rfl, C'⟩⟩)
      · rw [if_neg h3] at hP
        rw [if_pos rfl]
        exact ⟨⟨by decide, by decide⟩, hP 0 _ ⟨rfl, F3⟩⟩
    · rw [if_neg h2] at hP ⊢
      exact f_fail (d + 2) _ C 3 (fun c' F => ⟨⟨by decide, by decide⟩, hP 0 _ ⟨rfl, F⟩⟩)
  · rw [if_neg h1] at hP
    rw [if_pos rfl]
    exact ⟨⟨by decide, by decide⟩, hP 0 _ ⟨rfl, F1⟩⟩
theorem f_seen (C : CS G c0 c b tx e p R) (W : WF R) (hq6 : R 14 3 ≤ 4) (hP : ∀ v c', CR G c0 b tx e (seenF tx e p R) v c' → P v (G, c')) : EvI (d + 4) mX5_takeSeen [mR 12 19] (G, c) P := by
  have hb := C.1.b0
  refine ev_X5_takeSeen (d + 3) _ G c 19 (by decide) ?_
  unfold seenF at hP
  refine f_tpers d _ C W (fun h1 r1 c1 C1 => ?_) (fun h1 c1 F1 => ?_)
  · rw [if_pos h1] at hP
    rw [if_neg (by omega)]
    refine f_other d _ C1 W _ (fun h2 r2 h3 c2 C2 => ?_) (fun h2 h3 c2 F2 => ?_) (fun h2 c2 F2 => ?_)
    · rw [if_pos h2, if_neg h3] at hP
      apply wp_X5_takeSeen_19
      rw [if_neg (by omega), q_cw _ _ C2 (by decide) (by decide)]
      have TL := C2.tl W.bd
      by_cases h4 : isw tx e 15 (nx tx e (nx tx e p))
      · rw [if_pos h4] at hP
        simp only [if_pos h4]
        rw [if_neg (by decide)]
        simp only [C2.1.2.2.1, TL.p13]
        refine ⟨by decide, by omega, ?_⟩
        refine f_add (d + 1) _ C2 14 5 _ _ 1 (by omega) TL.s (by omega) (by decide) (fun c3 C3 => ?_)
        exact f_cstep (d + 1) _ C3 (fun c' C' => ⟨⟨by decide, by decide⟩, hP 1 _ ⟨rfl, C'⟩⟩)
      · rw [if_neg h4] at hP
        simp only [if_neg h4, ↓reduceIte]
        rw [q_cw _ _ C2 (by decide) (by decide)]
        by_cases h5 : isw tx e 16 (nx tx e (nx tx e p))
        · rw [if_pos h5] at hP
          simp only [if_pos h5]
          rw [if_neg (by decide)]
          simp only [C2.1.2.2.1, TL.p13]
          refine ⟨by decide, by omega, ?_⟩
          refine f_add (d + 1) _ C2 14 5 _ _ 0 (by omega) TL.s (by omega) (by decide) (fun c3 C3 => ?_)
          exact f_cstep (d + 1) _ C3 (fun c' C' => ⟨⟨by decide, by decide⟩, hP 1 _ ⟨rfl, C'⟩⟩)
        · rw [if_neg h5] at hP
          simp only [if_neg h5, ↓reduceIte]
          exact f_fail (d + 2) _ C2 1 (fun c' F => ⟨⟨by decide, by decide⟩, hP 0 _ ⟨rfl, F⟩⟩)
    · rw [if_pos h2, if_pos h3] at hP
      apply wp_X5_takeSeen_19
      rw [if_pos rfl]
      exact ⟨⟨by decide, by decide⟩, hP 0 _ ⟨rfl, F2⟩⟩
    · rw [if_neg h2] at hP
      apply wp_X5_takeSeen_19
      rw [if_pos rfl]
      exact ⟨⟨by decide, by decide⟩, hP 0 _ ⟨rfl, F2⟩⟩
  · rw [if_neg h1] at hP
    rw [if_pos rfl]
    apply wp_X5_takeSeen_19
    rw [if_pos rfl]
    exact ⟨⟨by decide, by decide⟩, hP 0 _ ⟨rfl, F1⟩⟩
end
