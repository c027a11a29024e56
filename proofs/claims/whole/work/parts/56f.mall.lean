/-! the reference reads all lines -/
section
variable (d : Nat) (P : Int → MM → Prop) (P0 : MM → Prop) {G : MG} {c0 c R : MC} {T e p f pl : Int} {tx : Int → Int}
theorem r_wish (M : MS G c0 c T tx e p R) (W : WF R) (s : Int) (b : Int) (hb : (s = 0 ∧ b = 1) ∨ (s = 1 ∧ b = 0)) (hP : ∀ c', ME G c0 T tx e (if R 0 1 = 0 then bad 6 p else if 4 ≤ R 10 3 then bad 5 p else wishF tx e b (nx tx e p) R) c' → P0 (G, c')) : EvV (d + 6) mX12_readWish [mR 18 62, mI s] (G, c) P0 := by
  have hT := M.1.2.1.n
  have wa := W.a; have hq := W.w; have hp := W.p
  refine ev_X12_readWish (d + 5) _ G c 62 s (by decide) ?_
  rw [M.1.2.2.1, M.2.2.2.f6]
  refine ⟨by decide, by omega, ?_⟩
  refine m_begins (d + 2) _ M W (R 10 3) 4 (by omega) (fun q c1 M1 => ?_) (fun q q' c1 M1 => ?_) (fun q q' c1 M1 => ?_)
  · rw [if_pos q] at hP
    refine o_two (d + 2) _ M1 (fun c2 M2 => ?_)
    dsimp only
    rw [o_goes _ _ M2]
    dsimp only
    rw [if_pos M2.2.1]
    exact ⟨by decide, hP _ M2⟩
  · rw [if_neg q, if_pos (by omega)] at hP
    refine o_two (d + 2) _ M1 (fun c2 M2 => ?_)
    dsimp only
    rw [o_goes _ _ M2]
    dsimp only
    rw [if_pos M2.2.1]
    exact ⟨by decide, hP _ M2⟩
  · rw [if_neg q, if_neg (by omega)] at hP
    unfold wishF at hP
    refine m_two d _ M1 W (fun h1 h2 h3 c2 M2 e15 => ?_) (fun h1 h2 h3 c2 v hv M2 => ?_) (fun h1 h2 c2 v hv M2 => ?_) (fun h1 c2 v hv M2 => ?_)
    · rw [if_pos h1, if_pos h2, if_neg h3] at hP
      refine m_goesF (d + 3) _ M2 (fun c3 M3 F => ?_)
      have e15' : c3 62 15 = pxF tx e (nx tx e (nx tx e p)) R := by rw [F _ _ (by omega)]; exact e15
      refine ⟨by decide, ?_⟩
      rw [if_neg M3.n5]
      dsimp only
      simp only [M3.1.2.2.1, M3.1.2.1.t14, M.1.2.1.u5, M3.2.2.2.f6]
      refine ⟨by decide, by omega, by decide, by omega, ⟨by omega, by omega, by omega⟩, ?_⟩
      rintro _ rfl
      have Z1 := M3.z.uT (a := T + 5) (j := R 10 3) (v := pxF tx e (nx tx e p) R) (by omega) (by omega)
      have e15'' : up c3 (T + 5) (R 10 3) (pxF tx e (nx tx e p) R) 62 15 = pxF tx e (nx tx e (nx tx e p)) R := by rw [up_na (by omega)]; exact e15'
      simp only [Z1.1.2.2.1, Z1.1.2.1.t15, M.1.2.1.u6, up_na (show T ≠ T + 5 by omega), M3.2.2.2.f6, e15'']
      refine ⟨by decide, by omega, by decide, by omega, by decide, ⟨by omega, by omega, by omega⟩, ?_⟩
      rintro c5 hc5
      have hc5' : c5 = up (up c3 (T + 5) (R 10 3) (pxF tx e (nx tx e p) R)) (T + 6) (R 10 3) (pxF tx e (nx tx e (nx tx e p)) R) := hc5
      clear hc5
      have Z2 := Z1.uT (a := T + 6) (j := R 10 3) (v := pxF tx e (nx tx e (nx tx e p)) R) (by omega) (by omega)
      rw [← hc5'] at Z2
      have eT : ∀ j, c5 T j = c3 T j := fun j => by rw [hc5', up_na (by omega), up_na (by omega)]
      rcases hb with ⟨rfl, rfl⟩ | ⟨rfl, rfl⟩
      · rw [if_pos rfl, Z2.1.2.2.1, eT, M3.2.2.2.f6, w32i (by omega) (by omega)]
        refine ⟨by decide, by omega, by omega, ?_⟩
        rintro _ rfl
        have Z3 := Z2.uT (a := T) (j := 6) (v := R 10 3 + 1) (by omega) (by omega)
        refine hP _ (Z3.s ?_)
        have h := rt_wish (x := pxF tx e (nx tx e p) R) (y := pxF tx e (nx tx e (nx tx e p)) R) M3.2.2.2 W (by omega) (Or.inl ⟨rfl, rfl⟩)
        rw [← hc5'] at h
        refine h.fr (fun a j x y => ?_)
        unfold up
        by_cases z : a = T ∧ j = 6
        · rw [if_pos z, if_pos z]
        · rw [if_neg z, if_neg z]
          by_cases z' : a = T ∧ j = 16
          · rw [if_pos z', z'.1, z'.2, eT]
          · rw [if_neg z']
      · rw [if_neg (by decide), Z2.1.2.2.1, eT, eT, M3.2.2.2.f6]
        refine ⟨by decide, by omega, by decide, by omega, by omega, ?_⟩
        rintro _ rfl
        have Z3 := Z2.uT (a := T) (j := 16) (v := o_or (c3 T 16) (o_shl 1 (R 10 3))) (by omega) (by omega)
        rw [Z3.1.2.2.1, up_nj (show (6 : Int) ≠ 16 by decide), eT, M3.2.2.2.f6, w32i (by omega) (by omega)]
        refine ⟨by decide, by omega, by omega, ?_⟩
        rintro _ rfl
        have Z4 := Z3.uT (a := T) (j := 6) (v := R 10 3 + 1) (by omega) (by omega)
        refine hP _ (Z4.s ?_)
        have h := rt_wish (x := pxF tx e (nx tx e p) R) (y := pxF tx e (nx tx e (nx tx e p)) R) M3.2.2.2 W (by omega) (Or.inr ⟨rfl, rfl⟩)
        rw [← hc5'] at h
        exact h
    · rw [if_pos h1, if_pos h2, if_pos h3] at hP
      dsimp only
      rw [o_goes _ _ M2]
      dsimp only
      rw [if_pos M2.2.1]
      exact ⟨by decide, hP _ M2⟩
    · rw [if_pos h1, if_neg h2] at hP
      dsimp only
      rw [o_goes _ _ M2]
      dsimp only
      rw [if_pos M2.2.1]
      exact ⟨by decide, hP _ M2⟩
    · rw [if_neg h1] at hP
      dsimp only
      rw [o_goes _ _ M2]
      dsimp only
      rw [if_pos M2.2.1]
      exact ⟨by decide, hP _ M2⟩
theorem lo_u41 (M : MO G c0 c T tx e f pl) (v : Int) (hP : P0 (G, c)) : At (d + 6) mX12_readUnsure 41 [mR 18 62, mI v, MU] [] (G, c) (QV P0) := by
  have hT := M.1.2.1.n
  apply wp_X12_readUnsure_41
  rw [o_goes _ _ M]
  dsimp only
  rw [M.1.2.2.1, o_whole _ _ M]
  dsimp only
  rw [o_goes _ _ M]
  dsimp only
  rw [if_pos M.2.1]
  exact ⟨by decide, by omega, by decide, hP⟩
theorem r_unsure (M : MS G c0 c T tx e p R) (W : WF R) (hP : ∀ c', ME G c0 T tx e (if R 0 1 = 0 then bad 6 p else if 3 ≤ R 0 5 then bad 5 p else unsF tx e (nx tx e p) R) c' → P0 (G, c')) : EvV (d + 6) mX12_readUnsure [mR 18 62] (G, c) P0 := by
  have hT := M.1.2.1.n
  have wa := W.a; have hq := W.x; have hp := W.p; have hsl := W.bd.sl
  refine ev_X12_readUnsure (d + 5) _ G c 62 (by decide) ?_
  rw [M.1.2.2.1, M.2.2.2.f7]
  refine ⟨by decide, by omega, ?_⟩
  refine m_begins (d + 2) _ M W (R 0 5) 3 (by omega) (fun q c1 M1 => ?_) (fun q q' c1 M1 => ?_) (fun q q' c1 M1 => ?_)
  · rw [if_pos q] at hP
    refine o_person (d + 3) _ M1 ?_
    refine ⟨by decide, ?_⟩
    rw [if_pos M1.2.1]
    exact lo_u41 d P0 M1 _ (hP _ M1)
  · rw [if_neg q, if_pos (by omega)] at hP
    refine o_person (d + 3) _ M1 ?_
    refine ⟨by decide, ?_⟩
    rw [if_pos M1.2.1]
    exact lo_u41 d P0 M1 _ (hP _ M1)
  · rw [if_neg q, if_neg (by omega)] at hP
    unfold unsF at hP
    refine m_person (d + 1) _ M1 W (fun h1 => ?_) (fun h1 c2 M2 => ?_)
    · rw [if_pos h1] at hP
      have x1 := (px_rg W h1).1
      refine ⟨by decide, ?_⟩
      rw [if_neg M1.n5]
      dsimp only
      rw [M1.1.2.2.1, q_muns _ _ M1 W]
      refine ⟨by decide, ?_⟩
      by_cases h2 : usF R (pxF tx e (nx tx e p) R) = 0
      · rw [if_pos h2] at hP ⊢
        apply wp_X12_readUnsure_41
        refine m_goes (d + 3) _ M1 (fun c2 M2 => ?_)
        dsimp only
        rw [M2.1.2.2.1, M2.2.2.2.f1, w32i (show -2147483648 ≤ R 0 1 - 1 by omega) (by omega)]
        refine ⟨by decide, by omega, ?_⟩
        refine m_whole (d + 3) _ M2 W 0 (R 0 1 - 1) (fun h4 => ?_) (fun h4 c4 M4 => ?_)
        · rw [if_pos h4] at hP
          refine m_goes (d + 3) _ M2 (fun c3 M3 => ?_)
          refine ⟨by decide, ?_⟩
          rw [if_neg M3.n5]
          dsimp only
          simp only [M3.1.2.2.1, M3.1.2.1.t18, M.1.2.1.u7, M3.2.2.2.f7]
          refine ⟨by decide, by omega, by decide, by omega, ⟨by omega, by omega, by omega⟩, ?_⟩
          rintro _ rfl
          have Z1 := M3.z.uT (a := T + 7) (j := R 0 5) (v := pxF tx e (nx tx e p) R) (by omega) (by omega)
          simp only [Z1.1.2.2.1, Z1.1.2.1.t19, M.1.2.1.u8, up_na (show T ≠ T + 7 by omega), M3.2.2.2.f7]
          refine ⟨by decide, by omega, by decide, by omega, ⟨by omega, by omega, by omega⟩, ?_⟩
          rintro _ rfl
          have Z2 := Z1.uT (a := T + 8) (j := R 0 5) (v := va tx e (nx tx e (nx tx e p))) (by omega) (by omega)
          rw [Z2.1.2.2.1, up_na (show T ≠ T + 8 by omega), up_na (show T ≠ T + 7 by omega), M3.2.2.2.f7, w32i (by omega) (by omega)]
          refine ⟨by decide, by omega, by omega, ?_⟩
          rintro _ rfl
          have Z3 := Z2.uT (a := T) (j := 7) (v := R 0 5 + 1) (by omega) (by omega)
          exact hP _ (Z3.s (rt_uns M3.2.2.2 W))
        · rw [if_neg h4] at hP
          dsimp only
          rw [o_goes _ _ M4]
          dsimp only
          rw [if_pos M4.2.1]
          exact ⟨by decide, hP _ M4⟩
      · rw [if_neg h2] at hP ⊢
        exact m_flaw (d + 4) _ M1 W 3 (fun c' M' => lo_u41 d P0 M' _ (hP _ M'))
    · rw [if_neg h1] at hP
      refine ⟨by decide, ?_⟩
      rw [if_pos M2.2.1]
      exact lo_u41 d P0 M2 _ (hP _ M2)
theorem lo_s48 (M : MO G c0 c T tx e f pl) (v s : Int) (hP : P0 (G, c)) : At (d + 6) mX12_readSeen 48 [mR 18 62, mI v, mI s] [] (G, c) (QV P0) := by
  apply wp_X12_readSeen_48
  rw [o_goes _ _ M]
  dsimp only
  rw [if_pos M.2.1]
  exact ⟨by decide, hP⟩
theorem lo_seen (M : MO G c0 c T tx e f pl) (v : Int) (hP : P0 (G, c)) : EvV (d + 5) mX12_goesOn [mR 18 62] (G, c) (fun ν3 => EvI (d + 5) mX12_isWord [mR 18 62, mR 2 15] (ν3.1, ν3.2) (fun r4 ν4 => (if r4 = 0 then EvI (d + 5) mX12_isWord [mR 18 62, mR 2 16] (ν4.1, ν4.2) (fun r5 ν5 => (if r5 = 0 then EvV (d + 5) mX12_flaw [mR 18 62, mI 1] (ν5.1, ν5.2) (fun ν6 => At (d + 5 + 1) mX12_readSeen 48 [mR 18 62, mI v, mI r4] [] (ν6.1, ν6.2) (QV P0)) else At (d + 5 + 1) mX12_readSeen 48 [mR 18 62, mI v, mI r4] [] (ν5.1, ν5.2) (QV P0))) else At (d + 5 + 1) mX12_readSeen 48 [mR 18 62, mI v, mI r4] [] (ν4.1, ν4.2) (QV P0)))) := by
  rw [o_goes _ _ M]
  dsimp only
  rw [o_isWord _ _ M, if_pos rfl]
  dsimp only
  rw [o_isWord _ _ M, if_pos rfl]
  dsimp only
  rw [o_flaw _ _ M]
  exact lo_s48 d P0 M v 0 hP
theorem m_s48 {x y : Int} (M : MS G c0 c T tx e p R) (W : WF R) (hs : R 14 3 ≤ 4) (e15 : c 62 15 = y) (s : Int) (hs01 : s = 0 ∨ s = 1) (hP : ∀ c', MS G c0 c' T tx e (nx tx e p) (addP R 14 x y s) → P0 (G, c')) : At (d + 6) mX12_readSeen 48 [mR 18 62, mI x, mI s] [] (G, c) (QV P0) := by
  have hT := M.1.2.1.n
  have hq := W.s
  apply wp_X12_readSeen_48
  refine m_goesF (d + 3) _ M (fun c3 M3 F => ?_)
  have e15' : c3 62 15 = y := by rw [F _ _ (by omega)]; exact e15
  refine ⟨by decide, ?_⟩
  rw [if_neg M3.n5]
  dsimp only
  simp only [M3.1.2.2.1, M3.1.2.1.t20, M.1.2.1.u9, M3.2.2.2.f8]
  refine ⟨by decide, by omega, by decide, by omega, ⟨by omega, by omega, by omega⟩, ?_⟩
  rintro _ rfl
  have Z1 := M3.z.uT (a := T + 9) (j := R 14 3) (v := x) (by omega) (by omega)
  have e15'' : up c3 (T + 9) (R 14 3) x 62 15 = y := by rw [up_na (by omega)]; exact e15'
  simp only [Z1.1.2.2.1, Z1.1.2.1.t21, M.1.2.1.u10, up_na (show T ≠ T + 9 by omega), M3.2.2.2.f8, e15'']
  refine ⟨by decide, by omega, by decide, by omega, by decide, ⟨by omega, by omega, by omega⟩, ?_⟩
  rintro c5 hc5
  have hc5' : c5 = up (up c3 (T + 9) (R 14 3) x) (T + 10) (R 14 3) y := hc5
  clear hc5
  have Z2 := Z1.uT (a := T + 10) (j := R 14 3) (v := y) (by omega) (by omega)
  rw [← hc5'] at Z2
  have eT : ∀ j, c5 T j = c3 T j := fun j => by rw [hc5', up_na (by omega), up_na (by omega)]
  rcases hs01 with rfl | rfl
  · rw [if_pos rfl, Z2.1.2.2.1, eT, M3.2.2.2.f8, w32i (by omega) (by omega)]
    refine ⟨by decide, by omega, by omega, ?_⟩
    rintro _ rfl
    have Z3 := Z2.uT (a := T) (j := 8) (v := R 14 3 + 1) (by omega) (by omega)
    refine hP _ (Z3.s ?_)
    have h := rt_seen (x := x) (y := y) M3.2.2.2 W (by omega) (Or.inl ⟨rfl, rfl⟩)
    rw [← hc5'] at h
    refine h.fr (fun a j _ _ => ?_)
    unfold up
    by_cases z : a = T ∧ j = 8
    · rw [if_pos z, if_pos z]
    · rw [if_neg z, if_neg z]
      by_cases z' : a = T ∧ j = 17
      · rw [if_pos z', z'.1, z'.2, eT]
      · rw [if_neg z']
  · rw [if_neg (by decide), Z2.1.2.2.1, eT, eT, M3.2.2.2.f8]
    refine ⟨by decide, by omega, by decide, by omega, by omega, ?_⟩
    rintro _ rfl
    have Z3 := Z2.uT (a := T) (j := 17) (v := o_or (c3 T 17) (o_shl 1 (R 14 3))) (by omega) (by omega)
    rw [Z3.1.2.2.1, up_nj (show (8 : Int) ≠ 17 by decide), eT, M3.2.2.2.f8, w32i (by omega) (by omega)]
    refine ⟨by decide, by omega, by omega, ?_⟩
    rintro _ rfl
    have Z4 := Z3.uT (a := T) (j := 8) (v := R 14 3 + 1) (by omega) (by omega)
    refine hP _ (Z4.s ?_)
    have h := rt_seen (x := x) (y := y) M3.2.2.2 W (by omega) (Or.inr ⟨rfl, rfl⟩)
    rw [← hc5'] at h
    exact h
theorem r_seen (M : MS G c0 c T tx e p R) (W : WF R) (hP : ∀ c', ME G c0 T tx e (if R 0 1 = 0 then bad 6 p else if 5 ≤ R 14 3 then bad 5 p else seenF tx e (nx tx e p) R) c' → P0 (G, c')) : EvV (d + 6) mX12_readSeen [mR 18 62] (G, c) P0 := by
  have hT := M.1.2.1.n
  have wa := W.a; have hq := W.s; have hp := W.p
  refine ev_X12_readSeen (d + 5) _ G c 62 (by decide) ?_
  rw [M.1.2.2.1, M.2.2.2.f8]
  refine ⟨by decide, by omega, ?_⟩
  refine m_begins (d + 2) _ M W (R 14 3) 5 (by omega) (fun q c1 M1 => ?_) (fun q q' c1 M1 => ?_) (fun q q' c1 M1 => ?_)
  · rw [if_pos q] at hP
    exact o_two (d + 2) _ M1 (fun c2 M2 => lo_seen d P0 M2 0 (hP _ M2))
  · rw [if_neg q, if_pos (by omega)] at hP
    exact o_two (d + 2) _ M1 (fun c2 M2 => lo_seen d P0 M2 0 (hP _ M2))
  · rw [if_neg q, if_neg (by omega)] at hP
    unfold seenF at hP
    refine m_two d _ M1 W (fun h1 h2 h3 c2 M2 e15 => ?_) (fun h1 h2 h3 c2 v hv M2 => ?_) (fun h1 h2 c2 v hv M2 => ?_) (fun h1 c2 v hv M2 => ?_)
    · rw [if_pos h1, if_pos h2, if_neg h3] at hP
      refine m_goesF (d + 3) _ M2 (fun c3 M3 F => ?_)
      have e15' : c3 62 15 = pxF tx e (nx tx e (nx tx e p)) R := by rw [F _ _ (by omega)]; exact e15
      dsimp only
      rw [q_mw _ _ M3 (by decide) (by decide)]
      by_cases h4 : isw tx e 15 (nx tx e (nx tx e (nx tx e p)))
      · rw [if_pos h4] at hP
        simp only [if_pos h4]
        rw [if_neg (by decide)]
        exact m_s48 d P0 M3 W (by omega) e15' 1 (Or.inr rfl) (fun c' M' => hP _ M')
      · rw [if_neg h4] at hP
        simp only [if_neg h4, ↓reduceIte]
        rw [q_mw _ _ M3 (by decide) (by decide)]
        by_cases h5 : isw tx e 16 (nx tx e (nx tx e (nx tx e p)))
        · rw [if_pos h5] at hP
          simp only [if_pos h5]
          rw [if_neg (by decide)]
          exact m_s48 d P0 M3 W (by omega) e15' 0 (Or.inl rfl) (fun c' M' => hP _ M')
        · rw [if_neg h5] at hP
          simp only [if_neg h5, ↓reduceIte]
          exact m_flaw (d + 4) _ M3 W 1 (fun c' M' => lo_s48 d P0 M' _ _ (hP _ M'))
    · rw [if_pos h1, if_pos h2, if_pos h3] at hP
      exact lo_seen d P0 M2 v (hP _ M2)
    · rw [if_pos h1, if_neg h2] at hP
      exact lo_seen d P0 M2 v (hP _ M2)
    · rw [if_neg h1] at hP
      exact lo_seen d P0 M2 v (hP _ M2)
theorem wd_inj : ∀ a b : Int, 0 ≤ a → a < 8 → 0 ≤ b → b < 8 → wd27 a = wd27 b → a = b := by
  intro a b a0 a1 b0 b1
  have key : alln 8 (fun a => alln 8 fun b => Nat.beq a b || !decide (wd27 (a : Int) = wd27 (b : Int))) = true := by decide +kernel
  obtain ⟨a, rfl⟩ := Int.eq_ofNat_of_zero_le a0
  obtain ⟨b, rfl⟩ := Int.eq_ofNat_of_zero_le b0
  intro h
  have := alln_at (alln_at key a (by omega)) b (by omega)
  simp only [Bool.or_eq_true, Bool.not_eq_true', decide_eq_false_iff_not] at this
  rcases this with q | q
  · rw [Nat.eq_of_beq_eq_true q]
  · exact absurd h q
theorem srt_iff (k : Int) (k0 : 0 ≤ k) (k1 : k < 8) : srtF tx e p = k ↔ isw tx e k p := by
  unfold srtF isw
  by_cases hk : kd tx e p = 1
  · rw [if_pos hk]
    simp only [hk, true_and]
    unfold lnK
    have e01 := fun h => wd_inj k 0 k0 k1 (by decide) (by decide) h
    have e1 := fun h => wd_inj k 1 k0 k1 (by decide) (by decide) h
    have e2 := fun h => wd_inj k 2 k0 k1 (by decide) (by decide) h
    have e3 := fun h => wd_inj k 3 k0 k1 (by decide) (by decide) h
    have e4 := fun h => wd_inj k 4 k0 k1 (by decide) (by decide) h
    have e5 := fun h => wd_inj k 5 k0 k1 (by decide) (by decide) h
    have e6 := fun h => wd_inj k 6 k0 k1 (by decide) (by decide) h
    have e7 := fun h => wd_inj k 7 k0 k1 (by decide) (by decide) h
    have hc : k = 0 ∨ k = 1 ∨ k = 2 ∨ k = 3 ∨ k = 4 ∨ k = 5 ∨ k = 6 ∨ k = 7 := by omega
    constructor
    · intro h
      repeat' split at h
      all_goals first | omega | (subst h; assumption)
    · intro h
      rw [h]
      repeat' split
      all_goals first
        | (rename_i q; have := e01 q; omega)
        | (rename_i q; have := e1 q; omega)
        | (rename_i q; have := e2 q; omega)
        | (rename_i q; have := e3 q; omega)
        | (rename_i q; have := e4 q; omega)
        | (rename_i q; have := e5 q; omega)
        | (rename_i q; have := e6 q; omega)
        | (rename_i q; have := e7 q; omega)
        | (exfalso; rcases hc with rfl | rfl | rfl | rfl | rfl | rfl | rfl | rfl <;> simp_all)
  · rw [if_neg hk]
    constructor
    · intro h; omega
    · intro h; exact absurd h.1 hk
end
