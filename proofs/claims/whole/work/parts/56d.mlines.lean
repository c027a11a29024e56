/-! the reference's lines -/
def MZ (G : MG) (c0 c : MC) (T : Int) (tx : Int → Int) (e p : Int) : Prop := MX G c0 c T tx e ∧ TN c tx e p ∧ c 62 12 = 0
section
variable {G : MG} {c0 c R : MC} {T e p : Int} {tx : Int → Int}
theorem MS.z (h : MS G c0 c T tx e p R) : MZ G c0 c T tx e p := ⟨h.1, h.2.1, h.2.2.1⟩
theorem MZ.s (h : MZ G c0 c T tx e p) (r : RT R c T) : MS G c0 c T tx e p R := ⟨h.1, h.2.1, h.2.2, r⟩
theorem MZ.uT (h : MZ G c0 c T tx e p) {a j v : Int} (ha : T ≤ a ∧ a ≤ T + 13) (hj : a = T → j < 10 ∨ j = 16 ∨ j = 17) : MZ G c0 (up c a j v) T tx e p := by
  have hT := h.1.2.1.n
  exact ⟨⟨h.1.1.kp (fun x y q => up_na (by omega)), h.1.2.1.fr (fun y _ _ _ => up_o (by omega)), by rw [up_na (by omega)]; exact h.1.2.2.1, fun x y q q' => by rw [up_na (by omega)]; exact h.1.2.2.2 x y q q'⟩, ⟨by rw [up_na (by omega)]; exact h.2.1.1, by rw [up_na (by omega)]; exact h.2.1.2.1, by rw [up_na (by omega)]; exact h.2.1.2.2.1, by rw [up_na (by omega)]; exact h.2.1.2.2.2.1, by rw [up_na (by omega)]; exact h.2.1.2.2.2.2.1, h.2.1.2.2.2.2.2⟩, by rw [up_na (by omega)]; exact h.2.2⟩
end
section
variable (d : Nat) (P : Int → MM → Prop) (P0 : MM → Prop) {G : MG} {c0 c R : MC} {T e p f pl : Int} {tx : Int → Int}
theorem m_goesF (M : MS G c0 c T tx e p R) (hP : ∀ c', MS G c0 c' T tx e (nx tx e p) R → F8 c c' → P0 (G, c')) : EvV (d + 2) mX12_goesOn [mR 18 62] (G, c) P0 := by
  have hp := M.2.1.2.2.2.2.2
  have he := en_rg (tx := tx) hp.2
  exact f_goes d P0 M.1.1 (en tx e p) (by omega) he.2 M.2.1.1 M.n5 (fun c' f t => hP c' (M.f8 f t) f)
theorem f_names (M : MZ G c0 c T tx e p) (n y s k : Int) (hn : c T 9 = n) (h0 : 0 ≤ n) (h9 : n < 9) (hP : MZ G c0 (nmC c T n y s k) T tx e p → P0 (G, nmC c T n y s k)) : EvV (d + 1) mX12_names [mR 18 62, mL y, mI s, mI k] (G, c) P0 := by
  have TT := M.1.2.1
  have hT := TT.n
  refine ev_X12_names d _ G c 62 y s k (by decide) ?_
  simp only [M.1.2.2.1, TT.t22, TT.u11, hn]
  refine ⟨by decide, by omega, by decide, by omega, ⟨by omega, h0, h9⟩, ?_⟩
  rintro _ rfl
  have M1 := M.uT (a := T + 11) (j := n) (v := y) (by omega) (by omega)
  simp only [M1.1.2.2.1, M1.1.2.1.t23, TT.u12, up_na (show T ≠ T + 11 by omega), hn]
  refine ⟨by decide, by omega, by decide, by omega, ⟨by omega, h0, h9⟩, ?_⟩
  rintro _ rfl
  have M2 := M1.uT (a := T + 12) (j := n) (v := s) (by omega) (by omega)
  simp only [M2.1.2.2.1, M2.1.2.1.t24, TT.u13, up_na (show T ≠ T + 11 by omega), up_na (show T ≠ T + 12 by omega), hn]
  refine ⟨by decide, by omega, by decide, by omega, ⟨by omega, h0, h9⟩, ?_⟩
  rintro _ rfl
  have M3 := M2.uT (a := T + 13) (j := n) (v := k) (by omega) (by omega)
  simp only [M3.1.2.2.1, up_na (show T ≠ T + 11 by omega), up_na (show T ≠ T + 12 by omega), up_na (show T ≠ T + 13 by omega), hn, w32i (show -2147483648 ≤ n + 1 by omega) (show n + 1 < 2147483648 by omega)]
  refine ⟨by decide, by omega, by omega, ?_⟩
  rintro _ rfl
  exact hP (M3.uT (a := T) (j := 9) (v := n + 1) (by omega) (by omega))
theorem l_taken (M : MS G c0 c T tx e p R) (W : WF R) (y v : Int) (hP : P v (G, c)) : ∀ (j : Nat) (i : Int), 0 ≤ i → i + j = R 0 3 → fi (fun i => decide (R 2 i = y)) (fun _ => (1 : Int)) 0 j i = v → At (d + 1) mX11_isTaken 2 [mR 17 T, mI y, mI i] [] (G, c) (QI P) := by
  have hT := M.1.2.1.n
  have hp := W.p
  intro j
  induction j with
  | zero =>
    intro i i0 hi hv
    simp only [fi] at hv
    apply wp_X11_isTaken_2
    rw [M.2.2.2.f3, if_neg (by omega)]
    subst hv
    exact ⟨by omega, ⟨by decide, by decide⟩, hP⟩
  | succ j ih =>
    intro i i0 hi hv
    simp only [fi, decide_eq_true_eq] at hv
    apply wp_X11_isTaken_2
    simp only [M.2.2.2.f3, M.1.2.1.t11, M.1.2.1.u2, M.2.2.2.ho i i0 (by omega), w32i (show -2147483648 ≤ i + 1 by omega) (show i + 1 < 2147483648 by omega)]
    rw [if_pos (by omega)]
    refine ⟨by omega, by omega, ⟨by omega, i0, by omega⟩, ?_⟩
    by_cases h : R 2 i = y
    · rw [if_pos h] at hv ⊢
      subst hv
      exact ⟨⟨by decide, by decide⟩, hP⟩
    · rw [if_neg h] at hv ⊢
      exact ih _ (by omega) (by omega) hv
theorem q_taken (M : MS G c0 c T tx e p R) (W : WF R) (y : Int) : EvI (d + 1) mX11_isTaken [mR 17 T, mI y] (G, c) P = P (hmF R y) (G, c) :=
  evI_eq (ev_X11_isTaken d _ G c T y (by have := M.1.2.1.n; omega) (l_taken d _ M W y _ ⟨rfl, rfl⟩ (R 0 3).toNat 0 (by decide) (by have := W.p; omega) rfl)) P
theorem l_muns (M : MS G c0 c T tx e p R) (W : WF R) (y v : Int) (hP : P v (G, c)) : ∀ (j : Nat) (i : Int), 0 ≤ i → i + j = R 0 5 → fi (fun i => decide (R 4 i = y)) (fun _ => (1 : Int)) 0 j i = v → At (d + 1) mX11_isUnsure 2 [mR 17 T, mI y, mI i] [] (G, c) (QI P) := by
  have hT := M.1.2.1.n
  have hp := W.x
  intro j
  induction j with
  | zero =>
    intro i i0 hi hv
    simp only [fi] at hv
    apply wp_X11_isUnsure_2
    rw [M.2.2.2.f7, if_neg (by omega)]
    subst hv
    exact ⟨by omega, ⟨by decide, by decide⟩, hP⟩
  | succ j ih =>
    intro i i0 hi hv
    simp only [fi, decide_eq_true_eq] at hv
    apply wp_X11_isUnsure_2
    simp only [M.2.2.2.f7, M.1.2.1.t18, M.1.2.1.u7, (M.2.2.2.un i i0 (by omega)).1, w32i (show -2147483648 ≤ i + 1 by omega) (show i + 1 < 2147483648 by omega)]
    rw [if_pos (by omega)]
    refine ⟨by omega, by omega, ⟨by omega, i0, by omega⟩, ?_⟩
    by_cases h : R 4 i = y
    · rw [if_pos h] at hv ⊢
      subst hv
      exact ⟨⟨by decide, by decide⟩, hP⟩
    · rw [if_neg h] at hv ⊢
      exact ih _ (by omega) (by omega) hv
theorem q_muns (M : MS G c0 c T tx e p R) (W : WF R) (y : Int) : EvI (d + 1) mX11_isUnsure [mR 17 T, mI y] (G, c) P = P (usF R y) (G, c) :=
  evI_eq (ev_X11_isUnsure d _ G c T y (by have := M.1.2.1.n; omega) (l_muns d _ M W y _ ⟨rfl, rfl⟩ (R 0 5).toNat 0 (by decide) (by have := W.x; omega) rfl)) P
theorem r_tube (M : MS G c0 c T tx e p R) (W : WF R) (hP : ∀ c', ME G c0 T tx e (if 0 < R 0 1 then bad 3 p else tubeF tx e (nx tx e p) R) c' → P0 (G, c')) : EvV (d + 6) mX12_readTube [mR 18 62] (G, c) P0 := by
  have hT := M.1.2.1.n
  have wa := W.a
  refine ev_X12_readTube (d + 5) _ G c 62 (by decide) ?_
  rw [M.1.2.2.1]
  refine ⟨by decide, by omega, ?_⟩
  by_cases h : 0 < R 0 1
  · rw [if_pos h] at hP
    rw [if_pos (by rw [M.2.2.2.f0]; omega)]
    refine m_flaw (d + 4) _ M W 3 (fun c1 M1 => ?_)
    dsimp only
    rw [o_goes _ _ M1]
    dsimp only
    rw [o_part _ _ M1]
    dsimp only
    rw [o_part _ _ M1]
    dsimp only
    rw [o_part _ _ M1]
    dsimp only
    rw [if_pos M1.2.1]
    exact ⟨by decide, hP _ M1⟩
  · rw [if_neg h] at hP
    rw [if_neg (by rw [M.2.2.2.f0]; omega)]
    refine m_goes (d + 3) _ M (fun c1 M1 => ?_)
    unfold tubeF at hP
    refine m_part (d + 1) _ M1 W (by decide) (by decide) (fun q1 q2 c2 M2 => ?_) (fun q1 q2 c2 M2 => ?_) (fun q1 c2 M2 => ?_)
    · rw [if_pos q1, if_pos q2] at hP
      refine m_part (d + 1) _ M2 W (by decide) (by decide) (fun q3 q4 c3 M3 => ?_) (fun q3 q4 c3 M3 => ?_) (fun q3 c3 M3 => ?_)
      · rw [if_pos q3, if_pos q4] at hP
        refine m_part (d + 1) _ M3 W (by decide) (by decide) (fun q5 q6 c4 M4 => ?_) (fun q5 q6 c4 M4 => ?_) (fun q5 c4 M4 => ?_)
        · rw [if_pos q5, if_pos q6] at hP
          dsimp only
          rw [if_neg M4.n5, M4.1.2.2.1]
          refine ⟨by decide, by decide, by omega, ?_⟩
          rintro _ rfl
          have Z1 := M4.z.uT (a := T) (j := 0) (v := va tx e (nx tx e (nx tx e p))) (by omega) (by omega)
          rw [Z1.1.2.2.1]
          refine ⟨by decide, by omega, ?_⟩
          rintro _ rfl
          have Z2 := Z1.uT (a := T) (j := 1) (v := va tx e (nx tx e (nx tx e (nx tx e (nx tx e p))))) (by omega) (by omega)
          rw [Z2.1.2.2.1]
          refine ⟨by decide, by omega, ?_⟩
          rintro _ rfl
          have Z3 := Z2.uT (a := T) (j := 2) (v := va tx e (nx tx e (nx tx e (nx tx e (nx tx e (nx tx e (nx tx e p))))))) (by omega) (by omega)
          exact hP _ (Z3.s (rt_tube M4.2.2.2 W (by omega)))
        · rw [if_pos q5, if_neg q6] at hP
          dsimp only
          rw [if_pos M4.2.1]
          exact ⟨by decide, hP _ M4⟩
        · rw [if_neg q5] at hP
          dsimp only
          rw [if_pos M4.2.1]
          exact ⟨by decide, hP _ M4⟩
      · rw [if_pos q3, if_neg q4] at hP
        dsimp only
        rw [o_part _ _ M3]
        dsimp only
        rw [if_pos M3.2.1]
        exact ⟨by decide, hP _ M3⟩
      · rw [if_neg q3] at hP
        dsimp only
        rw [o_part _ _ M3]
        dsimp only
        rw [if_pos M3.2.1]
        exact ⟨by decide, hP _ M3⟩
    · rw [if_pos q1, if_neg q2] at hP
      dsimp only
      rw [o_part _ _ M2]
      dsimp only
      rw [o_part _ _ M2]
      dsimp only
      rw [if_pos M2.2.1]
      exact ⟨by decide, hP _ M2⟩
    · rw [if_neg q1] at hP
      dsimp only
      rw [o_part _ _ M2]
      dsimp only
      rw [o_part _ _ M2]
      dsimp only
      rw [if_pos M2.2.1]
      exact ⟨by decide, hP _ M2⟩
theorem lo_p124 (M : MO G c0 c T tx e f pl) (y s v : Int) (hP : P0 (G, c)) : At (d + 6) mX12_readPerson 124 [mR 18 62, mL y, MU, mI s, mI v] [] (G, c) (QV P0) := by
  apply wp_X12_readPerson_124
  rw [o_goes _ _ M]
  dsimp only
  rw [if_pos M.2.1]
  exact ⟨by decide, hP⟩
theorem lo_p72 (M : MO G c0 c T tx e f pl) (y s : Int) (hP : P0 (G, c)) : At (d + 6) mX12_readPerson 72 [mR 18 62, mL y, MU, mI s, MU] [] (G, c) (QV P0) := by
  have hT := M.1.2.1.n
  apply wp_X12_readPerson_72
  rw [o_goes _ _ M]
  dsimp only
  rw [o_needs _ _ M]
  dsimp only
  rw [M.1.2.2.1, o_whole _ _ M]
  dsimp only
  rw [if_pos M.2.1]
  exact ⟨by decide, by omega, by decide, lo_p124 d P0 M y s 0 hP⟩
theorem lo_p61 (M : MO G c0 c T tx e f pl) (y s : Int) (hP : P0 (G, c)) : At (d + 6) mX12_readPerson 61 [mR 18 62, mL y, MU, MU, MU] [mI s] (G, c) (QV P0) := by
  apply wp_X12_readPerson_61
  rw [o_flaw _ _ M]
  split
  · exact lo_p72 d P0 M y s hP
  · exact lo_p72 d P0 M y s hP
theorem lo_pers (M : MO G c0 c T tx e f pl) (y : Int) (hP : P0 (G, c)) : EvI (d + 5) mX12_isWord [mR 18 62, mR 2 11] (G, c) (fun r3 ν3 => (if r3 = 0 then EvI (d + 5) mX12_isWord [mR 18 62, mR 2 12] (ν3.1, ν3.2) (fun r4 ν4 => (if r4 = 0 then EvI (d + 5) mX12_isWord [mR 18 62, mR 2 13] (ν4.1, ν4.2) (fun r5 ν5 => (if r5 = 0 then At (d + 5 + 1) mX12_readPerson 61 [mR 18 62, mL y, MU, MU, MU] [mI (-1)] (ν5.1, ν5.2) (QV P0) else At (d + 5 + 1) mX12_readPerson 61 [mR 18 62, mL y, MU, MU, MU] [mI 2] (ν5.1, ν5.2) (QV P0))) else At (d + 5 + 1) mX12_readPerson 61 [mR 18 62, mL y, MU, MU, MU] [mI 1] (ν4.1, ν4.2) (QV P0))) else At (d + 5 + 1) mX12_readPerson 61 [mR 18 62, mL y, MU, MU, MU] [mI 0] (ν3.1, ν3.2) (QV P0))) := by
  rw [o_isWord _ _ M, if_pos rfl]
  dsimp only
  rw [o_isWord _ _ M, if_pos rfl]
  dsimp only
  rw [o_isWord _ _ M, if_pos rfl]
  exact lo_p61 d P0 M y (-1) hP
theorem m_p61 {v y : Int} (M : MS G c0 c T tx e p R) (W : WF R) (hp6 : R 0 3 ≤ 5) (hv : Nm v y) (s0 : Int) (hP : ∀ c', ME G c0 T tx e (if s0 = -1 then bad 1 p else if isw tx e 14 (nx tx e p) then (if btw tx e (nx tx e (nx tx e p)) 0 (R 0 1 - 1) = 0 then (if hmF R (va tx e (nx tx e (nx tx e p))) = 0 then okR (nx tx e (nx tx e (nx tx e p))) (up (up (up (nmU R v (R 0 3)) 1 (R 0 3) s0) 2 (R 0 3) (va tx e (nx tx e (nx tx e p)))) 0 3 (R 0 3 + 1)) else bad 3 (nx tx e (nx tx e p))) else bad (btw tx e (nx tx e (nx tx e p)) 0 (R 0 1 - 1)) (nx tx e (nx tx e p))) else bad 1 (nx tx e p)) c' → P0 (G, c')) : At (d + 6) mX12_readPerson 61 [mR 18 62, mL y, MU, MU, MU] [mI s0] (G, c) (QV P0) := by
  have hT := M.1.2.1.n
  have hsl := W.bd.sl; have hn := W.n; have hp := W.p; have ht := W.t
  apply wp_X12_readPerson_61
  by_cases h0 : s0 = -1
  · rw [if_pos h0] at hP ⊢
    exact m_flaw (d + 4) _ M W 1 (fun c' M' => lo_p72 d P0 M' y s0 (hP _ M'))
  · rw [if_neg h0] at hP ⊢
    apply wp_X12_readPerson_72
    refine m_goes (d + 3) _ M (fun c1 M1 => ?_)
    refine m_needs (d + 2) _ M1 W (by decide) (by decide) (fun h3 c3 M3 => ?_) (fun h3 c3 M3 => ?_)
    · rw [if_pos h3] at hP
      dsimp only
      rw [M3.1.2.2.1, M3.2.2.2.f1, w32i (show -2147483648 ≤ R 0 1 - 1 by omega) (by omega)]
      refine ⟨by decide, by omega, ?_⟩
      refine m_whole (d + 3) _ M3 W 0 (R 0 1 - 1) (fun h4 => ?_) (fun h4 c4 M4 => ?_)
      · rw [if_pos h4] at hP
        refine ⟨by decide, ?_⟩
        rw [if_neg M3.n5]
        dsimp only
        rw [M3.1.2.2.1, q_taken _ _ M3 W]
        refine ⟨by decide, ?_⟩
        by_cases h5 : hmF R (va tx e (nx tx e (nx tx e p))) = 0
        · rw [if_pos h5] at hP ⊢
          apply wp_X12_readPerson_124
          refine m_goes (d + 3) _ M3 (fun c5 M5 => ?_)
          refine ⟨by decide, ?_⟩
          rw [if_neg M5.n5]
          dsimp only
          rw [M5.1.2.2.1, M5.2.2.2.f3]
          refine ⟨by decide, by omega, ?_⟩
          refine f_names (d + 4) _ M5.z (R 20 0) y 0 (R 0 3) M5.2.2.2.f9 (by omega) (by omega) (fun Z0 => ?_)
          obtain ⟨n1, n2, n3, n4, n5⟩ := nmC_e (c := c5) (T := T) (n := R 20 0) (y := y) (s := 0) (k := R 0 3)
          have e3 : nmC c5 T (R 20 0) y 0 (R 0 3) T 3 = R 0 3 := by rw [n4, if_neg (by decide)]; exact M5.2.2.2.f3
          dsimp only
          simp only [Z0.1.2.2.1, Z0.1.2.1.t10, M.1.2.1.u1, e3]
          refine ⟨by decide, by omega, by decide, by omega, ⟨by omega, by omega, by omega⟩, ?_⟩
          rintro _ rfl
          have Z1 := Z0.uT (a := T + 1) (j := R 0 3) (v := s0) (by omega) (by omega)
          simp only [Z1.1.2.2.1, Z1.1.2.1.t11, M.1.2.1.u2, up_na (show T ≠ T + 1 by omega), e3]
          refine ⟨by decide, by omega, by decide, by omega, ⟨by omega, by omega, by omega⟩, ?_⟩
          rintro _ rfl
          have Z2 := Z1.uT (a := T + 2) (j := R 0 3) (v := va tx e (nx tx e (nx tx e p))) (by omega) (by omega)
          simp only [Z2.1.2.2.1, up_na (show T ≠ T + 1 by omega), up_na (show T ≠ T + 2 by omega), e3, w32i (show -2147483648 ≤ R 0 3 + 1 by omega) (show R 0 3 + 1 < 2147483648 by omega)]
          refine ⟨by decide, by omega, by omega, ?_⟩
          rintro _ rfl
          have Z3 := Z2.uT (a := T) (j := 3) (v := R 0 3 + 1) (by omega) (by omega)
          exact hP _ (Z3.s (rt_pers M5.2.2.2 W hv))
        · rw [if_neg h5] at hP ⊢
          exact m_flaw (d + 4) _ M3 W 3 (fun c' M' => lo_p124 d P0 M' _ _ _ (hP _ M'))
      · rw [if_neg h4] at hP
        refine ⟨by decide, ?_⟩
        rw [if_pos M4.2.1]
        exact lo_p124 d P0 M4 _ _ _ (hP _ M4)
    · rw [if_neg h3] at hP
      dsimp only
      rw [M3.1.2.2.1, o_whole _ _ M3]
      dsimp only
      rw [if_pos M3.2.1]
      exact ⟨by decide, by omega, by decide, lo_p124 d P0 M3 _ _ _ (hP _ M3)⟩
theorem r_person (M : MS G c0 c T tx e p R) (W : WF R) (hP : ∀ c', ME G c0 T tx e (if R 0 1 = 0 then bad 6 p else if 6 ≤ R 0 3 then bad 5 p else persF tx e (nx tx e p) R) c' → P0 (G, c')) : EvV (d + 6) mX12_readPerson [mR 18 62] (G, c) P0 := by
  have hT := M.1.2.1.n
  have wa := W.a; have hp := W.p
  refine ev_X12_readPerson (d + 5) _ G c 62 (by decide) ?_
  rw [M.1.2.2.1, M.2.2.2.f3]
  refine ⟨by decide, by omega, ?_⟩
  refine m_begins (d + 2) _ M W (R 0 3) 6 (by omega) (fun q c1 M1 => ?_) (fun q q' c1 M1 => ?_) (fun q q' c1 M1 => ?_)
  · rw [if_pos q] at hP
    exact o_fresh (d + 3) _ M1 (fun v => lo_pers d P0 M1 v (hP _ M1))
  · rw [if_neg q, if_pos (by omega)] at hP
    exact o_fresh (d + 3) _ M1 (fun v => lo_pers d P0 M1 v (hP _ M1))
  · rw [if_neg q, if_neg (by omega)] at hP
    unfold persF at hP
    refine m_fresh (d + 1) _ M1 W (fun h1 c2 M2 => ?_) (fun h1 c2 v M2 => ?_)
    · rw [if_pos h1] at hP
      have hk : kd tx e (nx tx e p) = 1 := by
        unfold nnF at h1
        by_cases hi : isn tx e (nx tx e p)
        · exact hi.1
        · rw [if_neg hi] at h1; omega
      have key := fun s0 (hs : s0 = colF tx e (nx tx e (nx tx e p))) => m_p61 d P0 M2 W (by omega) (va_nm hk) s0 (by rw [hs]; exact hP)
      unfold colF at key
      dsimp only
      rw [q_mw _ _ M2 (by decide) (by decide)]
      by_cases h11 : isw tx e 11 (nx tx e (nx tx e p))
      · simp only [if_pos h11]
        rw [if_neg (by decide)]
        exact key 0 (by rw [if_pos h11])
      · simp only [if_neg h11, ↓reduceIte]
        rw [q_mw _ _ M2 (by decide) (by decide)]
        by_cases h12 : isw tx e 12 (nx tx e (nx tx e p))
        · simp only [if_pos h12]
          rw [if_neg (by decide)]
          exact key 1 (by rw [if_neg h11, if_pos h12])
        · simp only [if_neg h12, ↓reduceIte]
          rw [q_mw _ _ M2 (by decide) (by decide)]
          by_cases h13 : isw tx e 13 (nx tx e (nx tx e p))
          · simp only [if_pos h13]
            rw [if_neg (by decide)]
            exact key 2 (by rw [if_neg h11, if_neg h12, if_pos h13])
          · simp only [if_neg h13, ↓reduceIte]
            exact key (-1) (by rw [if_neg h11, if_neg h12, if_neg h13])
    · rw [if_neg h1] at hP
      exact lo_pers d P0 M2 v (hP _ M2)
end
