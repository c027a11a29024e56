theorem q_nlayRow (d : Nat) (P : Int → MM → Prop) (G : MG) (c : MC) (N : c 62 3 = -1) (b e : Int) : EvI (d + 1) mX12_layRow [mR 18 62, mI b, mI e] (G, c) P = P 1 (G, c) := evI_eq (ev_X12_layRow d _ G c 62 b e (by decide) (by rw [N]; simp)) P
theorem k_slides (d : Nat) (G : MG) (c : MC) (a b e : Int) (H : IV G c) (hb : b < 2147483648) : EvI (d + 40) mX10_slides [mR 16 0, mI a, mI b, mI e] (G, c) (fun r1 ν1 => EvI (d + 40) mX12_slides [mR 18 62, mI a, mI b, mI e] (ν1.1, ν1.2) (fun r2 ν2 => K2 G r1 r2 ν2)) := by
  obtain ⟨hr, t, z, S, V⟩ := H
  have H0 : IV0 G c := ⟨t, z, S, V⟩
  rcases V with V | ⟨T, n, m, u, q, w, x, s, ka, ki, g, V⟩
  · have I := S.ciN V
    have e1 := V.e1; have e3 := V.e3; have e4 := V.e4; have N := V.T
    have N1 : ∀ wy, up (up c 0 6 wy) 62 0 0 62 3 = -1 := fun wy => by rw [up_nj (by decide), up_na (by decide)]; exact N
    refine ev_X10_slides (d + 39) _ G c 0 a b e (by decide) ?_
    simp only [z_isTube _ _ _ _ t I e1, z_isPerson _ _ _ _ t I _ e3, z_isSlot _ _ _ _ t I _ e1, z_isTurn _ _ _ _ t I _ e4, z_areTwo _ _ _ _ t I _ _ e3, z_isPlace _ _ _ _ t I _ e1, ↓reduceIte, q_refused]
    refine ev_X12_slides (d + 39) _ G _ 62 a b e (by decide) ⟨by decide, ?_⟩
    rintro _ rfl
    simp only [q_nlayRow _ _ _ _ (N1 _), q_nisSlot _ _ _ _ (N1 _), q_nisPerson _ _ _ _ (N1 _), q_nisTurn _ _ _ _ (N1 _), q_nareTwo _ _ _ _ (N1 _), q_nisPlace _ _ _ _ (N1 _), N1, ↓reduceIte, q_mrefused, Int.reduceNeg, Int.reduceLT, Int.reduceLE, true_and]
    exact ⟨rfl, rfl, IV.q H0 (by decide) (agr_0 _)⟩
  · have I := S.ciT V
    have M := V.M; have hT := M.T; have ht := V.t
    have v1 := V.v1; have v3 := V.v3; have v4 := V.v4; have e0 := V.e0; have e1 := V.e1; have e3 := V.e3; have e4 := V.e4; have e5 := V.e5
    have b0 := M.b0; have b1 := M.b1; have b3 := M.b3; have b4 := M.b4
    rw [v1] at b1; rw [v3] at b3; rw [v4] at b4
    have hnp : 0 < n := by omega
    have hTn : ¬ T < 0 := by omega
    have M1 : ∀ wy, MDs G (up (up c 0 6 wy) 62 0 0) T := fun wy => (M.ki ki_up7).agr (agr_0 _)
    have r64 : ∀ wy, up (up c 0 6 wy) 62 0 0 64 = c 64 := fun wy => by funext j; rw [up_na (by decide), up_na (by decide)]
    have rT : ∀ wy k, up (up c 0 6 wy) 62 0 0 T k = c T k := fun wy k => by rw [up_na (by omega), up_na (by omega)]
    have rTT : ∀ wy (a : Int), 0 ≤ a → up (up c 0 6 wy) 62 0 0 (T + a) = c (T + a) := fun wy a ha => by funext j; rw [up_na (by omega), up_na (by omega)]
    have rS : ∀ wy a b, sld (up (up c 0 6 wy) 62 0 0) T a b = sld c T a b := fun wy a b => sld_eq (fun a j q => by rw [up_na (by omega), up_na (by omega)]) hT
    have hS : ∀ a b, 0 ≤ a → a < u → 0 ≤ b → b < n → sld c T a b = dg (g a) b := fun a b h1 h2 h3 h4 => by unfold sld; rw [v4, if_pos h2]; exact V.tk a b h1 h2 h3 h4
    have V1 : ∀ wy, TV G (up (up c 0 6 wy) 62 0 0) t T n m u q w x s ka ki g := fun wy => (V.kp ki_up7).kp (ki_agr (agr_0 _))
    skip
    refine ev_X10_slides (d + 39) _ G c 0 a b e (by decide) ?_
    simp only [q_isTube _ _ _ _ t I, q_isPerson _ _ _ _ t I, q_isSlot _ _ _ _ t I, q_isTurn _ _ _ _ t I, q_areTwo _ _ _ _ t I, q_isPlace _ _ _ _ t I, e0, e1, e3, e4, hnp, ↓reduceIte]
    by_cases h1 : 0 ≤ a ∧ a < n
    · simp only [h1, and_self, ↓reduceIte, I.p0, q_changeBy _ _ _ _ t b e I.H hb, tv_chb V b e hb]
      (repeat (refine And.intro (by first | omega | (simp only [true_and, and_true, and_self]; omega) | (simp only [true_and, and_true, and_self])) ?_))
      cases hrow : rowF g n u b e with
      | none =>
        simp only [Option.getD_none, ↓reduceIte, q_refused]
        refine ev_X12_slides (d + 39) _ G _ 62 a b e (by decide) ⟨by decide, ?_⟩
        rintro _ rfl
        try simp only [q_misSlot _ _ _ _ T (M1 _), q_misPerson _ _ _ _ T (M1 _), q_misTurn _ _ _ _ T (M1 _), q_mareTwo _ _ _ _ T (M1 _), q_misPlace _ _ _ _ T (M1 _), (M1 _).p3, hTn, rT, v1, v3, v4, ↓reduceIte, Int.reduceLE, true_and, h1, and_self, ↓reduceIte]
        refine f_layRow _ _ (V1 2) b e hb (fun _ c' A => ?_) (fun p hp => by rw [hrow] at hp; cases hp)
        simp only [Int.reduceLT, ↓reduceIte, q_mrefused]
        exact ⟨rfl, rfl, IV.q H0 (by decide) ((agr_0 _).tr A)⟩
      | some p =>
        have hp := rowF_pm (by omega) b1.2 V.gp hrow
        have hp0 : p ≠ -1 := by have := hp.1; omega
        simp only [Option.getD_some, hp0, ↓reduceIte]
        (repeat (refine And.intro (by first | omega | (simp only [true_and, and_true, and_self]; omega) | (simp only [true_and, and_true, and_self])) ?_))
        simp only [q_X7_at, q_fine]
        refine ev_X12_slides (d + 39) _ G _ 62 a b e (by decide) ⟨by decide, ?_⟩
        rintro _ rfl
        try simp only [q_misSlot _ _ _ _ T (M1 _), q_misPerson _ _ _ _ T (M1 _), q_misTurn _ _ _ _ T (M1 _), q_mareTwo _ _ _ _ T (M1 _), q_misPlace _ _ _ _ T (M1 _), (M1 _).p3, hTn, rT, v1, v3, v4, ↓reduceIte, Int.reduceLE, true_and, h1, and_self, ↓reduceIte]
        refine f_layRow _ _ (V1 0) b e hb (fun hn => by rw [hrow] at hn; cases hn) (fun p' hp' c' A ho => ?_)
        rw [hrow] at hp'
        cases hp'
        have A0 : Agr (up c 0 6 0) c' := (agr_0 _).tr A
        have M' := (M1 0).agr A
        have e1' : c' T 1 = n := by rw [A T 1 (by unfold scr; omega), rT]; exact v1
        simp only [Int.reduceLT, ↓reduceIte]
        simp only [M'.p27, M'.l73, q_mgood]
        (repeat (refine And.intro (by first | omega | (simp only [true_and, and_true, and_self]; omega) | (simp only [true_and, and_true, and_self])) ?_))
        exact ⟨(ho a h1.1 h1.2).symm, rfl, IV.q H0 (by decide) A0⟩
    · simp only [h1, and_self, ↓reduceIte, q_refused]
      refine ev_X12_slides (d + 39) _ G _ 62 a b e (by decide) ⟨by decide, ?_⟩
      rintro _ rfl
      simp only [q_misSlot _ _ _ _ T (M1 _), q_misPerson _ _ _ _ T (M1 _), q_misTurn _ _ _ _ T (M1 _), q_mareTwo _ _ _ _ T (M1 _), q_misPlace _ _ _ _ T (M1 _), (M1 _).p3, hTn, rT, v1, v3, v4, ↓reduceIte, Int.reduceLE, true_and, h1, and_self, ↓reduceIte, q_mrefused]
      exact ⟨rfl, rfl, IV.q H0 (by decide) (agr_0 _)⟩
theorem k_even (d : Nat) (G : MG) (c : MC) (b e : Int) (H : IV G c) (hb : b < 2147483648) : EvI (d + 40) mX10_even [mR 16 0, mI b, mI e] (G, c) (fun r1 ν1 => EvI (d + 40) mX12_even [mR 18 62, mI b, mI e] (ν1.1, ν1.2) (fun r2 ν2 => K2 G r1 r2 ν2)) := by
  obtain ⟨hr, t, z, S, V⟩ := H
  have H0 : IV0 G c := ⟨t, z, S, V⟩
  rcases V with V | ⟨T, n, m, u, q, w, x, s, ka, ki, g, V⟩
  · have I := S.ciN V
    have e1 := V.e1; have e3 := V.e3; have e4 := V.e4; have N := V.T
    have N1 : ∀ wy, up (up c 0 6 wy) 62 0 0 62 3 = -1 := fun wy => by rw [up_nj (by decide), up_na (by decide)]; exact N
    refine ev_X10_even (d + 39) _ G c 0 b e (by decide) ?_
    simp only [z_isTube _ _ _ _ t I e1, z_isPerson _ _ _ _ t I _ e3, z_isSlot _ _ _ _ t I _ e1, z_isTurn _ _ _ _ t I _ e4, z_areTwo _ _ _ _ t I _ _ e3, z_isPlace _ _ _ _ t I _ e1, ↓reduceIte, q_refused]
    refine ev_X12_even (d + 39) _ G _ 62 b e (by decide) ⟨by decide, ?_⟩
    rintro _ rfl
    simp only [q_nlayRow _ _ _ _ (N1 _), q_nisSlot _ _ _ _ (N1 _), q_nisPerson _ _ _ _ (N1 _), q_nisTurn _ _ _ _ (N1 _), q_nareTwo _ _ _ _ (N1 _), q_nisPlace _ _ _ _ (N1 _), N1, ↓reduceIte, q_mrefused, Int.reduceNeg, Int.reduceLT, Int.reduceLE, true_and]
    exact ⟨rfl, rfl, IV.q H0 (by decide) (agr_0 _)⟩
  · have I := S.ciT V
    have M := V.M; have hT := M.T; have ht := V.t
    have v1 := V.v1; have v3 := V.v3; have v4 := V.v4; have e0 := V.e0; have e1 := V.e1; have e3 := V.e3; have e4 := V.e4; have e5 := V.e5
    have b0 := M.b0; have b1 := M.b1; have b3 := M.b3; have b4 := M.b4
    rw [v1] at b1; rw [v3] at b3; rw [v4] at b4
    have hnp : 0 < n := by omega
    have hTn : ¬ T < 0 := by omega
    have M1 : ∀ wy, MDs G (up (up c 0 6 wy) 62 0 0) T := fun wy => (M.ki ki_up7).agr (agr_0 _)
    have r64 : ∀ wy, up (up c 0 6 wy) 62 0 0 64 = c 64 := fun wy => by funext j; rw [up_na (by decide), up_na (by decide)]
    have rT : ∀ wy k, up (up c 0 6 wy) 62 0 0 T k = c T k := fun wy k => by rw [up_na (by omega), up_na (by omega)]
    have rTT : ∀ wy (a : Int), 0 ≤ a → up (up c 0 6 wy) 62 0 0 (T + a) = c (T + a) := fun wy a ha => by funext j; rw [up_na (by omega), up_na (by omega)]
    have rS : ∀ wy a b, sld (up (up c 0 6 wy) 62 0 0) T a b = sld c T a b := fun wy a b => sld_eq (fun a j q => by rw [up_na (by omega), up_na (by omega)]) hT
    have hS : ∀ a b, 0 ≤ a → a < u → 0 ≤ b → b < n → sld c T a b = dg (g a) b := fun a b h1 h2 h3 h4 => by unfold sld; rw [v4, if_pos h2]; exact V.tk a b h1 h2 h3 h4
    have V1 : ∀ wy, TV G (up (up c 0 6 wy) 62 0 0) t T n m u q w x s ka ki g := fun wy => (V.kp ki_up7).kp (ki_agr (agr_0 _))
    skip
    refine ev_X10_even (d + 39) _ G c 0 b e (by decide) ?_
    simp only [q_isTube _ _ _ _ t I, q_isPerson _ _ _ _ t I, q_isSlot _ _ _ _ t I, q_isTurn _ _ _ _ t I, q_areTwo _ _ _ _ t I, q_isPlace _ _ _ _ t I, e0, e1, e3, e4, hnp, ↓reduceIte]
    simp only [and_self, ↓reduceIte, I.p0, q_changeBy _ _ _ _ t b e I.H hb, tv_chb V b e hb]
    (repeat (refine And.intro (by first | omega | (simp only [true_and, and_true, and_self]; omega) | (simp only [true_and, and_true, and_self])) ?_))
    cases hrow : rowF g n u b e with
    | none =>
      simp only [Option.getD_none, ↓reduceIte, q_refused]
      refine ev_X12_even (d + 39) _ G _ 62 b e (by decide) ⟨by decide, ?_⟩
      rintro _ rfl
      try simp only [q_misSlot _ _ _ _ T (M1 _), q_misPerson _ _ _ _ T (M1 _), q_misTurn _ _ _ _ T (M1 _), q_mareTwo _ _ _ _ T (M1 _), q_misPlace _ _ _ _ T (M1 _), (M1 _).p3, hTn, rT, v1, v3, v4, ↓reduceIte, Int.reduceLE, true_and, and_self, ↓reduceIte]
      refine f_layRow _ _ (V1 2) b e hb (fun _ c' A => ?_) (fun p hp => by rw [hrow] at hp; cases hp)
      simp only [Int.reduceLT, ↓reduceIte, q_mrefused]
      exact ⟨rfl, rfl, IV.q H0 (by decide) ((agr_0 _).tr A)⟩
    | some p =>
      have hp := rowF_pm (by omega) b1.2 V.gp hrow
      have hp0 : p ≠ -1 := by have := hp.1; omega
      simp only [Option.getD_some, hp0, ↓reduceIte]
      (repeat (refine And.intro (by first | omega | (simp only [true_and, and_true, and_self]; omega) | (simp only [true_and, and_true, and_self])) ?_))
      simp only [I.p0, e1, q_X7_cycles _ _ _ _ _ n (show n ≤ 1000 by omega), q_X7_isEven, q_fine]
      (repeat (refine And.intro (by first | omega | (simp only [true_and, and_true, and_self]; omega) | (simp only [true_and, and_true, and_self])) ?_))
      have hev : evn (cyc p n) n = 0 ∨ evn (cyc p n) n = 1 := by unfold evn; split <;> simp
      have key : ∀ r, r = evn (cyc p n) n → EvI (d + 40) mX12_even [mR 18 62, mI b, mI e] (G, up c 0 6 0) (fun r2 ν2 => K2 G r r2 ν2) := by
        intro r hre
        refine ev_X12_even (d + 39) _ G _ 62 b e (by decide) ⟨by decide, ?_⟩
        rintro _ rfl
        refine f_layRow _ _ (V1 0) b e hb (fun hn => by rw [hrow] at hn; cases hn) (fun p' hp' c' A ho => ?_)
        rw [hrow] at hp'
        cases hp'
        have A0 : Agr (up c 0 6 0) c' := (agr_0 _).tr A
        have M' := (M1 0).agr A
        have e1' : c' T 1 = n := by rw [A T 1 (by unfold scr; omega), rT]; exact v1
        simp only [Int.reduceLT, ↓reduceIte]
        rw [q_misEven _ _ _ _ T M' p (by rw [e1']; exact ho) (by rw [e1']; exact hp)]
        simp only [e1', q_mgood, ← hre]
        rcases hev with h0 | h0
        · rw [hre, h0, if_pos rfl]; exact ⟨rfl, rfl, IV.q H0 (by decide) A0⟩
        · rw [hre, h0, if_neg (by decide)]; exact ⟨rfl, rfl, IV.q H0 (by decide) A0⟩
      rcases hev with h0 | h0
      · rw [h0, if_pos rfl]; exact key 0 h0.symm
      · rw [h0, if_neg (by decide)]; exact key 1 h0.symm
theorem k_fixes (d : Nat) (G : MG) (c : MC) (b e : Int) (H : IV G c) (hb : b < 2147483648) : EvI (d + 40) mX10_fixes [mR 16 0, mI b, mI e] (G, c) (fun r1 ν1 => EvI (d + 40) mX12_fixes [mR 18 62, mI b, mI e] (ν1.1, ν1.2) (fun r2 ν2 => K2 G r1 r2 ν2)) := by
  obtain ⟨hr, t, z, S, V⟩ := H
  have H0 : IV0 G c := ⟨t, z, S, V⟩
  rcases V with V | ⟨T, n, m, u, q, w, x, s, ka, ki, g, V⟩
  · have I := S.ciN V
    have e1 := V.e1; have e3 := V.e3; have e4 := V.e4; have N := V.T
    have N1 : ∀ wy, up (up c 0 6 wy) 62 0 0 62 3 = -1 := fun wy => by rw [up_nj (by decide), up_na (by decide)]; exact N
    refine ev_X10_fixes (d + 39) _ G c 0 b e (by decide) ?_
    simp only [z_isTube _ _ _ _ t I e1, z_isPerson _ _ _ _ t I _ e3, z_isSlot _ _ _ _ t I _ e1, z_isTurn _ _ _ _ t I _ e4, z_areTwo _ _ _ _ t I _ _ e3, z_isPlace _ _ _ _ t I _ e1, ↓reduceIte, q_refused]
    refine ev_X12_fixes (d + 39) _ G _ 62 b e (by decide) ⟨by decide, ?_⟩
    rintro _ rfl
    simp only [q_nlayRow _ _ _ _ (N1 _), q_nisSlot _ _ _ _ (N1 _), q_nisPerson _ _ _ _ (N1 _), q_nisTurn _ _ _ _ (N1 _), q_nareTwo _ _ _ _ (N1 _), q_nisPlace _ _ _ _ (N1 _), N1, ↓reduceIte, q_mrefused, Int.reduceNeg, Int.reduceLT, Int.reduceLE, true_and]
    exact ⟨rfl, rfl, IV.q H0 (by decide) (agr_0 _)⟩
  · have I := S.ciT V
    have M := V.M; have hT := M.T; have ht := V.t
    have v1 := V.v1; have v3 := V.v3; have v4 := V.v4; have e0 := V.e0; have e1 := V.e1; have e3 := V.e3; have e4 := V.e4; have e5 := V.e5
    have b0 := M.b0; have b1 := M.b1; have b3 := M.b3; have b4 := M.b4
    rw [v1] at b1; rw [v3] at b3; rw [v4] at b4
    have hnp : 0 < n := by omega
    have hTn : ¬ T < 0 := by omega
    have M1 : ∀ wy, MDs G (up (up c 0 6 wy) 62 0 0) T := fun wy => (M.ki ki_up7).agr (agr_0 _)
    have r64 : ∀ wy, up (up c 0 6 wy) 62 0 0 64 = c 64 := fun wy => by funext j; rw [up_na (by decide), up_na (by decide)]
    have rT : ∀ wy k, up (up c 0 6 wy) 62 0 0 T k = c T k := fun wy k => by rw [up_na (by omega), up_na (by omega)]
    have rTT : ∀ wy (a : Int), 0 ≤ a → up (up c 0 6 wy) 62 0 0 (T + a) = c (T + a) := fun wy a ha => by funext j; rw [up_na (by omega), up_na (by omega)]
    have rS : ∀ wy a b, sld (up (up c 0 6 wy) 62 0 0) T a b = sld c T a b := fun wy a b => sld_eq (fun a j q => by rw [up_na (by omega), up_na (by omega)]) hT
    have hS : ∀ a b, 0 ≤ a → a < u → 0 ≤ b → b < n → sld c T a b = dg (g a) b := fun a b h1 h2 h3 h4 => by unfold sld; rw [v4, if_pos h2]; exact V.tk a b h1 h2 h3 h4
    have V1 : ∀ wy, TV G (up (up c 0 6 wy) 62 0 0) t T n m u q w x s ka ki g := fun wy => (V.kp ki_up7).kp (ki_agr (agr_0 _))
    skip
    refine ev_X10_fixes (d + 39) _ G c 0 b e (by decide) ?_
    simp only [q_isTube _ _ _ _ t I, q_isPerson _ _ _ _ t I, q_isSlot _ _ _ _ t I, q_isTurn _ _ _ _ t I, q_areTwo _ _ _ _ t I, q_isPlace _ _ _ _ t I, e0, e1, e3, e4, hnp, ↓reduceIte]
    simp only [and_self, ↓reduceIte, I.p0, q_changeBy _ _ _ _ t b e I.H hb, tv_chb V b e hb]
    (repeat (refine And.intro (by first | omega | (simp only [true_and, and_true, and_self]; omega) | (simp only [true_and, and_true, and_self])) ?_))
    cases hrow : rowF g n u b e with
    | none =>
      simp only [Option.getD_none, ↓reduceIte, q_refused]
      refine ev_X12_fixes (d + 39) _ G _ 62 b e (by decide) ⟨by decide, ?_⟩
      rintro _ rfl
      try simp only [q_misSlot _ _ _ _ T (M1 _), q_misPerson _ _ _ _ T (M1 _), q_misTurn _ _ _ _ T (M1 _), q_mareTwo _ _ _ _ T (M1 _), q_misPlace _ _ _ _ T (M1 _), (M1 _).p3, hTn, rT, v1, v3, v4, ↓reduceIte, Int.reduceLE, true_and, and_self, ↓reduceIte]
      refine f_layRow _ _ (V1 2) b e hb (fun _ c' A => ?_) (fun p hp => by rw [hrow] at hp; cases hp)
      simp only [Int.reduceLT, ↓reduceIte, q_mrefused]
      exact ⟨rfl, rfl, IV.q H0 (by decide) ((agr_0 _).tr A)⟩
    | some p =>
      have hp := rowF_pm (by omega) b1.2 V.gp hrow
      have hp0 : p ≠ -1 := by have := hp.1; omega
      simp only [Option.getD_some, hp0, ↓reduceIte]
      (repeat (refine And.intro (by first | omega | (simp only [true_and, and_true, and_self]; omega) | (simp only [true_and, and_true, and_self])) ?_))
      simp only [I.p0, e1, q_X7_fixed _ _ _ _ _ n (show n ≤ 1000 by omega), q_fine]
      (repeat (refine And.intro (by first | omega | (simp only [true_and, and_true, and_self]; omega) | (simp only [true_and, and_true, and_self])) ?_))
      refine ev_X12_fixes (d + 39) _ G _ 62 b e (by decide) ⟨by decide, ?_⟩
      rintro _ rfl
      try simp only [q_misSlot _ _ _ _ T (M1 _), q_misPerson _ _ _ _ T (M1 _), q_misTurn _ _ _ _ T (M1 _), q_mareTwo _ _ _ _ T (M1 _), q_misPlace _ _ _ _ T (M1 _), (M1 _).p3, hTn, rT, v1, v3, v4, ↓reduceIte, Int.reduceLE, true_and, and_self, ↓reduceIte]
      refine f_layRow _ _ (V1 0) b e hb (fun hn => by rw [hrow] at hn; cases hn) (fun p' hp' c' A ho => ?_)
      rw [hrow] at hp'
      cases hp'
      have A0 : Agr (up c 0 6 0) c' := (agr_0 _).tr A
      have M' := (M1 0).agr A
      have e1' : c' T 1 = n := by rw [A T 1 (by unfold scr; omega), rT]; exact v1
      simp only [Int.reduceLT, ↓reduceIte]
      rw [q_mfixed _ _ _ _ T M']
      simp only [e1', q_mgood]
      exact ⟨fo_congr _ _ _ (fun k s k0 k1 => by rw [ho k k0 (by omega)]), rfl, IV.q H0 (by decide) A0⟩
theorem k_round (d : Nat) (G : MG) (c : MC) (b e : Int) (H : IV G c) (hb : b < 2147483648) : EvI (d + 40) mX10_round [mR 16 0, mI b, mI e] (G, c) (fun r1 ν1 => EvI (d + 40) mX12_round [mR 18 62, mI b, mI e] (ν1.1, ν1.2) (fun r2 ν2 => K2 G r1 r2 ν2)) := by
  obtain ⟨hr, t, z, S, V⟩ := H
  have H0 : IV0 G c := ⟨t, z, S, V⟩
  rcases V with V | ⟨T, n, m, u, q, w, x, s, ka, ki, g, V⟩
  · have I := S.ciN V
    have e1 := V.e1; have e3 := V.e3; have e4 := V.e4; have N := V.T
    have N1 : ∀ wy, up (up c 0 6 wy) 62 0 0 62 3 = -1 := fun wy => by rw [up_nj (by decide), up_na (by decide)]; exact N
    refine ev_X10_round (d + 39) _ G c 0 b e (by decide) ?_
    simp only [z_isTube _ _ _ _ t I e1, z_isPerson _ _ _ _ t I _ e3, z_isSlot _ _ _ _ t I _ e1, z_isTurn _ _ _ _ t I _ e4, z_areTwo _ _ _ _ t I _ _ e3, z_isPlace _ _ _ _ t I _ e1, ↓reduceIte, q_refused]
    refine ev_X12_round (d + 39) _ G _ 62 b e (by decide) ⟨by decide, ?_⟩
    rintro _ rfl
    simp only [q_nlayRow _ _ _ _ (N1 _), q_nisSlot _ _ _ _ (N1 _), q_nisPerson _ _ _ _ (N1 _), q_nisTurn _ _ _ _ (N1 _), q_nareTwo _ _ _ _ (N1 _), q_nisPlace _ _ _ _ (N1 _), N1, ↓reduceIte, q_mrefused, Int.reduceNeg, Int.reduceLT, Int.reduceLE, true_and]
    exact ⟨rfl, rfl, IV.q H0 (by decide) (agr_0 _)⟩
  · have I := S.ciT V
    have M := V.M; have hT := M.T; have ht := V.t
    have v1 := V.v1; have v3 := V.v3; have v4 := V.v4; have e0 := V.e0; have e1 := V.e1; have e3 := V.e3; have e4 := V.e4; have e5 := V.e5
    have b0 := M.b0; have b1 := M.b1; have b3 := M.b3; have b4 := M.b4
    rw [v1] at b1; rw [v3] at b3; rw [v4] at b4
    have hnp : 0 < n := by omega
    have hTn : ¬ T < 0 := by omega
    have M1 : ∀ wy, MDs G (up (up c 0 6 wy) 62 0 0) T := fun wy => (M.ki ki_up7).agr (agr_0 _)
    have r64 : ∀ wy, up (up c 0 6 wy) 62 0 0 64 = c 64 := fun wy => by funext j; rw [up_na (by decide), up_na (by decide)]
    have rT : ∀ wy k, up (up c 0 6 wy) 62 0 0 T k = c T k := fun wy k => by rw [up_na (by omega), up_na (by omega)]
    have rTT : ∀ wy (a : Int), 0 ≤ a → up (up c 0 6 wy) 62 0 0 (T + a) = c (T + a) := fun wy a ha => by funext j; rw [up_na (by omega), up_na (by omega)]
    have rS : ∀ wy a b, sld (up (up c 0 6 wy) 62 0 0) T a b = sld c T a b := fun wy a b => sld_eq (fun a j q => by rw [up_na (by omega), up_na (by omega)]) hT
    have hS : ∀ a b, 0 ≤ a → a < u → 0 ≤ b → b < n → sld c T a b = dg (g a) b := fun a b h1 h2 h3 h4 => by unfold sld; rw [v4, if_pos h2]; exact V.tk a b h1 h2 h3 h4
    have V1 : ∀ wy, TV G (up (up c 0 6 wy) 62 0 0) t T n m u q w x s ka ki g := fun wy => (V.kp ki_up7).kp (ki_agr (agr_0 _))
    skip
    refine ev_X10_round (d + 39) _ G c 0 b e (by decide) ?_
    simp only [q_isTube _ _ _ _ t I, q_isPerson _ _ _ _ t I, q_isSlot _ _ _ _ t I, q_isTurn _ _ _ _ t I, q_areTwo _ _ _ _ t I, q_isPlace _ _ _ _ t I, e0, e1, e3, e4, hnp, ↓reduceIte]
    simp only [and_self, ↓reduceIte, I.p0, q_changeBy _ _ _ _ t b e I.H hb, tv_chb V b e hb]
    (repeat (refine And.intro (by first | omega | (simp only [true_and, and_true, and_self]; omega) | (simp only [true_and, and_true, and_self])) ?_))
    cases hrow : rowF g n u b e with
    | none =>
      simp only [Option.getD_none, ↓reduceIte, q_refused]
      refine ev_X12_round (d + 39) _ G _ 62 b e (by decide) ⟨by decide, ?_⟩
      rintro _ rfl
      try simp only [q_misSlot _ _ _ _ T (M1 _), q_misPerson _ _ _ _ T (M1 _), q_misTurn _ _ _ _ T (M1 _), q_mareTwo _ _ _ _ T (M1 _), q_misPlace _ _ _ _ T (M1 _), (M1 _).p3, hTn, rT, v1, v3, v4, ↓reduceIte, Int.reduceLE, true_and, and_self, ↓reduceIte]
      refine f_layRow _ _ (V1 2) b e hb (fun _ c' A => ?_) (fun p hp => by rw [hrow] at hp; cases hp)
      simp only [Int.reduceLT, ↓reduceIte, q_mrefused]
      exact ⟨rfl, rfl, IV.q H0 (by decide) ((agr_0 _).tr A)⟩
    | some p =>
      have hp := rowF_pm (by omega) b1.2 V.gp hrow
      have hp0 : p ≠ -1 := by have := hp.1; omega
      simp only [Option.getD_some, hp0, ↓reduceIte]
      (repeat (refine And.intro (by first | omega | (simp only [true_and, and_true, and_self]; omega) | (simp only [true_and, and_true, and_self])) ?_))
      simp only [I.p0, e1, q_X7_order _ _ _ _ _ n (show n ≤ 1000 by omega), q_fine]
      (repeat (refine And.intro (by first | omega | (simp only [true_and, and_true, and_self]; omega) | (simp only [true_and, and_true, and_self])) ?_))
      refine ev_X12_round (d + 39) _ G _ 62 b e (by decide) ⟨by decide, ?_⟩
      rintro _ rfl
      try simp only [q_misSlot _ _ _ _ T (M1 _), q_misPerson _ _ _ _ T (M1 _), q_misTurn _ _ _ _ T (M1 _), q_mareTwo _ _ _ _ T (M1 _), q_misPlace _ _ _ _ T (M1 _), (M1 _).p3, hTn, rT, v1, v3, v4, ↓reduceIte, Int.reduceLE, true_and, and_self, ↓reduceIte]
      refine f_layRow _ _ (V1 0) b e hb (fun hn => by rw [hrow] at hn; cases hn) (fun p' hp' c' A ho => ?_)
      rw [hrow] at hp'
      cases hp'
      have A0 : Agr (up c 0 6 0) c' := (agr_0 _).tr A
      have M' := (M1 0).agr A
      have e1' : c' T 1 = n := by rw [A T 1 (by unfold scr; omega), rT]; exact v1
      simp only [Int.reduceLT, ↓reduceIte]
      have hc := cho_all6 b1.1 b1.2 hp
      unfold chkO at hc
      simp only [Bool.and_eq_true, decide_eq_true_eq] at hc
      have hrg := ho.rg hp
      have hst : ∀ k, 0 ≤ k → k < n → stM (c' 73) k 8 (c' 73 k) 1 = stM (dg p) k 8 (dg p k) 1 := fun k k0 k1 => by rw [stM_congr hrg ho 8 _ 1 (hrg k k0 k1).1 (hrg k k0 k1).2, ho k k0 k1]
      have hgo := l_rd28 (d + 38) (fun r2 ν2 => K2 G (ord6 p n) r2 ν2) G c' T M' n (ord6 p n) e1' hrg ⟨rfl, rfl, IV.q H0 (by decide) A0⟩ n.toNat 0 1 (by omega) (by omega) (by omega) (by simp) (by
        rw [← hc.1]
        unfold ordM
        apply fo_congr
        intro k s k0 k1
        rw [hst k k0 (by omega)]
        cases s <;> cases (stM (dg p) k 8 (dg p k) 1) <;> rfl) (fun k q k0 k1 hq => by
        have := stM_rg 8 _ 1 q (by omega) (by omega) hq
        omega)
      exact hgo
