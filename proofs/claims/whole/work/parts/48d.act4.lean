theorem k_keep (d : Nat) (G : MG) (c : MC) (H : IV G c) : EvI (d + 40) mX10_keep [mR 16 0] (G, c) (fun r1 ν1 => EvI (d + 40) mX12_keep [mR 18 62] (ν1.1, ν1.2) (fun r2 ν2 => K2 G r1 r2 ν2)) := by
  obtain ⟨hr, t, z, S, V⟩ := H
  have H0 : IV0 G c := ⟨t, z, S, V⟩
  rcases V with V | ⟨T, n, m, u, q, w, x, s, ka, ki, g, V⟩
  · have I := S.ciN V
    have e1 := V.e1; have e3 := V.e3; have e4 := V.e4; have N := V.T
    have N1 : ∀ wy, up (up c 0 6 wy) 62 0 0 62 3 = -1 := fun wy => by rw [up_nj (by decide), up_na (by decide)]; exact N
    refine ev_X10_keep (d + 39) _ G c 0 (by decide) ?_
    simp only [z_isTube _ _ _ _ t I e1, z_isPerson _ _ _ _ t I _ e3, z_isSlot _ _ _ _ t I _ e1, z_isTurn _ _ _ _ t I _ e4, z_areTwo _ _ _ _ t I _ _ e3, z_isPlace _ _ _ _ t I _ e1, ↓reduceIte, q_refused]
    refine ev_X12_keep (d + 39) _ G _ 62 (by decide) ⟨by decide, ?_⟩
    rintro _ rfl
    simp only [q_nisSlot _ _ _ _ (N1 _), q_nisPerson _ _ _ _ (N1 _), q_nisTurn _ _ _ _ (N1 _), q_nareTwo _ _ _ _ (N1 _), q_nisPlace _ _ _ _ (N1 _), N1, ↓reduceIte, q_mrefused, Int.reduceNeg, Int.reduceLT, Int.reduceLE, true_and]
    exact ⟨rfl, rfl, IV.q H0 (by decide) (agr_0 _)⟩
  · have I := S.ciT V
    have M := V.M; have hT := M.T; have ht := V.t
    have v1 := V.v1; have v3 := V.v3; have v4 := V.v4; have e0 := V.e0; have e1 := V.e1; have e3 := V.e3; have e4 := V.e4; have e5 := V.e5
    have b0 := M.b0; have b1 := M.b1; have b3 := M.b3; have b4 := M.b4
    rw [v1] at b1; rw [v3] at b3; rw [v4] at b4
    have hnp : 0 < n := by omega
    have hTn : ¬ T < 0 := by omega
    have M1 : ∀ wy, MDs G (up (up c 0 6 wy) 62 0 0) T := fun wy => (M.ki ki_up7).agr (agr_0 _)
    have r64 : ∀ wy, up (up c 0 6 wy) 62 0 0 64 = c 64 := fun wy => by funext j; rw [up_na (by decide), up_na (by decide)]
    have rT : ∀ wy k, up (up c 0 6 wy) 62 0 0 T k = c T k := fun wy k => by rw [up_na (by omega), up_na (by omega)]
    have rTT : ∀ wy (a : Int), 0 ≤ a → up (up c 0 6 wy) 62 0 0 (T + a) = c (T + a) := fun wy a ha => by funext j; rw [up_na (by omega), up_na (by omega)]
    have rS : ∀ wy a b, sld (up (up c 0 6 wy) 62 0 0) T a b = sld c T a b := fun wy a b => sld_eq (fun a j q => by rw [up_na (by omega), up_na (by omega)]) hT
    have hS : ∀ a b, 0 ≤ a → a < u → 0 ≤ b → b < n → sld c T a b = dg (g a) b := fun a b h1 h2 h3 h4 => by unfold sld; rw [v4, if_pos h2]; exact V.tk a b h1 h2 h3 h4
    have V1 : ∀ wy, TV G (up (up c 0 6 wy) 62 0 0) t T n m u q w x s ka ki g := fun wy => (V.kp ki_up7).kp (ki_agr (agr_0 _))
    have him := V.im; have hib := V.ib
    refine ev_X10_keep (d + 39) _ G c 0 (by decide) ?_
    simp only [q_isTube _ _ _ _ t I, q_isPerson _ _ _ _ t I, q_isSlot _ _ _ _ t I, q_isTurn _ _ _ _ t I, q_areTwo _ _ _ _ t I, q_isPlace _ _ _ _ t I, e0, e1, e3, e4, hnp, ↓reduceIte, I.p3, him.1]
    (repeat (refine And.intro (by first | omega | (simp only [true_and, and_true, and_self]; omega) | (simp only [true_and, and_true, and_self])) ?_))
    by_cases hk : ki < 3
    · rw [if_pos hk]
      have w1 : w32 (ki + 1) = ki + 1 := w32i (by omega) (by omega)
      have w2 : w32 (ki + 1 - 1) = ki := by rw [w32i (by omega) (by omega)]; omega
      refine And.intro (by omega) ?_
      refine ev_X8_keepImage (d + 38) _ G c 42 (by decide) ?_
      rw [him.1, if_pos hk, S.s3, S.l44]
      refine ⟨by omega, by omega, by omega, by omega, by omega, ?_⟩
      rintro _ rfl
      rw [up_na (by decide), him.1, w1]
      refine ⟨by omega, by omega, ?_⟩
      rintro _ rfl
      rw [up_eq, w2]
      refine And.intro (by omega) ?_
      simp only [q_fine]
      obtain ⟨c1, hc1⟩ : ∃ c1, c1 = up (up (up (up c 44 ki (c 42 0)) 42 4 (ki + 1)) 0 6 0) 62 0 0 := ⟨_, rfl⟩
      have hk1 : ∀ x y, ¬ (x = 42 ∧ y = 4) → x ≠ 44 → ¬ (x = 0 ∧ y = 6) → ¬ (x = 62 ∧ y = 0) → c1 x y = c x y := fun x y q1 q2 q3 q4 => by rw [hc1, up_o q4, up_o q3, up_o q1, up_na q2]
      have M2 : MDs G c1 T := M.kp (fun x y k => hk1 x y (by unfold Kp at k; omega) (by unfold Kp at k; omega) (by unfold Kp at k; omega) (by unfold Kp at k; omega))
      refine ev_X12_keep (d + 39) _ G _ 62 (by decide) ⟨by decide, ?_⟩
      rintro c9 he
      have he2 : c1 = c9 := hc1.trans he.symm
      clear he
      subst he2
      rw [M2.p3, if_neg hTn, hk1 62 21 (by omega) (by omega) (by omega) (by omega), him.2, if_neg (by omega)]
      refine ⟨by omega, by omega, ?_⟩
      have lp : ∀ (j : Nat) (p : Int), 0 ≤ p → p + j = 6 → At (d + 39 + 1) mX12_keep 34 [mR 18 62, mI p] [] (G, wr c1 67 (6 * ki) p (fun y => c 64 (y - 6 * ki))) (QI fun r2 ν2 => K2 G ki r2 ν2) := by
        intro j
        induction j with
        | zero =>
          intro p p0 hp
          apply wp_X12_keep_34
          have x21 : wr c1 67 (6 * ki) p (fun y => c 64 (y - 6 * ki)) 62 21 = ki := by rw [wr_ne (by decide), hk1 62 21 (by omega) (by omega) (by omega) (by omega)]; exact him.2
          rw [if_neg (by omega)]
          simp only [x21, w1, q_mgood]
          refine ⟨by omega, by omega, ?_⟩
          rintro _ rfl
          rw [up_eq, w2]
          refine And.intro (by omega) ?_
          have hF : ∀ x y, ¬ (x = 42 ∧ y = 4) → x ≠ 44 → ¬ (x = 0 ∧ y = 6) → ¬ (x = 62 ∧ (y = 0 ∨ y = 1 ∨ y = 2 ∨ y = 21)) → x ≠ 67 → mtr (up (wr c1 67 (6 * ki) p (fun y => c 64 (y - 6 * ki))) 62 21 (ki + 1)) 0 x y = c x y := fun x y q1 q2 q3 q4 q6 => by
            rw [mtr_o (by omega), up_o (by omega), wr_ne q6]; exact hk1 x y q1 q2 q3 (by omega)
          have c42 : mtr (up (wr c1 67 (6 * ki) p (fun y => c 64 (y - 6 * ki))) 62 21 (ki + 1)) 0 42 4 = ki + 1 := by rw [mtr_o (by omega), up_na (by decide), wr_ne (by decide), hc1, up_na (by decide), up_na (by decide), up_eq]
          have c44 : ∀ y, mtr (up (wr c1 67 (6 * ki) p (fun y => c 64 (y - 6 * ki))) 62 21 (ki + 1)) 0 44 y = if y = ki then c 42 0 else c 44 y := fun y => by
            rw [mtr_o (by omega), up_na (by decide), wr_ne (by decide), hc1, up_na (by decide), up_na (by decide), up_na (by decide)]
            by_cases e : y = ki
            · rw [e, up_eq, if_pos rfl]
            · rw [up_nj e, if_neg e]
          have c07 : mtr (up (wr c1 67 (6 * ki) p (fun y => c 64 (y - 6 * ki))) 62 21 (ki + 1)) 0 0 6 = 0 := by rw [mtr_o (by omega), up_na (by decide), wr_ne (by decide), hc1, up_na (by decide), up_eq]
          have c67a : ∀ p', 0 ≤ p' → p' < 6 → mtr (up (wr c1 67 (6 * ki) p (fun y => c 64 (y - 6 * ki))) 62 21 (ki + 1)) 0 67 (6 * ki + p') = c 64 p' := fun p' q0 q1 => by
            rw [mtr_o (by omega), up_na (by decide), wr_in (by omega) (by omega)]
            show c 64 (6 * ki + p' - 6 * ki) = _
            congr 1
            omega
          have c67b : ∀ y, y < 6 * ki → mtr (up (wr c1 67 (6 * ki) p (fun y => c 64 (y - 6 * ki))) 62 21 (ki + 1)) 0 67 y = c 67 y := fun y q => by
            rw [mtr_o (by omega), up_na (by decide), wr_out (by omega), hk1 67 y (by omega) (by omega) (by omega) (by omega)]
          have ke : ∀ x y, KI x y → ¬ (x = 42 ∧ (y = 0 ∨ y = 2 ∨ y = 4)) → ¬ (43 ≤ x ∧ x ≤ 44) → x ≠ 64 → ¬ (66 ≤ x ∧ x ≤ 67) → ¬ (x = 62 ∧ (y = 20 ∨ y = 21)) → mtr (up (wr c1 67 (6 * ki) p (fun y => c 64 (y - 6 * ki))) 62 21 (ki + 1)) 0 x y = c x y := fun x y k q2 q3 q4 q5 q6 => hF x y (by omega) (by omega) (by unfold KI at k; omega) (by unfold KI scr at k; omega) (by omega)
          have hIV : IV G (mtr (up (wr c1 67 (6 * ki) p (fun y => c 64 (y - 6 * ki))) 62 21 (ki + 1)) 0) := IV.act S ke ⟨T, n, m, u, q, w, x, s, ka, ki + 1, g, V.ka ke (by rw [hF 42 0 (by omega) (by omega) (by omega) (by omega) (by omega)]; exact V.st) (fun p' p0' p1' => by rw [hF 42 0 (by omega) (by omega) (by omega) (by omega) (by omega), hF 64 p' (by omega) (by omega) (by omega) (by omega) (by omega)]; exact V.sv p' p0' p1') (by rw [hF 42 2 (by omega) (by omega) (by omega) (by omega) (by omega), hF 62 20 (by omega) (by omega) (by omega) (by omega) (by omega)]; exact V.ac) V.kb (fun y y0 y1 => by rw [hF 43 y (by omega) (by omega) (by omega) (by omega) (by omega)]; exact V.ar y y0 y1) (fun y p' y0 y1 p0' p1' => by rw [hF 43 y (by omega) (by omega) (by omega) (by omega) (by omega), hF 66 _ (by omega) (by omega) (by omega) (by omega) (by omega)]; exact V.av y p' y0 y1 p0' p1') ⟨c42, by rw [mtr_o (by omega), up_eq]⟩ (by omega) (fun y y0 y1 => by
              rw [c44]
              by_cases e : y = ki
              · rw [if_pos e]; exact V.st
              · rw [if_neg e]; exact V.ir y y0 (by omega)) (fun y p' y0 y1 p0' p1' => by
              rw [c44]
              by_cases e : y = ki
              · rw [if_pos e, e, c67a p' p0' (by omega)]; exact V.sv p' p0' p1'
              · rw [if_neg e, c67b _ (by omega)]; exact V.iv y p' y0 (by omega) p0' p1')⟩ (by rw [mtr_t, c07]) (mtr_w _ _) (by rw [c07]; decide)
          exact ⟨rfl, rfl, hIV⟩
        | succ j ih =>
          intro p p0 hp
          have M3 : MDs G (wr c1 67 (6 * ki) p (fun y => c 64 (y - 6 * ki))) T := M2.kp (fun x y k => by rw [wr_ne (by unfold Kp at k; omega)])
          have x21 : wr c1 67 (6 * ki) p (fun y => c 64 (y - 6 * ki)) 62 21 = ki := by rw [wr_ne (by decide), hk1 62 21 (by omega) (by omega) (by omega) (by omega)]; exact him.2
          have wp : w32 (p + 1) = p + 1 := w32i (by omega) (by omega)
          have w6 : w32 (6 * ki) = 6 * ki := w32i (by omega) (by omega)
          have w7 : w32 (6 * ki + p) = 6 * ki + p := w32i (by omega) (by omega)
          apply wp_X12_keep_34
          rw [if_pos (by omega)]
          simp only [M3.p19, M.l67, M3.p16, M.l64, x21, wp, w6, w7]
          refine ⟨by omega, by omega, by omega, by omega, by omega, ?_⟩
          rintro _ rfl
          rw [wr_up (by omega) (by omega) (by rw [wr_ne (by decide), hk1 64 p (by omega) (by omega) (by omega) (by omega)]; congr 1; omega)]
          exact ih (p + 1) (by omega) (by omega)
      have hgo := lp 6 0 (by omega) (by omega)
      rw [wr_zero (by omega)] at hgo
      exact hgo
    · rw [if_neg hk]
      simp only [q_refused]
      refine ev_X12_keep (d + 39) _ G _ 62 (by decide) ⟨by decide, ?_⟩
      rintro _ rfl
      have e21 : up (up c 0 6 3) 62 0 0 62 21 = 3 := by rw [up_nj (by decide), up_na (by decide), him.2]; omega
      simp only [q_misSlot _ _ _ _ T (M1 _), q_misPerson _ _ _ _ T (M1 _), q_misTurn _ _ _ _ T (M1 _), q_mareTwo _ _ _ _ T (M1 _), q_misPlace _ _ _ _ T (M1 _), (M1 _).p3, hTn, rT, v1, v3, v4, ↓reduceIte, Int.reduceLE, true_and, e21, q_mrefused, and_self]
      exact ⟨rfl, rfl, IV.q H0 (by decide) (agr_0 _)⟩
theorem k_back (d : Nat) (G : MG) (c : MC) (a : Int) (H : IV G c) : EvI (d + 40) mX10_back [mR 16 0, mI a] (G, c) (fun r1 ν1 => EvI (d + 40) mX12_back [mR 18 62, mI a] (ν1.1, ν1.2) (fun r2 ν2 => K2 G r1 r2 ν2)) := by
  obtain ⟨hr, t, z, S, V⟩ := H
  have H0 : IV0 G c := ⟨t, z, S, V⟩
  rcases V with V | ⟨T, n, m, u, q, w, x, s, ka, ki, g, V⟩
  · have I := S.ciN V
    have e1 := V.e1; have e3 := V.e3; have e4 := V.e4; have N := V.T
    have N1 : ∀ wy, up (up c 0 6 wy) 62 0 0 62 3 = -1 := fun wy => by rw [up_nj (by decide), up_na (by decide)]; exact N
    refine ev_X10_back (d + 39) _ G c 0 a (by decide) ?_
    simp only [I.p3, V.i, q_refused]
    have hh : ¬ (0 ≤ a ∧ a < 0) := by omega
    by_cases ha : a < 0
    · rw [if_pos ha]
      (repeat (refine And.intro (by first | omega | (simp only [true_and, and_true, and_self]; omega) | (simp only [true_and, and_true, and_self])) ?_))
      refine ev_X12_back (d + 39) _ G _ 62 a (by decide) ⟨by decide, ?_⟩
      rintro _ rfl
      simp only [N1, ↓reduceIte, q_mdenied, Int.reduceNeg, Int.reduceLT, Int.reduceLE, true_and, and_self]
      exact ⟨rfl, rfl, IV.q H0 (by decide) (agr_0 _)⟩
    · rw [if_neg ha, if_neg ha]
      (repeat (refine And.intro (by first | omega | (simp only [true_and, and_true, and_self]; omega) | (simp only [true_and, and_true, and_self])) ?_))
      refine ev_X12_back (d + 39) _ G _ 62 a (by decide) ⟨by decide, ?_⟩
      rintro _ rfl
      simp only [N1, ↓reduceIte, q_mdenied, Int.reduceNeg, Int.reduceLT, Int.reduceLE, true_and, and_self]
      exact ⟨rfl, rfl, IV.q H0 (by decide) (agr_0 _)⟩
  · have I := S.ciT V
    have M := V.M; have hT := M.T; have ht := V.t
    have v1 := V.v1; have v3 := V.v3; have v4 := V.v4; have e0 := V.e0; have e1 := V.e1; have e3 := V.e3; have e4 := V.e4; have e5 := V.e5
    have b0 := M.b0; have b1 := M.b1; have b3 := M.b3; have b4 := M.b4
    rw [v1] at b1; rw [v3] at b3; rw [v4] at b4
    have hnp : 0 < n := by omega
    have hTn : ¬ T < 0 := by omega
    have M1 : ∀ wy, MDs G (up (up c 0 6 wy) 62 0 0) T := fun wy => (M.ki ki_up7).agr (agr_0 _)
    have r64 : ∀ wy, up (up c 0 6 wy) 62 0 0 64 = c 64 := fun wy => by funext j; rw [up_na (by decide), up_na (by decide)]
    have rT : ∀ wy k, up (up c 0 6 wy) 62 0 0 T k = c T k := fun wy k => by rw [up_na (by omega), up_na (by omega)]
    have rTT : ∀ wy (a : Int), 0 ≤ a → up (up c 0 6 wy) 62 0 0 (T + a) = c (T + a) := fun wy a ha => by funext j; rw [up_na (by omega), up_na (by omega)]
    have rS : ∀ wy a b, sld (up (up c 0 6 wy) 62 0 0) T a b = sld c T a b := fun wy a b => sld_eq (fun a j q => by rw [up_na (by omega), up_na (by omega)]) hT
    have hS : ∀ a b, 0 ≤ a → a < u → 0 ≤ b → b < n → sld c T a b = dg (g a) b := fun a b h1 h2 h3 h4 => by unfold sld; rw [v4, if_pos h2]; exact V.tk a b h1 h2 h3 h4
    have V1 : ∀ wy, TV G (up (up c 0 6 wy) 62 0 0) t T n m u q w x s ka ki g := fun wy => (V.kp ki_up7).kp (ki_agr (agr_0 _))
    have him := V.im; have hib := V.ib
    refine ev_X10_back (d + 39) _ G c 0 a (by decide) ?_
    simp only [I.p3, him.1, q_refused]
    by_cases ha : a < 0
    · rw [if_pos ha]
      (repeat (refine And.intro (by first | omega | (simp only [true_and, and_true, and_self]; omega) | (simp only [true_and, and_true, and_self])) ?_))
      refine ev_X12_back (d + 39) _ G _ 62 a (by decide) ⟨by decide, ?_⟩
      rintro _ rfl
      simp only [q_misSlot _ _ _ _ T (M1 _), q_misPerson _ _ _ _ T (M1 _), q_misTurn _ _ _ _ T (M1 _), q_mareTwo _ _ _ _ T (M1 _), q_misPlace _ _ _ _ T (M1 _), (M1 _).p3, hTn, rT, v1, v3, v4, ↓reduceIte, Int.reduceLE, true_and, ha, q_mdenied, and_self]
      (repeat (refine And.intro (by first | omega | (simp only [true_and, and_true, and_self]; omega) | (simp only [true_and, and_true, and_self])) ?_))
      exact ⟨rfl, rfl, IV.q H0 (by decide) (agr_0 _)⟩
    · rw [if_neg ha]
      by_cases hk : a < ki
      · rw [if_pos hk]
        refine ⟨by omega, by omega, by omega, ?_⟩
        refine ev_X8_goBack (d + 38) _ G c 42 a (by decide) ?_
        rw [if_neg ha, him.1, if_pos hk, S.s3, S.l44]
        refine ⟨by omega, by omega, by omega, by omega, ?_⟩
        rintro _ rfl
        refine And.intro (by omega) ?_
        rintro _ rfl
        simp only [q_fine]
        refine ⟨by omega, ?_⟩
        obtain ⟨c1, hc1⟩ : ∃ c1, c1 = up (up (up (up c 42 0 (c 44 a)) 42 2 0) 0 6 0) 62 0 0 := ⟨_, rfl⟩
        have hk1 : ∀ x y, ¬ (x = 42 ∧ (y = 0 ∨ y = 2)) → ¬ (x = 0 ∧ y = 6) → ¬ (x = 62 ∧ y = 0) → c1 x y = c x y := fun x y q1 q3 q4 => by rw [hc1, up_o q4, up_o q3, up_o (by omega), up_o (by omega)]
        have M2 : MDs G c1 T := M.kp (fun x y k => hk1 x y (by unfold Kp at k; omega) (by unfold Kp at k; omega) (by unfold Kp at k; omega))
        refine ev_X12_back (d + 39) _ G _ 62 a (by decide) ⟨by decide, ?_⟩
        rintro c9 he
        have he2 : c1 = c9 := hc1.trans he.symm
        clear he
        subst he2
        rw [M2.p3, if_neg hTn, if_neg ha, hk1 62 21 (by omega) (by omega) (by omega), him.2, if_pos hk]
        refine ⟨by omega, by omega, ?_⟩
        have lp : ∀ (j : Nat) (p : Int), 0 ≤ p → p + j = 6 → At (d + 39 + 1) mX12_back 32 [mR 18 62, mI a, mI p] [] (G, wr c1 64 0 p (fun y => c 67 (6 * a + y))) (QI fun r2 ν2 => K2 G 1 r2 ν2) := by
          intro j
          induction j with
          | zero =>
            intro p p0 hp
            apply wp_X12_back_32
            rw [if_neg (by omega)]
            refine And.intro (by omega) ?_
            rintro _ rfl
            simp only [q_mgranted]
            have hF : ∀ x y, ¬ (x = 42 ∧ (y = 0 ∨ y = 2)) → ¬ (x = 0 ∧ y = 6) → ¬ (x = 62 ∧ (y = 0 ∨ y = 1 ∨ y = 2 ∨ y = 20)) → x ≠ 64 → mtr (up (wr c1 64 0 p (fun y => c 67 (6 * a + y))) 62 20 0) 0 x y = c x y := fun x y q1 q3 q4 q6 => by
              rw [mtr_o (by omega), up_o (by omega), wr_ne q6]; exact hk1 x y q1 q3 (by omega)
            have e42 : mtr (up (wr c1 64 0 p (fun y => c 67 (6 * a + y))) 62 20 0) 0 42 0 = c 44 a := by rw [mtr_o (by omega), up_na (by decide), wr_ne (by decide), hc1, up_na (by decide), up_na (by decide), up_nj (by decide), up_eq]
            have e422 : mtr (up (wr c1 64 0 p (fun y => c 67 (6 * a + y))) 62 20 0) 0 42 2 = 0 := by rw [mtr_o (by omega), up_na (by decide), wr_ne (by decide), hc1, up_na (by decide), up_na (by decide), up_eq]
            have c07 : mtr (up (wr c1 64 0 p (fun y => c 67 (6 * a + y))) 62 20 0) 0 0 6 = 0 := by rw [mtr_o (by omega), up_na (by decide), wr_ne (by decide), hc1, up_na (by decide), up_eq]
            have c64 : ∀ y, 0 ≤ y → y < 6 → mtr (up (wr c1 64 0 p (fun y => c 67 (6 * a + y))) 62 20 0) 0 64 y = c 67 (6 * a + y) := fun y y0 y1 => by rw [mtr_o (by omega), up_na (by decide), wr_in y0 (by omega)]
            have ke : ∀ x y, KI x y → ¬ (x = 42 ∧ (y = 0 ∨ y = 2 ∨ y = 4)) → ¬ (43 ≤ x ∧ x ≤ 44) → x ≠ 64 → ¬ (66 ≤ x ∧ x ≤ 67) → ¬ (x = 62 ∧ (y = 20 ∨ y = 21)) → mtr (up (wr c1 64 0 p (fun y => c 67 (6 * a + y))) 62 20 0) 0 x y = c x y := fun x y k q2 q3 q4 q5 q6 => hF x y (by omega) (by unfold KI at k; omega) (by unfold KI scr at k; omega) q4
            have hIV : IV G (mtr (up (wr c1 64 0 p (fun y => c 67 (6 * a + y))) 62 20 0) 0) := IV.act S ke ⟨T, n, m, u, q, w, x, s, 0, ki, g, V.ka ke (by rw [e42]; exact V.ir _ (by omega) (by omega)) (fun p' p0' p1' => by rw [e42, c64 p' p0' (by omega)]; exact V.iv _ p' (by omega) (by omega) p0' p1') ⟨e422, by rw [mtr_o (by omega), up_eq]⟩ (by omega) (fun y y0 y1 => by omega) (fun y p' y0 y1 p0' p1' => by omega) (by rw [hF 42 4 (by omega) (by omega) (by omega) (by omega), hF 62 21 (by omega) (by omega) (by omega) (by omega)]; exact V.im) V.ib (fun y y0 y1 => by rw [hF 44 y (by omega) (by omega) (by omega) (by omega)]; exact V.ir y y0 y1) (fun y p' y0 y1 p0' p1' => by rw [hF 44 y (by omega) (by omega) (by omega) (by omega), hF 67 _ (by omega) (by omega) (by omega) (by omega)]; exact V.iv y p' y0 y1 p0' p1')⟩ (by rw [mtr_t, c07]) (mtr_w _ _) (by rw [c07]; decide)
            refine And.intro (by omega) ?_
            exact ⟨rfl, rfl, hIV⟩
          | succ j ih =>
            intro p p0 hp
            have M3 : MDs G (wr c1 64 0 p (fun y => c 67 (6 * a + y))) T := M2.kp (fun x y k => by rw [wr_ne (by unfold Kp at k; omega)])
            have wp : w32 (p + 1) = p + 1 := w32i (by omega) (by omega)
            have w6 : w32 (6 * a) = 6 * a := w32i (by omega) (by omega)
            have w7 : w32 (6 * a + p) = 6 * a + p := w32i (by omega) (by omega)
            apply wp_X12_back_32
            rw [if_pos (by omega)]
            simp only [M3.p19, M.l67, M3.p16, M.l64, wp, w6, w7]
            refine ⟨by omega, by omega, by omega, by omega, ?_⟩
            rintro _ rfl
            rw [wr_up p0 (by omega) (by rw [wr_ne (by decide)]; exact hk1 67 _ (by omega) (by omega) (by omega))]
            exact ih (p + 1) (by omega) (by omega)
        have hgo := lp 6 0 (by omega) (by omega)
        rw [wr_zero (by omega)] at hgo
        exact hgo
      · rw [if_neg hk]
        (repeat (refine And.intro (by first | omega | (simp only [true_and, and_true, and_self]; omega) | (simp only [true_and, and_true, and_self])) ?_))
        refine ev_X12_back (d + 39) _ G _ 62 a (by decide) ⟨by decide, ?_⟩
        rintro _ rfl
        have e21 : up (up c 0 6 1) 62 0 0 62 21 = ki := by rw [up_nj (by decide), up_na (by decide), him.2]
        simp only [q_misSlot _ _ _ _ T (M1 _), q_misPerson _ _ _ _ T (M1 _), q_misTurn _ _ _ _ T (M1 _), q_mareTwo _ _ _ _ T (M1 _), q_misPlace _ _ _ _ T (M1 _), (M1 _).p3, hTn, rT, v1, v3, v4, ↓reduceIte, Int.reduceLE, true_and, e21, ha, hk, q_mdenied, and_self]
        (repeat (refine And.intro (by first | omega | (simp only [true_and, and_true, and_self]; omega) | (simp only [true_and, and_true, and_self])) ?_))
        exact ⟨rfl, rfl, IV.q H0 (by decide) (agr_0 _)⟩
