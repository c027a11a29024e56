theorem mtr_o {c : MC} {v a j : Int} (h : ¬ (a = 62 ∧ (j = 1 ∨ j = 2))) : mtr c v a j = c a j := by
  unfold mtr
  by_cases e : a = 62
  · rw [up_nj (by omega), up_nj (by omega)]
  · rw [up_na e, up_na e]
theorem up_o {c : MC} {x y v a j : Int} (h : ¬ (a = x ∧ j = y)) : up c x y v a j = c a j := by unfold up; rw [if_neg h]
theorem k_move (d : Nat) (G : MG) (c : MC) (a b : Int) (H : IV G c) : EvI (d + 40) mX10_move [mR 16 0, mI a, mI b] (G, c) (fun r1 ν1 => EvI (d + 40) mX12_move [mR 18 62, mI a, mI b] (ν1.1, ν1.2) (fun r2 ν2 => K2 G r1 r2 ν2)) := by
  obtain ⟨hr, t, z, S, V⟩ := H
  have H0 : IV0 G c := ⟨t, z, S, V⟩
  rcases V with V | ⟨T, n, m, u, q, w, x, s, ka, ki, g, V⟩
  · have I := S.ciN V
    have e1 := V.e1; have e3 := V.e3; have e4 := V.e4; have N := V.T
    have N1 : ∀ wy, up (up c 0 6 wy) 62 0 0 62 3 = -1 := fun wy => by rw [up_nj (by decide), up_na (by decide)]; exact N
    refine ev_X10_move (d + 39) _ G c 0 a b (by decide) ?_
    simp only [z_isTube _ _ _ _ t I e1, z_isPerson _ _ _ _ t I _ e3, z_isSlot _ _ _ _ t I _ e1, z_isTurn _ _ _ _ t I _ e4, z_areTwo _ _ _ _ t I _ _ e3, z_isPlace _ _ _ _ t I _ e1, ↓reduceIte, q_refused]
    refine ev_X12_move (d + 39) _ G _ 62 a b (by decide) ⟨by decide, ?_⟩
    rintro _ rfl
    simp only [q_nisSlot _ _ _ _ (N1 _), q_nisPerson _ _ _ _ (N1 _), q_nisTurn _ _ _ _ (N1 _), q_nareTwo _ _ _ _ (N1 _), q_nisPlace _ _ _ _ (N1 _), N1, ↓reduceIte, q_mrefused, Int.reduceNeg, Int.reduceLT, Int.reduceLE, true_and]
    exact ⟨rfl, rfl, IV.q H0 (by decide) (agr_0 _)⟩
  · have I := S.ciT V
    have M := V.M; have hT := M.T; have ht := V.t
    have v1 := V.v1; have v3 := V.v3; have v4 := V.v4; have e0 := V.e0; have e1 := V.e1; have e3 := V.e3; have e4 := V.e4; have e5 := V.e5
    have b0 := M.b0; have b1 := M.b1; have b3 := M.b3; have b4 := M.b4
    rw [v1] at b1; rw [v3] at b3; rw [v4] at b4
    have hnp : 0 < n := by omega
    have hTn : ¬ T < 0 := by omega
    have M1 : ∀ wy, MDs G (up (up c 0 6 wy) 62 0 0) T := fun wy => (M.ki ki_up7).agr (agr_0 _)
    have r64 : ∀ wy, up (up c 0 6 wy) 62 0 0 64 = c 64 := fun wy => by funext j; rw [up_na (by decide), up_na (by decide)]
    have rT : ∀ wy k, up (up c 0 6 wy) 62 0 0 T k = c T k := fun wy k => by rw [up_na (by omega), up_na (by omega)]
    have rTT : ∀ wy (a : Int), 0 ≤ a → up (up c 0 6 wy) 62 0 0 (T + a) = c (T + a) := fun wy a ha => by funext j; rw [up_na (by omega), up_na (by omega)]
    have rS : ∀ wy a b, sld (up (up c 0 6 wy) 62 0 0) T a b = sld c T a b := fun wy a b => sld_eq (fun a j q => by rw [up_na (by omega), up_na (by omega)]) hT
    have hS : ∀ a b, 0 ≤ a → a < u → 0 ≤ b → b < n → sld c T a b = dg (g a) b := fun a b h1 h2 h3 h4 => by unfold sld; rw [v4, if_pos h2]; exact V.tk a b h1 h2 h3 h4
    have V1 : ∀ wy, TV G (up (up c 0 6 wy) 62 0 0) t T n m u q w x s ka ki g := fun wy => (V.kp ki_up7).kp (ki_agr (agr_0 _))
    skip
    refine ev_X10_move (d + 39) _ G c 0 a b (by decide) ?_
    simp only [q_isTube _ _ _ _ t I, q_isPerson _ _ _ _ t I, q_isSlot _ _ _ _ t I, q_isTurn _ _ _ _ t I, q_areTwo _ _ _ _ t I, q_isPlace _ _ _ _ t I, e0, e1, e3, e4, hnp, ↓reduceIte]
    by_cases h1 : 0 ≤ a ∧ a < m
    · by_cases h2 : 0 ≤ b ∧ b < n
      · simp only [h1, h2, and_self, ↓reduceIte, q_whoIsIn _ _ _ _ t I, e3]
        have hwho : whoF (dg (c 42 0)) m b = whoF (c 64) m b := whoF_congr (fun p p0 p1 => (V.sv p p0 p1).1)
        rw [hwho]
        by_cases h3 : whoF (c 64) m b = -2
        · simp only [h3, ↓reduceIte, q_slotOf _ _ _ _ t I, I.p3, q_X7_with, q_act _ _ _ _ _ ka S.s1 S.l43 V.ac.1 V.kb.1 V.kb.2, q_fine]
          (repeat (refine And.intro (by first | omega | (simp only [true_and, and_true, and_self]; omega) | (simp only [true_and, and_true, and_self])) ?_))
          obtain ⟨ha1, ha2, ha3, ha4⟩ := actM_all (c := c) (nx := wth (c 42 0) a b) V.ac.1 V.kb.1 V.kb.2
          have hwt := wth_all (x := c 42 0) (i := a) (v := b) V.st.1 V.st.2 h1.1 (by omega) h2.1 (by omega)
          obtain ⟨c1, hc1⟩ : ∃ c1, c1 = up (up (actM c (wth (c 42 0) a b)) 0 6 0) 62 0 0 := ⟨_, rfl⟩
          have hk1 : ∀ x y, ¬ (x = 42 ∧ (y = 0 ∨ y = 2)) → x ≠ 43 → ¬ (x = 0 ∧ y = 6) → ¬ (x = 62 ∧ y = 0) → c1 x y = c x y := fun x y q1 q2 q3 q4 => by rw [hc1, up_o q4, up_o q3, ha4 x y q1 q2]
          have M2 : MDs G c1 T := M.kp (fun x y k => hk1 x y (by unfold Kp at k; omega) (by unfold Kp at k; omega) (by unfold Kp at k; omega) (by unfold Kp at k; omega))
          refine ev_X12_move (d + 39) _ G _ 62 a b (by decide) ⟨by decide, ?_⟩
          rintro c9 he
          have he2 : c1 = c9 := hc1.trans he.symm
          clear he
          subst he2
          have r661 : ∀ p, c1 66 p = c 66 p := fun p => hk1 66 p (by omega) (by omega) (by omega) (by omega)
          have r641 : ∀ p, c1 64 p = c 64 p := fun p => hk1 64 p (by omega) (by omega) (by omega) (by omega)
          simp only [q_misPerson _ _ _ _ T M2, q_misSlot _ _ _ _ T M2, q_whoIn _ _ _ _ T M2, hk1 T 3 (by omega) (by omega) (by omega) (by omega), hk1 T 1 (by omega) (by omega) (by omega) (by omega), v3, v1, h1, h2, and_self, ↓reduceIte]
          rw [whoF_congr (fun p _ _ => r641 p), h3, if_pos rfl]
          refine f_remembers _ _ G _ T M2 ka (by rw [hk1 62 20 (by omega) (by omega) (by omega) (by omega)]; exact V.ac.2) V.kb.1 V.kb.2 (fun c3 g1 g2 g3 => ?_)
          have p16 : c3 62 16 = 64 := by rw [g3 62 16 (by decide) (by omega)]; exact M2.p16
          simp only [p16, M.l64, q_mgood, g3 64 a (by decide) (by omega), r641]
          (repeat (refine And.intro (by first | omega | (simp only [true_and, and_true, and_self]; omega) | (simp only [true_and, and_true, and_self])) ?_))
          rintro _ rfl
          have hF : ∀ x y, ¬ (x = 42 ∧ (y = 0 ∨ y = 2)) → x ≠ 43 → ¬ (x = 0 ∧ y = 6) → ¬ (x = 62 ∧ (y = 0 ∨ y = 1 ∨ y = 2 ∨ y = 20)) → x ≠ 66 → x ≠ 64 → mtr (up c3 64 a b) 0 x y = c x y := fun x y q1 q2 q3 q4 q5 q6 => by
            rw [mtr_o (by omega), up_na q6, g3 x y q5 (by omega)]; exact hk1 x y q1 q2 q3 (by omega)
          have c42 : ∀ y, mtr (up c3 64 a b) 0 42 y = actM c (wth (c 42 0) a b) 42 y := fun y => by rw [mtr_o (by omega), up_na (by decide), g3 42 y (by decide) (by omega), hc1, up_na (by decide), up_na (by decide)]
          have c43 : ∀ y, mtr (up c3 64 a b) 0 43 y = actM c (wth (c 42 0) a b) 43 y := fun y => by rw [mtr_o (by omega), up_na (by decide), g3 43 y (by decide) (by omega), hc1, up_na (by decide), up_na (by decide)]
          have c07 : mtr (up c3 64 a b) 0 0 6 = 0 := by rw [mtr_o (by omega), up_na (by decide), g3 0 6 (by decide) (by omega), hc1, up_na (by decide), up_eq]
          have ke : ∀ x y, KI x y → ¬ (x = 42 ∧ (y = 0 ∨ y = 2 ∨ y = 4)) → ¬ (43 ≤ x ∧ x ≤ 44) → x ≠ 64 → ¬ (66 ≤ x ∧ x ≤ 67) → ¬ (x = 62 ∧ (y = 20 ∨ y = 21)) → mtr (up c3 64 a b) 0 x y = c x y := fun x y k q2 q3 q4 q5 q6 => hF x y (by omega) (by omega) (by unfold KI at k; omega) (by unfold KI scr at k; omega) (by omega) q4
          have hTU : TU G (mtr (up c3 64 a b) 0) t := tv_acted V (wth (c 42 0) a b) _ ke (by rw [c42]; exact ha1) hwt.1 (fun p p0 p1 => by
              rw [hwt.2 p p0 (by omega), mtr_o (by omega)]
              by_cases e : p = a
              · rw [if_pos e, e, up_eq]; exact ⟨rfl, h2⟩
              · rw [if_neg e, up_nj e, g3 64 p (by decide) (by omega), r641]; exact V.sv p p0 p1) (by rw [c42]; exact ha2) (by rw [mtr_o (by omega), up_na (by decide)]; exact g1) (fun x x0 x1 => by rw [c43]; exact ha3 x x0 x1) (fun x p x0 x1 p0 p1 => by rw [mtr_o (by omega), up_na (by decide), g2 x p x0 x1 p0 p1]; simp only [r641, r661]) (by rw [c42]; exact ha4 42 4 (by omega) (by decide)) (hF 62 21 (by omega) (by omega) (by omega) (by omega) (by omega) (by omega)) (fun x => hF 44 x (by omega) (by omega) (by omega) (by omega) (by omega) (by omega)) (fun x => hF 67 x (by omega) (by omega) (by omega) (by omega) (by omega) (by omega))
          have hIV : IV G (mtr (up c3 64 a b) 0) := IV.act S ke hTU (by rw [mtr_t, c07]) (mtr_w _ _) (by rw [c07]; decide)
          exact ⟨(V.sv a h1.1 h1.2).1, rfl, hIV⟩
        · simp only [h3, ↓reduceIte, q_refused]
          refine ev_X12_move (d + 39) _ G _ 62 a b (by decide) ⟨by decide, ?_⟩
          rintro _ rfl
          simp only [q_misSlot _ _ _ _ T (M1 _), q_misPerson _ _ _ _ T (M1 _), q_misTurn _ _ _ _ T (M1 _), q_mareTwo _ _ _ _ T (M1 _), q_misPlace _ _ _ _ T (M1 _), (M1 _).p3, hTn, rT, v1, v3, v4, ↓reduceIte, Int.reduceLE, true_and, h1, h2, and_self, ↓reduceIte, q_whoIn _ _ _ _ T (M1 _), r64, h3, q_mrefused]
          exact ⟨rfl, rfl, IV.q H0 (by decide) (agr_0 _)⟩
      · simp only [h1, h2, and_self, ↓reduceIte, q_refused]
        refine ev_X12_move (d + 39) _ G _ 62 a b (by decide) ⟨by decide, ?_⟩
        rintro _ rfl
        simp only [q_misSlot _ _ _ _ T (M1 _), q_misPerson _ _ _ _ T (M1 _), q_misTurn _ _ _ _ T (M1 _), q_mareTwo _ _ _ _ T (M1 _), q_misPlace _ _ _ _ T (M1 _), (M1 _).p3, hTn, rT, v1, v3, v4, ↓reduceIte, Int.reduceLE, true_and, h1, h2, and_self, ↓reduceIte, q_mrefused]
        exact ⟨rfl, rfl, IV.q H0 (by decide) (agr_0 _)⟩
    · simp only [h1, and_self, ↓reduceIte, q_refused]
      refine ev_X12_move (d + 39) _ G _ 62 a b (by decide) ⟨by decide, ?_⟩
      rintro _ rfl
      simp only [q_misSlot _ _ _ _ T (M1 _), q_misPerson _ _ _ _ T (M1 _), q_misTurn _ _ _ _ T (M1 _), q_mareTwo _ _ _ _ T (M1 _), q_misPlace _ _ _ _ T (M1 _), (M1 _).p3, hTn, rT, v1, v3, v4, ↓reduceIte, Int.reduceLE, true_and, h1, and_self, ↓reduceIte, q_mrefused]
      exact ⟨rfl, rfl, IV.q H0 (by decide) (agr_0 _)⟩
theorem k_undo (d : Nat) (G : MG) (c : MC) (H : IV G c) : EvI (d + 40) mX10_undo [mR 16 0] (G, c) (fun r1 ν1 => EvI (d + 40) mX12_undo [mR 18 62] (ν1.1, ν1.2) (fun r2 ν2 => K2 G r1 r2 ν2)) := by
  obtain ⟨hr, t, z, S, V⟩ := H
  have H0 : IV0 G c := ⟨t, z, S, V⟩
  rcases V with V | ⟨T, n, m, u, q, w, x, s, ka, ki, g, V⟩
  · have I := S.ciN V
    have e1 := V.e1; have e3 := V.e3; have e4 := V.e4; have N := V.T
    have N1 : ∀ wy, up (up c 0 6 wy) 62 0 0 62 3 = -1 := fun wy => by rw [up_nj (by decide), up_na (by decide)]; exact N
    refine ev_X10_undo (d + 39) _ G c 0 (by decide) ?_
    simp only [I.p3, V.a, ↓reduceIte, q_refused]
    (repeat (refine And.intro (by first | omega | (simp only [true_and, and_true, and_self]; omega) | (simp only [true_and, and_true, and_self])) ?_))
    refine ev_X12_undo (d + 39) _ G _ 62 (by decide) ⟨by decide, ?_⟩
    rintro _ rfl
    simp only [N1, ↓reduceIte, q_mdenied, Int.reduceNeg, Int.reduceLT, Int.reduceLE, true_and, and_self]
    exact ⟨rfl, rfl, IV.q H0 (by decide) (agr_0 _)⟩
  · have I := S.ciT V
    have M := V.M; have hT := M.T; have ht := V.t
    have v1 := V.v1; have v3 := V.v3; have v4 := V.v4; have e0 := V.e0; have e1 := V.e1; have e3 := V.e3; have e4 := V.e4; have e5 := V.e5
    have b0 := M.b0; have b1 := M.b1; have b3 := M.b3; have b4 := M.b4
    rw [v1] at b1; rw [v3] at b3; rw [v4] at b4
    have hnp : 0 < n := by omega
    have hTn : ¬ T < 0 := by omega
    have M1 : ∀ wy, MDs G (up (up c 0 6 wy) 62 0 0) T := fun wy => (M.ki ki_up7).agr (agr_0 _)
    have r64 : ∀ wy, up (up c 0 6 wy) 62 0 0 64 = c 64 := fun wy => by funext j; rw [up_na (by decide), up_na (by decide)]
    have rT : ∀ wy k, up (up c 0 6 wy) 62 0 0 T k = c T k := fun wy k => by rw [up_na (by omega), up_na (by omega)]
    have rTT : ∀ wy (a : Int), 0 ≤ a → up (up c 0 6 wy) 62 0 0 (T + a) = c (T + a) := fun wy a ha => by funext j; rw [up_na (by omega), up_na (by omega)]
    have rS : ∀ wy a b, sld (up (up c 0 6 wy) 62 0 0) T a b = sld c T a b := fun wy a b => sld_eq (fun a j q => by rw [up_na (by omega), up_na (by omega)]) hT
    have hS : ∀ a b, 0 ≤ a → a < u → 0 ≤ b → b < n → sld c T a b = dg (g a) b := fun a b h1 h2 h3 h4 => by unfold sld; rw [v4, if_pos h2]; exact V.tk a b h1 h2 h3 h4
    have V1 : ∀ wy, TV G (up (up c 0 6 wy) 62 0 0) t T n m u q w x s ka ki g := fun wy => (V.kp ki_up7).kp (ki_agr (agr_0 _))
    have hac := V.ac
    refine ev_X10_undo (d + 39) _ G c 0 (by decide) ?_
    simp only [I.p3, hac.1, q_refused]
    (repeat (refine And.intro (by first | omega | (simp only [true_and, and_true, and_self]; omega) | (simp only [true_and, and_true, and_self])) ?_))
    by_cases hk : ka = 0
    · rw [if_pos hk]
      (repeat (refine And.intro (by first | omega | (simp only [true_and, and_true, and_self]; omega) | (simp only [true_and, and_true, and_self])) ?_))
      refine ev_X12_undo (d + 39) _ G _ 62 (by decide) ⟨by decide, ?_⟩
      rintro _ rfl
      have e20 : up (up c 0 6 6) 62 0 0 62 20 = 0 := by rw [up_nj (by decide), up_na (by decide), hac.2]; exact hk
      simp only [q_misSlot _ _ _ _ T (M1 _), q_misPerson _ _ _ _ T (M1 _), q_misTurn _ _ _ _ T (M1 _), q_mareTwo _ _ _ _ T (M1 _), q_misPlace _ _ _ _ T (M1 _), (M1 _).p3, hTn, rT, v1, v3, v4, ↓reduceIte, Int.reduceLE, true_and, e20, q_mdenied, and_self]
      exact ⟨rfl, rfl, IV.q H0 (by decide) (agr_0 _)⟩
    · rw [if_neg hk]
      have kb := V.kb
      have w1 : w32 (ka - 1) = ka - 1 := w32i (by omega) (by omega)
      refine And.intro (by omega) ?_
      refine ev_X8_takeBack (d + 38) _ G c 42 (by decide) ?_
      rw [hac.1, w1]
      refine ⟨by omega, ?_⟩
      rw [if_pos (by omega)]
      refine ⟨by omega, by omega, ?_⟩
      rintro _ rfl
      rw [up_nj (by decide), S.s1, up_eq, up_na (by decide), S.l43]
      refine ⟨by omega, by omega, by omega, by omega, ?_⟩
      rintro _ rfl
      simp only [q_fine]
      refine ⟨by omega, ?_⟩
      obtain ⟨c1, hc1⟩ : ∃ c1, c1 = up (up (up (up c 42 2 (ka - 1)) 42 0 (c 43 (ka - 1))) 0 6 0) 62 0 0 := ⟨_, rfl⟩
      have hk1 : ∀ x y, ¬ (x = 42 ∧ (y = 0 ∨ y = 2)) → ¬ (x = 0 ∧ y = 6) → ¬ (x = 62 ∧ y = 0) → c1 x y = c x y := fun x y q1 q3 q4 => by rw [hc1, up_o q4, up_o q3, up_o (by omega), up_o (by omega)]
      have M2 : MDs G c1 T := M.kp (fun x y k => hk1 x y (by unfold Kp at k; omega) (by unfold Kp at k; omega) (by unfold Kp at k; omega))
      refine ev_X12_undo (d + 39) _ G _ 62 (by decide) ⟨by decide, ?_⟩
      rintro c9 he
      have he2 : c1 = c9 := hc1.trans he.symm
      clear he
      subst he2
      rw [M2.p3, if_neg hTn, hk1 62 20 (by omega) (by omega) (by omega), hac.2, if_neg hk, w1]
      refine ⟨by omega, by omega, by omega, by omega, ?_⟩
      rintro _ rfl
      have lp : ∀ (j : Nat) (p : Int), 0 ≤ p → p + j = 6 → At (d + 39 + 1) mX12_undo 38 [mR 18 62, mI p] [] (G, wr (up c1 62 20 (ka - 1)) 64 0 p (fun y => c 66 (6 * (ka - 1) + y))) (QI fun r2 ν2 => K2 G 1 r2 ν2) := by
        intro j
        induction j with
        | zero =>
          intro p p0 hp
          apply wp_X12_undo_38
          rw [if_neg (by omega)]
          simp only [q_mgranted]
          refine ⟨by omega, rfl, rfl, ?_⟩
          have hF : ∀ x y, ¬ (x = 42 ∧ (y = 0 ∨ y = 2)) → ¬ (x = 0 ∧ y = 6) → ¬ (x = 62 ∧ (y = 0 ∨ y = 1 ∨ y = 2 ∨ y = 20)) → x ≠ 64 → mtr (wr (up c1 62 20 (ka - 1)) 64 0 p (fun y => c 66 (6 * (ka - 1) + y))) 0 x y = c x y := fun x y q1 q3 q4 q6 => by
            rw [mtr_o (by omega), wr_ne q6, up_o (by omega)]; exact hk1 x y q1 q3 (by omega)
          have c42 : ∀ y, y = 0 ∨ y = 2 → mtr (wr (up c1 62 20 (ka - 1)) 64 0 p (fun y => c 66 (6 * (ka - 1) + y))) 0 42 y = up (up c 42 2 (ka - 1)) 42 0 (c 43 (ka - 1)) 42 y := fun y _ => by rw [mtr_o (by omega), wr_ne (by decide), up_na (by decide), hc1, up_na (by decide), up_na (by decide)]
          have c07 : mtr (wr (up c1 62 20 (ka - 1)) 64 0 p (fun y => c 66 (6 * (ka - 1) + y))) 0 0 6 = 0 := by rw [mtr_o (by omega), wr_ne (by decide), up_na (by decide), hc1, up_na (by decide), up_eq]
          have c64 : ∀ y, 0 ≤ y → y < 6 → mtr (wr (up c1 62 20 (ka - 1)) 64 0 p (fun y => c 66 (6 * (ka - 1) + y))) 0 64 y = c 66 (6 * (ka - 1) + y) := fun y y0 y1 => by rw [mtr_o (by omega), wr_in y0 (by omega)]
          have ke : ∀ x y, KI x y → ¬ (x = 42 ∧ (y = 0 ∨ y = 2 ∨ y = 4)) → ¬ (43 ≤ x ∧ x ≤ 44) → x ≠ 64 → ¬ (66 ≤ x ∧ x ≤ 67) → ¬ (x = 62 ∧ (y = 20 ∨ y = 21)) → mtr (wr (up c1 62 20 (ka - 1)) 64 0 p (fun y => c 66 (6 * (ka - 1) + y))) 0 x y = c x y := fun x y k q2 q3 q4 q5 q6 => hF x y (by omega) (by unfold KI at k; omega) (by unfold KI scr at k; omega) q4
          have e42 : mtr (wr (up c1 62 20 (ka - 1)) 64 0 p (fun y => c 66 (6 * (ka - 1) + y))) 0 42 0 = c 43 (ka - 1) := by rw [c42 0 (Or.inl rfl), up_eq]
          have hIV : IV G (mtr (wr (up c1 62 20 (ka - 1)) 64 0 p (fun y => c 66 (6 * (ka - 1) + y))) 0) := IV.act S ke ⟨T, n, m, u, q, w, x, s, ka - 1, ki, g, V.ka ke (by rw [e42]; exact V.ar _ (by omega) (by omega)) (fun p' p0' p1' => by rw [e42, c64 p' p0' (by omega)]; exact V.av _ p' (by omega) (by omega) p0' p1') ⟨by rw [c42 2 (Or.inr rfl), up_nj (by decide), up_eq], by rw [mtr_o (by omega), wr_ne (by decide), up_eq]⟩ (by omega) (fun y y0 y1 => by rw [hF 43 y (by omega) (by omega) (by omega) (by omega)]; exact V.ar y y0 (by omega)) (fun y p' y0 y1 p0' p1' => by rw [hF 43 y (by omega) (by omega) (by omega) (by omega), hF 66 _ (by omega) (by omega) (by omega) (by omega)]; exact V.av y p' y0 (by omega) p0' p1') (by rw [hF 42 4 (by omega) (by omega) (by omega) (by omega), hF 62 21 (by omega) (by omega) (by omega) (by omega)]; exact V.im) V.ib (fun y y0 y1 => by rw [hF 44 y (by omega) (by omega) (by omega) (by omega)]; exact V.ir y y0 y1) (fun y p' y0 y1 p0' p1' => by rw [hF 44 y (by omega) (by omega) (by omega) (by omega), hF 67 _ (by omega) (by omega) (by omega) (by omega)]; exact V.iv y p' y0 y1 p0' p1')⟩ (by rw [mtr_t, c07]) (mtr_w _ _) (by rw [c07]; decide)
          exact hIV
        | succ j ih =>
          intro p p0 hp
          have M3 : MDs G (wr (up c1 62 20 (ka - 1)) 64 0 p (fun y => c 66 (6 * (ka - 1) + y))) T := M2.kp (fun x y k => by rw [wr_ne (by unfold Kp at k; omega), up_o (by unfold Kp at k; omega)])
          have x20 : wr (up c1 62 20 (ka - 1)) 64 0 p (fun y => c 66 (6 * (ka - 1) + y)) 62 20 = ka - 1 := by rw [wr_ne (by decide), up_eq]
          have wp : w32 (p + 1) = p + 1 := w32i (by omega) (by omega)
          have w6 : w32 (6 * (ka - 1)) = 6 * (ka - 1) := w32i (by omega) (by omega)
          have w7 : w32 (6 * (ka - 1) + p) = 6 * (ka - 1) + p := w32i (by omega) (by omega)
          apply wp_X12_undo_38
          rw [if_pos (by omega)]
          simp only [M3.p18, M.l66, M3.p16, M.l64, x20, wp, w6, w7]
          refine ⟨by omega, by omega, by omega, by omega, by omega, ?_⟩
          rintro _ rfl
          rw [wr_up p0 (by omega) (by rw [wr_ne (by decide), up_na (by decide)]; exact hk1 66 _ (by omega) (by omega) (by omega))]
          exact ih (p + 1) (by omega) (by omega)
      have hgo := lp 6 0 (by omega) (by omega)
      rw [wr_zero (by omega)] at hgo
      exact hgo
