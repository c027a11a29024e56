section
variable {G : MG} {c : MC} {t T n m u q w x s ka ki z : Int} {g : Int → Int}
variable (d : Nat) (P : Int → MM → Prop)
theorem f_turnOnTheWay (V : TV G c t T n m u q w x s ka ki g) (S : SH G c t z) (r i : Int) (hr : r = -1 ∨ (0 ≤ r ∧ r < bfs n g u 0 0)) (hP : ∀ c', TV G c' t T n m u q w x s ka ki g → SH G c' t z → FrR 45 c c' → (if r = -1 ∨ i < 0 ∨ bfs n g u 2 r ≤ i then P (-1) (G, up c' 0 6 1) else P (bkF (bfs n g u) i 721 r) (G, up c' 0 6 0))) : EvI (d + 7) mX10_turnOnTheWay [mR 16 0, mI r, mI i] (G, c) P := by
  refine ev_X10_turnOnTheWay (d + 6) P G c 0 r i (by decide) ?_
  simp only [q_refused]
  by_cases h : r = -1
  · rw [if_pos h]
    have := hP c V S FrR.rf
    rwa [if_pos (Or.inl h)] at this
  · rw [if_neg h]
    by_cases h2 : i < 0
    · rw [if_pos h2]
      have := hP c V S FrR.rf
      rwa [if_pos (Or.inr (Or.inl h2))] at this
    · rw [if_neg h2]
      have hr' := hr.resolve_left h
      refine f_reached (d + 1) _ V S (fun c' V' S' C f => ?_)
      have hB := tv_bfs V'
      have hw := hB.1.w
      simp only [C.h.p4, C.h.l2, (C.e r hr'.1 hr'.2).2.1, q_refused]
      refine ⟨by omega, ⟨by omega, by omega, by omega⟩, ?_⟩
      by_cases h3 : i < bfs n g u 2 r
      · rw [if_pos h3]
        refine f_reached (d + 1) _ V' S' (fun c2 V2 S2 C2 f2 => ?_)
        have hb := hB.1.2.1 r hr'.1 hr'.2
        rw [q_turnAt _ _ _ _ 45 n _ C2 hw hB.1 r i (by omega) (by omega) hr'.1 hr'.2]
        simp only [q_fine]
        have := hP c2 V2 S2 (f.tr f2)
        rwa [if_neg (by omega)] at this
      · rw [if_neg h3]
        have := hP c' V' S' f
        rwa [if_pos (Or.inr (Or.inr (by omega)))] at this
end
theorem k_errand (d : Nat) (G : MG) (c : MC) (H : IV G c) : EvI (d + 40) mX10_errand [mR 16 0] (G, c) (fun r1 ν1 => EvI (d + 40) mX12_errand [mR 18 62] (ν1.1, ν1.2) (fun r2 ν2 => K2 G r1 r2 ν2)) := by
  obtain ⟨hr, t, z, S, V⟩ := H
  have H0 : IV0 G c := ⟨t, z, S, V⟩
  rcases V with V | ⟨T, n, m, u, q, w, x, s, ka, ki, g, V⟩
  · have I := S.ciN V
    have e1 := V.e1; have e3 := V.e3; have e4 := V.e4; have N := V.T
    have N1 : ∀ wy, up (up c 0 6 wy) 62 0 0 62 3 = -1 := fun wy => by rw [up_nj (by decide), up_na (by decide)]; exact N
    refine ev_X10_errand (d + 39) _ G c 0 (by decide) ?_
    simp only [z_isTube _ _ _ _ t I e1, z_isPerson _ _ _ _ t I _ e3, z_isSlot _ _ _ _ t I _ e1, z_isTurn _ _ _ _ t I _ e4, z_areTwo _ _ _ _ t I _ _ e3, z_isPlace _ _ _ _ t I _ e1, ↓reduceIte, q_refused]
    refine ev_X12_errand (d + 39) _ G _ 62 (by decide) ⟨by decide, ?_⟩
    rintro _ rfl
    refine ev_X12_fewest (d + 38) _ G _ 62 0 (by decide) ?_
    simp only [q_nisSlot _ _ _ _ (N1 _), q_nisPerson _ _ _ _ (N1 _), q_nisTurn _ _ _ _ (N1 _), q_nareTwo _ _ _ _ (N1 _), q_nisPlace _ _ _ _ (N1 _), N1, ↓reduceIte, q_mrefused, Int.reduceNeg, Int.reduceLT, Int.reduceLE, true_and]
    exact ⟨rfl, rfl, IV.q H0 (by decide) (agr_0 _)⟩
  · have I := S.ciT V
    have M := V.M; have hT := M.T; have ht := V.t
    have v1 := V.v1; have v3 := V.v3; have v4 := V.v4; have e0 := V.e0; have e1 := V.e1; have e3 := V.e3; have e4 := V.e4; have e5 := V.e5
    have b0 := M.b0; have b1 := M.b1; have b3 := M.b3; have b4 := M.b4
    rw [v1] at b1; rw [v3] at b3; rw [v4] at b4
    have hnp : 0 < n := by omega
    have hTn : ¬ T < 0 := by omega
    have M1 : ∀ wy, MDs G (up (up c 0 6 wy) 62 0 0) T := fun wy => (M.ki ki_up7).agr (agr_0 _)
    have r64 : ∀ wy, up (up c 0 6 wy) 62 0 0 64 = c 64 := fun wy => by funext j; rw [up_na (by decide), up_na (by decide)]
    have rT : ∀ wy k, up (up c 0 6 wy) 62 0 0 T k = c T k := fun wy k => by rw [up_na (by omega), up_na (by omega)]
    have rTT : ∀ wy (a : Int), 0 ≤ a → up (up c 0 6 wy) 62 0 0 (T + a) = c (T + a) := fun wy a ha => by funext j; rw [up_na (by omega), up_na (by omega)]
    have rS : ∀ wy a b, sld (up (up c 0 6 wy) 62 0 0) T a b = sld c T a b := fun wy a b => sld_eq (fun a j q => by rw [up_na (by omega), up_na (by omega)]) hT
    have hS : ∀ a b, 0 ≤ a → a < u → 0 ≤ b → b < n → sld c T a b = dg (g a) b := fun a b h1 h2 h3 h4 => by unfold sld; rw [v4, if_pos h2]; exact V.tk a b h1 h2 h3 h4
    have V1 : ∀ wy, TV G (up (up c 0 6 wy) 62 0 0) t T n m u q w x s ka ki g := fun wy => (V.kp ki_up7).kp (ki_agr (agr_0 _))
    skip
    refine ev_X10_errand (d + 39) _ G c 0 (by decide) ?_
    simp only [q_isTube _ _ _ _ t I, q_isPerson _ _ _ _ t I, q_isSlot _ _ _ _ t I, q_isTurn _ _ _ _ t I, q_areTwo _ _ _ _ t I, q_isPlace _ _ _ _ t I, e0, e1, e3, e4, hnp, ↓reduceIte]
    refine f_errandChange _ _ V S (fun c V S C f => ?_)
    have hN := fi_at (p := fun i => decide (wcn c T w i = w)) (bfs n g u 0 0).toNat 0
    have ht0 := V.t; have hT0 := V.M.T
    have hwb := (tv_bfs V).1.w
    obtain ⟨r, hre⟩ : ∃ r, r = erF c T w (bfs n g u 0 0) := ⟨_, rfl⟩
    have hrr : r = -1 ∨ (0 ≤ r ∧ r < bfs n g u 0 0) := by rw [hre]; unfold erF; omega
    rw [← hre]
    have eR0 : ∀ c', FrR 45 c c' → erF c' T w (bfs n g u 0 0) = r := fun c' f' => by
      rw [hre]; exact (er_fr ht0 hT0 (fun j => f' 64 j (by omega)) (fun j => f' 68 j (by omega)) (fun a j h _ => f' a j (by omega)) (fun a j h => f' a j (by omega)) w q (bfs n g u 0 0) 0).2.2.1
    refine f_depthOrNot _ _ V S r hrr (fun c V S f => ?_)
    have H0 : IV0 G c := ⟨t, z, S, Or.inr ⟨T, n, m, u, q, w, x, s, ka, ki, g, V⟩⟩
    have I := S.ciT V
    have M := V.M; have hT := M.T; have ht := V.t
    have v1 := V.v1; have v3 := V.v3; have v4 := V.v4; have e0 := V.e0; have e1 := V.e1; have e3 := V.e3; have e4 := V.e4; have e5 := V.e5
    have b0 := M.b0; have b1 := M.b1; have b3 := M.b3; have b4 := M.b4
    rw [v1] at b1; rw [v3] at b3; rw [v4] at b4
    have hnp : 0 < n := by omega
    have hTn : ¬ T < 0 := by omega
    have M1 : ∀ wy, MDs G (up (up c 0 6 wy) 62 0 0) T := fun wy => (M.ki ki_up7).agr (agr_0 _)
    have r64 : ∀ wy, up (up c 0 6 wy) 62 0 0 64 = c 64 := fun wy => by funext j; rw [up_na (by decide), up_na (by decide)]
    have rT : ∀ wy k, up (up c 0 6 wy) 62 0 0 T k = c T k := fun wy k => by rw [up_na (by omega), up_na (by omega)]
    have rTT : ∀ wy (a : Int), 0 ≤ a → up (up c 0 6 wy) 62 0 0 (T + a) = c (T + a) := fun wy a ha => by funext j; rw [up_na (by omega), up_na (by omega)]
    have rS : ∀ wy a b, sld (up (up c 0 6 wy) 62 0 0) T a b = sld c T a b := fun wy a b => sld_eq (fun a j q => by rw [up_na (by omega), up_na (by omega)]) hT
    have hS : ∀ a b, 0 ≤ a → a < u → 0 ≤ b → b < n → sld c T a b = dg (g a) b := fun a b h1 h2 h3 h4 => by unfold sld; rw [v4, if_pos h2]; exact V.tk a b h1 h2 h3 h4
    have V1 : ∀ wy, TV G (up (up c 0 6 wy) 62 0 0) t T n m u q w x s ka ki g := fun wy => (V.kp ki_up7).kp (ki_agr (agr_0 _))
    obtain ⟨B, w1, s0, Cl⟩ := tv_bfs V
    have hw := B.w
    have eR1 : ∀ wy, dnF (up (up c 0 6 wy) 62 0 0) t T w q (bfs n g u 0 0) 0 = r := fun wy => by
      rw [← eR0 c f, show dnF (up (up c 0 6 wy) 62 0 0) t T w q (bfs n g u 0 0) 0 = erF (up (up c 0 6 wy) 62 0 0) T w (bfs n g u 0 0) from rfl]
      exact (er_fr ht hT (fun j => by rw [up_na (by decide), up_na (by decide)]) (fun j => by rw [up_na (by decide), up_na (by decide)]) (fun a j h h0 => by rw [up_na (by omega), up_na (by omega)]) (fun a j h => by rw [up_na (by omega), up_na (by omega)]) w q (bfs n g u 0 0) 0).2.2.1
    simp only [q_fine]
    refine ev_X12_errand (d + 39) _ G _ 62 (by decide) ⟨by decide, ?_⟩
    rintro _ rfl
    refine ev_X12_fewest (d + 38) _ G _ 62 0 (by decide) ?_
    simp only [q_misSlot _ _ _ _ T (M1 _), q_misPerson _ _ _ _ T (M1 _), q_misTurn _ _ _ _ T (M1 _), q_mareTwo _ _ _ _ T (M1 _), q_misPlace _ _ _ _ T (M1 _), (M1 _).p3, hTn, rT, v1, v3, v4, ↓reduceIte, Int.reduceLE, true_and]
    refine f_doneBy _ _ (V1 0) 0 (fun c' A => ?_)
    rw [eR1]
    have M' := (M1 0).agr A
    have Mb' := ((V1 0).B).ki (ki_agr A)
    have A0 : Agr (up c 0 6 0) c' := (agr_0 _).tr A
    by_cases h : r = -1
    · rw [if_pos h, if_pos h]
      simp only [q_mgood]
      exact ⟨rfl, rfl, IV.q H0 (by decide) A0⟩
    · rw [if_neg h, if_neg h]
      have hr2 := hrr.resolve_left h
      simp only [M'.p24, M.l70, (Mb'.f r hr2.1 hr2.2).1, q_mgood]
      (repeat (refine And.intro (by first | omega | (simp only [true_and, and_true, and_self]; omega) | (simp only [true_and, and_true, and_self])) ?_))
      exact ⟨rfl, rfl, IV.q H0 (by decide) A0⟩
theorem k_errandAt (d : Nat) (G : MG) (c : MC) (a : Int) (H : IV G c) : EvI (d + 40) mX10_errandAt [mR 16 0, mI a] (G, c) (fun r1 ν1 => EvI (d + 40) mX12_errandAt [mR 18 62, mI a] (ν1.1, ν1.2) (fun r2 ν2 => K2 G r1 r2 ν2)) := by
  obtain ⟨hr, t, z, S, V⟩ := H
  have H0 : IV0 G c := ⟨t, z, S, V⟩
  rcases V with V | ⟨T, n, m, u, q, w, x, s, ka, ki, g, V⟩
  · have I := S.ciN V
    have e1 := V.e1; have e3 := V.e3; have e4 := V.e4; have N := V.T
    have N1 : ∀ wy, up (up c 0 6 wy) 62 0 0 62 3 = -1 := fun wy => by rw [up_nj (by decide), up_na (by decide)]; exact N
    refine ev_X10_errandAt (d + 39) _ G c 0 a (by decide) ?_
    simp only [z_isTube _ _ _ _ t I e1, z_isPerson _ _ _ _ t I _ e3, z_isSlot _ _ _ _ t I _ e1, z_isTurn _ _ _ _ t I _ e4, z_areTwo _ _ _ _ t I _ _ e3, z_isPlace _ _ _ _ t I _ e1, ↓reduceIte, q_refused]
    refine ev_X12_errandAt (d + 39) _ G _ 62 a (by decide) ⟨by decide, ?_⟩
    rintro _ rfl
    refine ev_X12_stepOf (d + 38) _ G _ 62 0 a (by decide) ?_
    simp only [q_nisSlot _ _ _ _ (N1 _), q_nisPerson _ _ _ _ (N1 _), q_nisTurn _ _ _ _ (N1 _), q_nareTwo _ _ _ _ (N1 _), q_nisPlace _ _ _ _ (N1 _), N1, ↓reduceIte, q_mrefused, Int.reduceNeg, Int.reduceLT, Int.reduceLE, true_and]
    exact ⟨rfl, rfl, IV.q H0 (by decide) (agr_0 _)⟩
  · have I := S.ciT V
    have M := V.M; have hT := M.T; have ht := V.t
    have v1 := V.v1; have v3 := V.v3; have v4 := V.v4; have e0 := V.e0; have e1 := V.e1; have e3 := V.e3; have e4 := V.e4; have e5 := V.e5
    have b0 := M.b0; have b1 := M.b1; have b3 := M.b3; have b4 := M.b4
    rw [v1] at b1; rw [v3] at b3; rw [v4] at b4
    have hnp : 0 < n := by omega
    have hTn : ¬ T < 0 := by omega
    have M1 : ∀ wy, MDs G (up (up c 0 6 wy) 62 0 0) T := fun wy => (M.ki ki_up7).agr (agr_0 _)
    have r64 : ∀ wy, up (up c 0 6 wy) 62 0 0 64 = c 64 := fun wy => by funext j; rw [up_na (by decide), up_na (by decide)]
    have rT : ∀ wy k, up (up c 0 6 wy) 62 0 0 T k = c T k := fun wy k => by rw [up_na (by omega), up_na (by omega)]
    have rTT : ∀ wy (a : Int), 0 ≤ a → up (up c 0 6 wy) 62 0 0 (T + a) = c (T + a) := fun wy a ha => by funext j; rw [up_na (by omega), up_na (by omega)]
    have rS : ∀ wy a b, sld (up (up c 0 6 wy) 62 0 0) T a b = sld c T a b := fun wy a b => sld_eq (fun a j q => by rw [up_na (by omega), up_na (by omega)]) hT
    have hS : ∀ a b, 0 ≤ a → a < u → 0 ≤ b → b < n → sld c T a b = dg (g a) b := fun a b h1 h2 h3 h4 => by unfold sld; rw [v4, if_pos h2]; exact V.tk a b h1 h2 h3 h4
    have V1 : ∀ wy, TV G (up (up c 0 6 wy) 62 0 0) t T n m u q w x s ka ki g := fun wy => (V.kp ki_up7).kp (ki_agr (agr_0 _))
    skip
    refine ev_X10_errandAt (d + 39) _ G c 0 a (by decide) ?_
    simp only [q_isTube _ _ _ _ t I, q_isPerson _ _ _ _ t I, q_isSlot _ _ _ _ t I, q_isTurn _ _ _ _ t I, q_areTwo _ _ _ _ t I, q_isPlace _ _ _ _ t I, e0, e1, e3, e4, hnp, ↓reduceIte]
    refine f_errandChange _ _ V S (fun c V S C f => ?_)
    have hN := fi_at (p := fun i => decide (wcn c T w i = w)) (bfs n g u 0 0).toNat 0
    have ht0 := V.t; have hT0 := V.M.T
    have hwb := (tv_bfs V).1.w
    obtain ⟨r, hre⟩ : ∃ r, r = erF c T w (bfs n g u 0 0) := ⟨_, rfl⟩
    have hrr : r = -1 ∨ (0 ≤ r ∧ r < bfs n g u 0 0) := by rw [hre]; unfold erF; omega
    rw [← hre]
    have eR0 : ∀ c', FrR 45 c c' → erF c' T w (bfs n g u 0 0) = r := fun c' f' => by
      rw [hre]; exact (er_fr ht0 hT0 (fun j => f' 64 j (by omega)) (fun j => f' 68 j (by omega)) (fun a j h _ => f' a j (by omega)) (fun a j h => f' a j (by omega)) w q (bfs n g u 0 0) 0).2.2.1
    refine f_turnOnTheWay _ _ V S r a hrr (fun c V S f => ?_)
    have H0 : IV0 G c := ⟨t, z, S, Or.inr ⟨T, n, m, u, q, w, x, s, ka, ki, g, V⟩⟩
    have I := S.ciT V
    have M := V.M; have hT := M.T; have ht := V.t
    have v1 := V.v1; have v3 := V.v3; have v4 := V.v4; have e0 := V.e0; have e1 := V.e1; have e3 := V.e3; have e4 := V.e4; have e5 := V.e5
    have b0 := M.b0; have b1 := M.b1; have b3 := M.b3; have b4 := M.b4
    rw [v1] at b1; rw [v3] at b3; rw [v4] at b4
    have hnp : 0 < n := by omega
    have hTn : ¬ T < 0 := by omega
    have M1 : ∀ wy, MDs G (up (up c 0 6 wy) 62 0 0) T := fun wy => (M.ki ki_up7).agr (agr_0 _)
    have r64 : ∀ wy, up (up c 0 6 wy) 62 0 0 64 = c 64 := fun wy => by funext j; rw [up_na (by decide), up_na (by decide)]
    have rT : ∀ wy k, up (up c 0 6 wy) 62 0 0 T k = c T k := fun wy k => by rw [up_na (by omega), up_na (by omega)]
    have rTT : ∀ wy (a : Int), 0 ≤ a → up (up c 0 6 wy) 62 0 0 (T + a) = c (T + a) := fun wy a ha => by funext j; rw [up_na (by omega), up_na (by omega)]
    have rS : ∀ wy a b, sld (up (up c 0 6 wy) 62 0 0) T a b = sld c T a b := fun wy a b => sld_eq (fun a j q => by rw [up_na (by omega), up_na (by omega)]) hT
    have hS : ∀ a b, 0 ≤ a → a < u → 0 ≤ b → b < n → sld c T a b = dg (g a) b := fun a b h1 h2 h3 h4 => by unfold sld; rw [v4, if_pos h2]; exact V.tk a b h1 h2 h3 h4
    have V1 : ∀ wy, TV G (up (up c 0 6 wy) 62 0 0) t T n m u q w x s ka ki g := fun wy => (V.kp ki_up7).kp (ki_agr (agr_0 _))
    obtain ⟨B, w1, s0, Cl⟩ := tv_bfs V
    have hw := B.w
    have eR1 : ∀ wy, dnF (up (up c 0 6 wy) 62 0 0) t T w q (bfs n g u 0 0) 0 = r := fun wy => by
      rw [← eR0 c f, show dnF (up (up c 0 6 wy) 62 0 0) t T w q (bfs n g u 0 0) 0 = erF (up (up c 0 6 wy) 62 0 0) T w (bfs n g u 0 0) from rfl]
      exact (er_fr ht hT (fun j => by rw [up_na (by decide), up_na (by decide)]) (fun j => by rw [up_na (by decide), up_na (by decide)]) (fun a j h h0 => by rw [up_na (by omega), up_na (by omega)]) (fun a j h => by rw [up_na (by omega), up_na (by omega)]) w q (bfs n g u 0 0) 0).2.2.1
    by_cases h : r = -1 ∨ a < 0 ∨ bfs n g u 2 r ≤ a
    · rw [if_pos h]
      refine ev_X12_errandAt (d + 39) _ G _ 62 a (by decide) ⟨by decide, ?_⟩
      rintro _ rfl
      refine ev_X12_stepOf (d + 38) _ G _ 62 0 a (by decide) ?_
      simp only [q_misSlot _ _ _ _ T (M1 _), q_misPerson _ _ _ _ T (M1 _), q_misTurn _ _ _ _ T (M1 _), q_mareTwo _ _ _ _ T (M1 _), q_misPlace _ _ _ _ T (M1 _), (M1 _).p3, hTn, rT, v1, v3, v4, ↓reduceIte, Int.reduceLE, true_and]
      refine f_doneBy _ _ (V1 1) 0 (fun c' A => ?_)
      rw [eR1]
      have M' := (M1 1).agr A
      have Mb' := ((V1 1).B).ki (ki_agr A)
      have A0 : Agr (up c 0 6 1) c' := (agr_0 _).tr A
      simp only [q_mrefused]
      by_cases h1 : r = -1
      · rw [if_pos h1]; exact ⟨rfl, rfl, IV.q H0 (by decide) A0⟩
      · rw [if_neg h1]
        by_cases h2 : a < 0
        · rw [if_pos h2]; exact ⟨rfl, rfl, IV.q H0 (by decide) A0⟩
        · rw [if_neg h2]
          have hr2 := hrr.resolve_left h1
          simp only [M'.p24, M.l70, (Mb'.f r hr2.1 hr2.2).1]
          rw [if_neg (show ¬ a < bfs n g u 2 r by omega)]
          (repeat (refine And.intro (by first | omega | (simp only [true_and, and_true, and_self]; omega) | (simp only [true_and, and_true, and_self])) ?_))
          exact ⟨rfl, rfl, IV.q H0 (by decide) A0⟩
    · rw [if_neg h]
      have hr2 := hrr.resolve_left (fun q => h (Or.inl q))
      refine ev_X12_errandAt (d + 39) _ G _ 62 a (by decide) ⟨by decide, ?_⟩
      rintro _ rfl
      refine ev_X12_stepOf (d + 38) _ G _ 62 0 a (by decide) ?_
      simp only [q_misSlot _ _ _ _ T (M1 _), q_misPerson _ _ _ _ T (M1 _), q_misTurn _ _ _ _ T (M1 _), q_mareTwo _ _ _ _ T (M1 _), q_misPlace _ _ _ _ T (M1 _), (M1 _).p3, hTn, rT, v1, v3, v4, ↓reduceIte, Int.reduceLE, true_and]
      refine f_doneBy _ _ (V1 0) 0 (fun c' A => ?_)
      rw [eR1]
      have M' := (M1 0).agr A
      have Mb' := ((V1 0).B).ki (ki_agr A)
      have A0 : Agr (up c 0 6 0) c' := (agr_0 _).tr A
      rw [if_neg (by omega), if_neg (by omega)]
      simp only [M'.p24, M.l70, (Mb'.f r hr2.1 hr2.2).1]
      rw [if_pos (show a < bfs n g u 2 r by omega)]
      have hb := B.2.1 r hr2.1 hr2.2
      (repeat (refine And.intro (by first | omega | (simp only [true_and, and_true, and_self]; omega) | (simp only [true_and, and_true, and_self])) ?_))
      exact l_mturnAt (d + 37) _ G c' n T _ M' Mb' hw B a (by omega) (by omega) 721 r hr2.1 hr2.2 (by omega) ⟨rfl, rfl, IV.q H0 (by decide) A0⟩
theorem k_peace (d : Nat) (G : MG) (c : MC) (H : IV G c) : EvI (d + 40) mX10_peace [mR 16 0] (G, c) (fun r1 ν1 => EvI (d + 40) mX12_peace [mR 18 62] (ν1.1, ν1.2) (fun r2 ν2 => K2 G r1 r2 ν2)) := by
  obtain ⟨hr, t, z, S, V⟩ := H
  have H0 : IV0 G c := ⟨t, z, S, V⟩
  rcases V with V | ⟨T, n, m, u, q, w, x, s, ka, ki, g, V⟩
  · have I := S.ciN V
    have e1 := V.e1; have e3 := V.e3; have e4 := V.e4; have N := V.T
    have N1 : ∀ wy, up (up c 0 6 wy) 62 0 0 62 3 = -1 := fun wy => by rw [up_nj (by decide), up_na (by decide)]; exact N
    refine ev_X10_peace (d + 39) _ G c 0 (by decide) ?_
    simp only [z_isTube _ _ _ _ t I e1, z_isPerson _ _ _ _ t I _ e3, z_isSlot _ _ _ _ t I _ e1, z_isTurn _ _ _ _ t I _ e4, z_areTwo _ _ _ _ t I _ _ e3, z_isPlace _ _ _ _ t I _ e1, ↓reduceIte, q_refused]
    refine ev_X12_peace (d + 39) _ G _ 62 (by decide) ⟨by decide, ?_⟩
    rintro _ rfl
    refine ev_X12_fewest (d + 38) _ G _ 62 1 (by decide) ?_
    simp only [q_nisSlot _ _ _ _ (N1 _), q_nisPerson _ _ _ _ (N1 _), q_nisTurn _ _ _ _ (N1 _), q_nareTwo _ _ _ _ (N1 _), q_nisPlace _ _ _ _ (N1 _), N1, ↓reduceIte, q_mrefused, Int.reduceNeg, Int.reduceLT, Int.reduceLE, true_and]
    exact ⟨rfl, rfl, IV.q H0 (by decide) (agr_0 _)⟩
  · have I := S.ciT V
    have M := V.M; have hT := M.T; have ht := V.t
    have v1 := V.v1; have v3 := V.v3; have v4 := V.v4; have e0 := V.e0; have e1 := V.e1; have e3 := V.e3; have e4 := V.e4; have e5 := V.e5
    have b0 := M.b0; have b1 := M.b1; have b3 := M.b3; have b4 := M.b4
    rw [v1] at b1; rw [v3] at b3; rw [v4] at b4
    have hnp : 0 < n := by omega
    have hTn : ¬ T < 0 := by omega
    have M1 : ∀ wy, MDs G (up (up c 0 6 wy) 62 0 0) T := fun wy => (M.ki ki_up7).agr (agr_0 _)
    have r64 : ∀ wy, up (up c 0 6 wy) 62 0 0 64 = c 64 := fun wy => by funext j; rw [up_na (by decide), up_na (by decide)]
    have rT : ∀ wy k, up (up c 0 6 wy) 62 0 0 T k = c T k := fun wy k => by rw [up_na (by omega), up_na (by omega)]
    have rTT : ∀ wy (a : Int), 0 ≤ a → up (up c 0 6 wy) 62 0 0 (T + a) = c (T + a) := fun wy a ha => by funext j; rw [up_na (by omega), up_na (by omega)]
    have rS : ∀ wy a b, sld (up (up c 0 6 wy) 62 0 0) T a b = sld c T a b := fun wy a b => sld_eq (fun a j q => by rw [up_na (by omega), up_na (by omega)]) hT
    have hS : ∀ a b, 0 ≤ a → a < u → 0 ≤ b → b < n → sld c T a b = dg (g a) b := fun a b h1 h2 h3 h4 => by unfold sld; rw [v4, if_pos h2]; exact V.tk a b h1 h2 h3 h4
    have V1 : ∀ wy, TV G (up (up c 0 6 wy) 62 0 0) t T n m u q w x s ka ki g := fun wy => (V.kp ki_up7).kp (ki_agr (agr_0 _))
    skip
    refine ev_X10_peace (d + 39) _ G c 0 (by decide) ?_
    simp only [q_isTube _ _ _ _ t I, q_isPerson _ _ _ _ t I, q_isSlot _ _ _ _ t I, q_isTurn _ _ _ _ t I, q_areTwo _ _ _ _ t I, q_isPlace _ _ _ _ t I, e0, e1, e3, e4, hnp, ↓reduceIte]
    refine f_peaceChange _ _ V S (fun c V S C f => ?_)
    have hN := fi_at (p := fun i => decide (qcn c t q i = 0)) (bfs n g u 0 0).toNat 0
    have ht0 := V.t; have hT0 := V.M.T
    have hwb := (tv_bfs V).1.w
    obtain ⟨r, hre⟩ : ∃ r, r = peF c t q (bfs n g u 0 0) := ⟨_, rfl⟩
    have hrr : r = -1 ∨ (0 ≤ r ∧ r < bfs n g u 0 0) := by rw [hre]; unfold peF; omega
    rw [← hre]
    have eR0 : ∀ c', FrR 45 c c' → peF c' t q (bfs n g u 0 0) = r := fun c' f' => by
      rw [hre]; exact (er_fr ht0 hT0 (fun j => f' 64 j (by omega)) (fun j => f' 68 j (by omega)) (fun a j h _ => f' a j (by omega)) (fun a j h => f' a j (by omega)) w q (bfs n g u 0 0) 0).2.2.2
    refine f_depthOrNot _ _ V S r hrr (fun c V S f => ?_)
    have H0 : IV0 G c := ⟨t, z, S, Or.inr ⟨T, n, m, u, q, w, x, s, ka, ki, g, V⟩⟩
    have I := S.ciT V
    have M := V.M; have hT := M.T; have ht := V.t
    have v1 := V.v1; have v3 := V.v3; have v4 := V.v4; have e0 := V.e0; have e1 := V.e1; have e3 := V.e3; have e4 := V.e4; have e5 := V.e5
    have b0 := M.b0; have b1 := M.b1; have b3 := M.b3; have b4 := M.b4
    rw [v1] at b1; rw [v3] at b3; rw [v4] at b4
    have hnp : 0 < n := by omega
    have hTn : ¬ T < 0 := by omega
    have M1 : ∀ wy, MDs G (up (up c 0 6 wy) 62 0 0) T := fun wy => (M.ki ki_up7).agr (agr_0 _)
    have r64 : ∀ wy, up (up c 0 6 wy) 62 0 0 64 = c 64 := fun wy => by funext j; rw [up_na (by decide), up_na (by decide)]
    have rT : ∀ wy k, up (up c 0 6 wy) 62 0 0 T k = c T k := fun wy k => by rw [up_na (by omega), up_na (by omega)]
    have rTT : ∀ wy (a : Int), 0 ≤ a → up (up c 0 6 wy) 62 0 0 (T + a) = c (T + a) := fun wy a ha => by funext j; rw [up_na (by omega), up_na (by omega)]
    have rS : ∀ wy a b, sld (up (up c 0 6 wy) 62 0 0) T a b = sld c T a b := fun wy a b => sld_eq (fun a j q => by rw [up_na (by omega), up_na (by omega)]) hT
    have hS : ∀ a b, 0 ≤ a → a < u → 0 ≤ b → b < n → sld c T a b = dg (g a) b := fun a b h1 h2 h3 h4 => by unfold sld; rw [v4, if_pos h2]; exact V.tk a b h1 h2 h3 h4
    have V1 : ∀ wy, TV G (up (up c 0 6 wy) 62 0 0) t T n m u q w x s ka ki g := fun wy => (V.kp ki_up7).kp (ki_agr (agr_0 _))
    obtain ⟨B, w1, s0, Cl⟩ := tv_bfs V
    have hw := B.w
    have eR1 : ∀ wy, dnF (up (up c 0 6 wy) 62 0 0) t T w q (bfs n g u 0 0) 1 = r := fun wy => by
      rw [← eR0 c f, show dnF (up (up c 0 6 wy) 62 0 0) t T w q (bfs n g u 0 0) 1 = peF (up (up c 0 6 wy) 62 0 0) t q (bfs n g u 0 0) from rfl]
      exact (er_fr ht hT (fun j => by rw [up_na (by decide), up_na (by decide)]) (fun j => by rw [up_na (by decide), up_na (by decide)]) (fun a j h h0 => by rw [up_na (by omega), up_na (by omega)]) (fun a j h => by rw [up_na (by omega), up_na (by omega)]) w q (bfs n g u 0 0) 0).2.2.2
    simp only [q_fine]
    refine ev_X12_peace (d + 39) _ G _ 62 (by decide) ⟨by decide, ?_⟩
    rintro _ rfl
    refine ev_X12_fewest (d + 38) _ G _ 62 1 (by decide) ?_
    simp only [q_misSlot _ _ _ _ T (M1 _), q_misPerson _ _ _ _ T (M1 _), q_misTurn _ _ _ _ T (M1 _), q_mareTwo _ _ _ _ T (M1 _), q_misPlace _ _ _ _ T (M1 _), (M1 _).p3, hTn, rT, v1, v3, v4, ↓reduceIte, Int.reduceLE, true_and]
    refine f_doneBy _ _ (V1 0) 1 (fun c' A => ?_)
    rw [eR1]
    have M' := (M1 0).agr A
    have Mb' := ((V1 0).B).ki (ki_agr A)
    have A0 : Agr (up c 0 6 0) c' := (agr_0 _).tr A
    by_cases h : r = -1
    · rw [if_pos h, if_pos h]
      simp only [q_mgood]
      exact ⟨rfl, rfl, IV.q H0 (by decide) A0⟩
    · rw [if_neg h, if_neg h]
      have hr2 := hrr.resolve_left h
      simp only [M'.p24, M.l70, (Mb'.f r hr2.1 hr2.2).1, q_mgood]
      (repeat (refine And.intro (by first | omega | (simp only [true_and, and_true, and_self]; omega) | (simp only [true_and, and_true, and_self])) ?_))
      exact ⟨rfl, rfl, IV.q H0 (by decide) A0⟩
theorem k_peaceAt (d : Nat) (G : MG) (c : MC) (a : Int) (H : IV G c) : EvI (d + 40) mX10_peaceAt [mR 16 0, mI a] (G, c) (fun r1 ν1 => EvI (d + 40) mX12_peaceAt [mR 18 62, mI a] (ν1.1, ν1.2) (fun r2 ν2 => K2 G r1 r2 ν2)) := by
  obtain ⟨hr, t, z, S, V⟩ := H
  have H0 : IV0 G c := ⟨t, z, S, V⟩
  rcases V with V | ⟨T, n, m, u, q, w, x, s, ka, ki, g, V⟩
  · have I := S.ciN V
    have e1 := V.e1; have e3 := V.e3; have e4 := V.e4; have N := V.T
    have N1 : ∀ wy, up (up c 0 6 wy) 62 0 0 62 3 = -1 := fun wy => by rw [up_nj (by decide), up_na (by decide)]; exact N
    refine ev_X10_peaceAt (d + 39) _ G c 0 a (by decide) ?_
    simp only [z_isTube _ _ _ _ t I e1, z_isPerson _ _ _ _ t I _ e3, z_isSlot _ _ _ _ t I _ e1, z_isTurn _ _ _ _ t I _ e4, z_areTwo _ _ _ _ t I _ _ e3, z_isPlace _ _ _ _ t I _ e1, ↓reduceIte, q_refused]
    refine ev_X12_peaceAt (d + 39) _ G _ 62 a (by decide) ⟨by decide, ?_⟩
    rintro _ rfl
    refine ev_X12_stepOf (d + 38) _ G _ 62 1 a (by decide) ?_
    simp only [q_nisSlot _ _ _ _ (N1 _), q_nisPerson _ _ _ _ (N1 _), q_nisTurn _ _ _ _ (N1 _), q_nareTwo _ _ _ _ (N1 _), q_nisPlace _ _ _ _ (N1 _), N1, ↓reduceIte, q_mrefused, Int.reduceNeg, Int.reduceLT, Int.reduceLE, true_and]
    exact ⟨rfl, rfl, IV.q H0 (by decide) (agr_0 _)⟩
  · have I := S.ciT V
    have M := V.M; have hT := M.T; have ht := V.t
    have v1 := V.v1; have v3 := V.v3; have v4 := V.v4; have e0 := V.e0; have e1 := V.e1; have e3 := V.e3; have e4 := V.e4; have e5 := V.e5
    have b0 := M.b0; have b1 := M.b1; have b3 := M.b3; have b4 := M.b4
    rw [v1] at b1; rw [v3] at b3; rw [v4] at b4
    have hnp : 0 < n := by omega
    have hTn : ¬ T < 0 := by omega
    have M1 : ∀ wy, MDs G (up (up c 0 6 wy) 62 0 0) T := fun wy => (M.ki ki_up7).agr (agr_0 _)
    have r64 : ∀ wy, up (up c 0 6 wy) 62 0 0 64 = c 64 := fun wy => by funext j; rw [up_na (by decide), up_na (by decide)]
    have rT : ∀ wy k, up (up c 0 6 wy) 62 0 0 T k = c T k := fun wy k => by rw [up_na (by omega), up_na (by omega)]
    have rTT : ∀ wy (a : Int), 0 ≤ a → up (up c 0 6 wy) 62 0 0 (T + a) = c (T + a) := fun wy a ha => by funext j; rw [up_na (by omega), up_na (by omega)]
    have rS : ∀ wy a b, sld (up (up c 0 6 wy) 62 0 0) T a b = sld c T a b := fun wy a b => sld_eq (fun a j q => by rw [up_na (by omega), up_na (by omega)]) hT
    have hS : ∀ a b, 0 ≤ a → a < u → 0 ≤ b → b < n → sld c T a b = dg (g a) b := fun a b h1 h2 h3 h4 => by unfold sld; rw [v4, if_pos h2]; exact V.tk a b h1 h2 h3 h4
    have V1 : ∀ wy, TV G (up (up c 0 6 wy) 62 0 0) t T n m u q w x s ka ki g := fun wy => (V.kp ki_up7).kp (ki_agr (agr_0 _))
    skip
    refine ev_X10_peaceAt (d + 39) _ G c 0 a (by decide) ?_
    simp only [q_isTube _ _ _ _ t I, q_isPerson _ _ _ _ t I, q_isSlot _ _ _ _ t I, q_isTurn _ _ _ _ t I, q_areTwo _ _ _ _ t I, q_isPlace _ _ _ _ t I, e0, e1, e3, e4, hnp, ↓reduceIte]
    refine f_peaceChange _ _ V S (fun c V S C f => ?_)
    have hN := fi_at (p := fun i => decide (qcn c t q i = 0)) (bfs n g u 0 0).toNat 0
    have ht0 := V.t; have hT0 := V.M.T
    have hwb := (tv_bfs V).1.w
    obtain ⟨r, hre⟩ : ∃ r, r = peF c t q (bfs n g u 0 0) := ⟨_, rfl⟩
    have hrr : r = -1 ∨ (0 ≤ r ∧ r < bfs n g u 0 0) := by rw [hre]; unfold peF; omega
    rw [← hre]
    have eR0 : ∀ c', FrR 45 c c' → peF c' t q (bfs n g u 0 0) = r := fun c' f' => by
      rw [hre]; exact (er_fr ht0 hT0 (fun j => f' 64 j (by omega)) (fun j => f' 68 j (by omega)) (fun a j h _ => f' a j (by omega)) (fun a j h => f' a j (by omega)) w q (bfs n g u 0 0) 0).2.2.2
    refine f_turnOnTheWay _ _ V S r a hrr (fun c V S f => ?_)
    have H0 : IV0 G c := ⟨t, z, S, Or.inr ⟨T, n, m, u, q, w, x, s, ka, ki, g, V⟩⟩
    have I := S.ciT V
    have M := V.M; have hT := M.T; have ht := V.t
    have v1 := V.v1; have v3 := V.v3; have v4 := V.v4; have e0 := V.e0; have e1 := V.e1; have e3 := V.e3; have e4 := V.e4; have e5 := V.e5
    have b0 := M.b0; have b1 := M.b1; have b3 := M.b3; have b4 := M.b4
    rw [v1] at b1; rw [v3] at b3; rw [v4] at b4
    have hnp : 0 < n := by omega
    have hTn : ¬ T < 0 := by omega
    have M1 : ∀ wy, MDs G (up (up c 0 6 wy) 62 0 0) T := fun wy => (M.ki ki_up7).agr (agr_0 _)
    have r64 : ∀ wy, up (up c 0 6 wy) 62 0 0 64 = c 64 := fun wy => by funext j; rw [up_na (by decide), up_na (by decide)]
    have rT : ∀ wy k, up (up c 0 6 wy) 62 0 0 T k = c T k := fun wy k => by rw [up_na (by omega), up_na (by omega)]
    have rTT : ∀ wy (a : Int), 0 ≤ a → up (up c 0 6 wy) 62 0 0 (T + a) = c (T + a) := fun wy a ha => by funext j; rw [up_na (by omega), up_na (by omega)]
    have rS : ∀ wy a b, sld (up (up c 0 6 wy) 62 0 0) T a b = sld c T a b := fun wy a b => sld_eq (fun a j q => by rw [up_na (by omega), up_na (by omega)]) hT
    have hS : ∀ a b, 0 ≤ a → a < u → 0 ≤ b → b < n → sld c T a b = dg (g a) b := fun a b h1 h2 h3 h4 => by unfold sld; rw [v4, if_pos h2]; exact V.tk a b h1 h2 h3 h4
    have V1 : ∀ wy, TV G (up (up c 0 6 wy) 62 0 0) t T n m u q w x s ka ki g := fun wy => (V.kp ki_up7).kp (ki_agr (agr_0 _))
    obtain ⟨B, w1, s0, Cl⟩ := tv_bfs V
    have hw := B.w
    have eR1 : ∀ wy, dnF (up (up c 0 6 wy) 62 0 0) t T w q (bfs n g u 0 0) 1 = r := fun wy => by
      rw [← eR0 c f, show dnF (up (up c 0 6 wy) 62 0 0) t T w q (bfs n g u 0 0) 1 = peF (up (up c 0 6 wy) 62 0 0) t q (bfs n g u 0 0) from rfl]
      exact (er_fr ht hT (fun j => by rw [up_na (by decide), up_na (by decide)]) (fun j => by rw [up_na (by decide), up_na (by decide)]) (fun a j h h0 => by rw [up_na (by omega), up_na (by omega)]) (fun a j h => by rw [up_na (by omega), up_na (by omega)]) w q (bfs n g u 0 0) 0).2.2.2
    by_cases h : r = -1 ∨ a < 0 ∨ bfs n g u 2 r ≤ a
    · rw [if_pos h]
      refine ev_X12_peaceAt (d + 39) _ G _ 62 a (by decide) ⟨by decide, ?_⟩
      rintro _ rfl
      refine ev_X12_stepOf (d + 38) _ G _ 62 1 a (by decide) ?_
      simp only [q_misSlot _ _ _ _ T (M1 _), q_misPerson _ _ _ _ T (M1 _), q_misTurn _ _ _ _ T (M1 _), q_mareTwo _ _ _ _ T (M1 _), q_misPlace _ _ _ _ T (M1 _), (M1 _).p3, hTn, rT, v1, v3, v4, ↓reduceIte, Int.reduceLE, true_and]
      refine f_doneBy _ _ (V1 1) 1 (fun c' A => ?_)
      rw [eR1]
      have M' := (M1 1).agr A
      have Mb' := ((V1 1).B).ki (ki_agr A)
      have A0 : Agr (up c 0 6 1) c' := (agr_0 _).tr A
      simp only [q_mrefused]
      by_cases h1 : r = -1
      · rw [if_pos h1]; exact ⟨rfl, rfl, IV.q H0 (by decide) A0⟩
      · rw [if_neg h1]
        by_cases h2 : a < 0
        · rw [if_pos h2]; exact ⟨rfl, rfl, IV.q H0 (by decide) A0⟩
        · rw [if_neg h2]
          have hr2 := hrr.resolve_left h1
          simp only [M'.p24, M.l70, (Mb'.f r hr2.1 hr2.2).1]
          rw [if_neg (show ¬ a < bfs n g u 2 r by omega)]
          (repeat (refine And.intro (by first | omega | (simp only [true_and, and_true, and_self]; omega) | (simp only [true_and, and_true, and_self])) ?_))
          exact ⟨rfl, rfl, IV.q H0 (by decide) A0⟩
    · rw [if_neg h]
      have hr2 := hrr.resolve_left (fun q => h (Or.inl q))
      refine ev_X12_peaceAt (d + 39) _ G _ 62 a (by decide) ⟨by decide, ?_⟩
      rintro _ rfl
      refine ev_X12_stepOf (d + 38) _ G _ 62 1 a (by decide) ?_
      simp only [q_misSlot _ _ _ _ T (M1 _), q_misPerson _ _ _ _ T (M1 _), q_misTurn _ _ _ _ T (M1 _), q_mareTwo _ _ _ _ T (M1 _), q_misPlace _ _ _ _ T (M1 _), (M1 _).p3, hTn, rT, v1, v3, v4, ↓reduceIte, Int.reduceLE, true_and]
      refine f_doneBy _ _ (V1 0) 1 (fun c' A => ?_)
      rw [eR1]
      have M' := (M1 0).agr A
      have Mb' := ((V1 0).B).ki (ki_agr A)
      have A0 : Agr (up c 0 6 0) c' := (agr_0 _).tr A
      rw [if_neg (by omega), if_neg (by omega)]
      simp only [M'.p24, M.l70, (Mb'.f r hr2.1 hr2.2).1]
      rw [if_pos (show a < bfs n g u 2 r by omega)]
      have hb := B.2.1 r hr2.1 hr2.2
      (repeat (refine And.intro (by first | omega | (simp only [true_and, and_true, and_self]; omega) | (simp only [true_and, and_true, and_self])) ?_))
      exact l_mturnAt (d + 37) _ G c' n T _ M' Mb' hw B a (by omega) (by omega) 721 r hr2.1 hr2.2 (by omega) ⟨rfl, rfl, IV.q H0 (by decide) A0⟩
