section
variable (d : Nat) (P : Int → MM → Prop) (G : MG) (c : MC) (t : Int)
theorem z_isTube (I : CI G c t) (e : c t 1 = 0) : EvI (d + 1) mX10_isTube [mR 16 0] (G, c) P = P 0 (G, c) := by rw [q_isTube d P G c t I, e]; rfl
theorem z_isPerson (I : CI G c t) (p : Int) (e : c t 3 = 0) : EvI (d + 1) mX10_isPerson [mR 16 0, mI p] (G, c) P = P 0 (G, c) := by rw [q_isPerson d P G c t I, e, if_neg (by omega)]
theorem z_isSlot (I : CI G c t) (p : Int) (e : c t 1 = 0) : EvI (d + 1) mX10_isSlot [mR 16 0, mI p] (G, c) P = P 0 (G, c) := by rw [q_isSlot d P G c t I, e, if_neg (by omega)]
theorem z_isTurn (I : CI G c t) (p : Int) (e : c t 4 = 0) : EvI (d + 1) mX10_isTurn [mR 16 0, mI p] (G, c) P = P 0 (G, c) := by rw [q_isTurn d P G c t I, e, if_neg (by omega)]
theorem z_areTwo (I : CI G c t) (p q : Int) (e : c t 3 = 0) : EvI (d + 2) mX10_areTwo [mR 16 0, mI p, mI q] (G, c) P = P 0 (G, c) := by rw [q_areTwo d P G c t I, e, if_neg (by omega)]
theorem z_isPlace (I : CI G c t) (i : Int) (e : c t 1 = 0) : EvI (d + 3) mX10_isPlace [mR 16 0, mI i] (G, c) P = P 0 (G, c) := by rw [q_isPlace d P G c t I, e, Int.mul_zero, if_neg (by omega)]
end
theorem k_turned (d : Nat) (G : MG) (c : MC) (a b : Int) (H : IV G c) : EvI (d + 40) mX10_turned [mR 16 0, mI a, mI b] (G, c) (fun r1 ν1 => EvI (d + 40) mX12_turned [mR 18 62, mI a, mI b] (ν1.1, ν1.2) (fun r2 ν2 => K2 G r1 r2 ν2)) := by
  obtain ⟨hr, t, z, S, V⟩ := H
  have H0 : IV0 G c := ⟨t, z, S, V⟩
  rcases V with V | ⟨T, n, m, u, q, w, x, s, ka, ki, g, V⟩
  · have I := S.ciN V
    have e1 := V.e1; have e3 := V.e3; have e4 := V.e4; have N := V.T
    have N1 : ∀ wy, up (up c 0 6 wy) 62 0 0 62 3 = -1 := fun wy => by rw [up_nj (by decide), up_na (by decide)]; exact N
    refine ev_X10_turned (d + 39) _ G c 0 a b (by decide) ?_
    simp only [z_isTube _ _ _ _ t I e1, z_isPerson _ _ _ _ t I _ e3, z_isSlot _ _ _ _ t I _ e1, z_isTurn _ _ _ _ t I _ e4, z_areTwo _ _ _ _ t I _ _ e3, z_isPlace _ _ _ _ t I _ e1, ↓reduceIte, q_refused]
    refine ev_X12_turned (d + 39) _ G _ 62 a b (by decide) ⟨by decide, ?_⟩
    rintro _ rfl
    simp only [q_nisSlot _ _ _ _ (N1 _), q_nisPerson _ _ _ _ (N1 _), q_nisTurn _ _ _ _ (N1 _), q_nareTwo _ _ _ _ (N1 _), q_nisPlace _ _ _ _ (N1 _), N1, ↓reduceIte, q_mrefused, Int.reduceNeg, Int.reduceLT, Int.reduceLE, true_and]
    exact ⟨rfl, rfl, IV.q H0 (by decide) (agr_0 _)⟩
  · have I := S.ciT V
    have M := V.M; have hT := M.T; have ht := V.t
    have v1 := V.v1; have v3 := V.v3; have v4 := V.v4; have e0 := V.e0; have e1 := V.e1; have e3 := V.e3; have e4 := V.e4; have e5 := V.e5
    have b0 := M.b0; have b1 := M.b1; have b3 := M.b3; have b4 := M.b4
    rw [v1] at b1; rw [v3] at b3; rw [v4] at b4
    have hnp : 0 < n := by omega
    have hTn : ¬ T < 0 := by omega
    have M1 : ∀ wy, MDs G (up (up c 0 6 wy) 62 0 0) T := fun wy => (M.ki ki_up7).agr (agr_0 _)
    have r64 : ∀ wy, up (up c 0 6 wy) 62 0 0 64 = c 64 := fun wy => by funext j; rw [up_na (by decide), up_na (by decide)]
    have rT : ∀ wy k, up (up c 0 6 wy) 62 0 0 T k = c T k := fun wy k => by rw [up_na (by omega), up_na (by omega)]
    have rTT : ∀ wy (a : Int), 0 ≤ a → up (up c 0 6 wy) 62 0 0 (T + a) = c (T + a) := fun wy a ha => by funext j; rw [up_na (by omega), up_na (by omega)]
    have rS : ∀ wy a b, sld (up (up c 0 6 wy) 62 0 0) T a b = sld c T a b := fun wy a b => sld_eq (fun a j q => by rw [up_na (by omega), up_na (by omega)]) hT
    have hS : ∀ a b, 0 ≤ a → a < u → 0 ≤ b → b < n → sld c T a b = dg (g a) b := fun a b h1 h2 h3 h4 => by unfold sld; rw [v4, if_pos h2]; exact V.tk a b h1 h2 h3 h4
    have V1 : ∀ wy, TV G (up (up c 0 6 wy) 62 0 0) t T n m u q w x s ka ki g := fun wy => (V.kp ki_up7).kp (ki_agr (agr_0 _))
    skip
    refine ev_X10_turned (d + 39) _ G c 0 a b (by decide) ?_
    simp only [q_isTube _ _ _ _ t I, q_isPerson _ _ _ _ t I, q_isSlot _ _ _ _ t I, q_isTurn _ _ _ _ t I, q_areTwo _ _ _ _ t I, q_isPlace _ _ _ _ t I, e0, e1, e3, e4, hnp, ↓reduceIte]
    by_cases h1 : 0 ≤ a ∧ a < u
    · by_cases h2 : 0 ≤ b ∧ b < n
      · simp only [h1, h2, and_self, ↓reduceIte, I.p0, I.H.p8, I.H.g3, q_X7_at, q_fine]
        (repeat (refine And.intro (by first | omega | (simp only [true_and, and_true, and_self]; omega) | (simp only [true_and, and_true, and_self])) ?_))
        refine ev_X12_turned (d + 39) _ G _ 62 a b (by decide) ⟨by decide, ?_⟩
        rintro _ rfl
        simp only [q_misSlot _ _ _ _ T (M1 _), q_misPerson _ _ _ _ T (M1 _), q_misTurn _ _ _ _ T (M1 _), q_mareTwo _ _ _ _ T (M1 _), q_misPlace _ _ _ _ T (M1 _), (M1 _).p3, hTn, rT, v1, v3, v4, ↓reduceIte, Int.reduceLE, true_and, h1, h2, and_self, ↓reduceIte, q_slid _ _ _ _ T (M1 _) a b h1.1 (by omega) h2.1 (by omega), q_mgood, rS]
        exact ⟨by rw [hS a b h1.1 h1.2 h2.1 h2.2, V.g a h1.1 h1.2], rfl, IV.q H0 (by decide) (agr_0 _)⟩
      · simp only [h1, h2, and_self, ↓reduceIte, q_refused]
        refine ev_X12_turned (d + 39) _ G _ 62 a b (by decide) ⟨by decide, ?_⟩
        rintro _ rfl
        simp only [q_misSlot _ _ _ _ T (M1 _), q_misPerson _ _ _ _ T (M1 _), q_misTurn _ _ _ _ T (M1 _), q_mareTwo _ _ _ _ T (M1 _), q_misPlace _ _ _ _ T (M1 _), (M1 _).p3, hTn, rT, v1, v3, v4, ↓reduceIte, Int.reduceLE, true_and, h1, h2, and_self, ↓reduceIte, q_mrefused]
        exact ⟨rfl, rfl, IV.q H0 (by decide) (agr_0 _)⟩
    · simp only [h1, and_self, ↓reduceIte, q_refused]
      refine ev_X12_turned (d + 39) _ G _ 62 a b (by decide) ⟨by decide, ?_⟩
      rintro _ rfl
      simp only [q_misSlot _ _ _ _ T (M1 _), q_misPerson _ _ _ _ T (M1 _), q_misTurn _ _ _ _ T (M1 _), q_mareTwo _ _ _ _ T (M1 _), q_misPlace _ _ _ _ T (M1 _), (M1 _).p3, hTn, rT, v1, v3, v4, ↓reduceIte, Int.reduceLE, true_and, h1, and_self, ↓reduceIte, q_mrefused]
      exact ⟨rfl, rfl, IV.q H0 (by decide) (agr_0 _)⟩
theorem k_ring (d : Nat) (G : MG) (c : MC) (a : Int) (H : IV G c) : EvI (d + 40) mX10_ring [mR 16 0, mI a] (G, c) (fun r1 ν1 => EvI (d + 40) mX12_ring [mR 18 62, mI a] (ν1.1, ν1.2) (fun r2 ν2 => K2 G r1 r2 ν2)) := by
  obtain ⟨hr, t, z, S, V⟩ := H
  have H0 : IV0 G c := ⟨t, z, S, V⟩
  rcases V with V | ⟨T, n, m, u, q, w, x, s, ka, ki, g, V⟩
  · have I := S.ciN V
    have e1 := V.e1; have e3 := V.e3; have e4 := V.e4; have N := V.T
    have N1 : ∀ wy, up (up c 0 6 wy) 62 0 0 62 3 = -1 := fun wy => by rw [up_nj (by decide), up_na (by decide)]; exact N
    refine ev_X10_ring (d + 39) _ G c 0 a (by decide) ?_
    simp only [z_isTube _ _ _ _ t I e1, z_isPerson _ _ _ _ t I _ e3, z_isSlot _ _ _ _ t I _ e1, z_isTurn _ _ _ _ t I _ e4, z_areTwo _ _ _ _ t I _ _ e3, z_isPlace _ _ _ _ t I _ e1, ↓reduceIte, q_refused]
    refine ev_X12_ring (d + 39) _ G _ 62 a (by decide) ⟨by decide, ?_⟩
    rintro _ rfl
    simp only [q_nisSlot _ _ _ _ (N1 _), q_nisPerson _ _ _ _ (N1 _), q_nisTurn _ _ _ _ (N1 _), q_nareTwo _ _ _ _ (N1 _), q_nisPlace _ _ _ _ (N1 _), N1, ↓reduceIte, q_mrefused, Int.reduceNeg, Int.reduceLT, Int.reduceLE, true_and]
    exact ⟨rfl, rfl, IV.q H0 (by decide) (agr_0 _)⟩
  · have I := S.ciT V
    have M := V.M; have hT := M.T; have ht := V.t
    have v1 := V.v1; have v3 := V.v3; have v4 := V.v4; have e0 := V.e0; have e1 := V.e1; have e3 := V.e3; have e4 := V.e4; have e5 := V.e5
    have b0 := M.b0; have b1 := M.b1; have b3 := M.b3; have b4 := M.b4
    rw [v1] at b1; rw [v3] at b3; rw [v4] at b4
    have hnp : 0 < n := by omega
    have hTn : ¬ T < 0 := by omega
    have M1 : ∀ wy, MDs G (up (up c 0 6 wy) 62 0 0) T := fun wy => (M.ki ki_up7).agr (agr_0 _)
    have r64 : ∀ wy, up (up c 0 6 wy) 62 0 0 64 = c 64 := fun wy => by funext j; rw [up_na (by decide), up_na (by decide)]
    have rT : ∀ wy k, up (up c 0 6 wy) 62 0 0 T k = c T k := fun wy k => by rw [up_na (by omega), up_na (by omega)]
    have rTT : ∀ wy (a : Int), 0 ≤ a → up (up c 0 6 wy) 62 0 0 (T + a) = c (T + a) := fun wy a ha => by funext j; rw [up_na (by omega), up_na (by omega)]
    have rS : ∀ wy a b, sld (up (up c 0 6 wy) 62 0 0) T a b = sld c T a b := fun wy a b => sld_eq (fun a j q => by rw [up_na (by omega), up_na (by omega)]) hT
    have hS : ∀ a b, 0 ≤ a → a < u → 0 ≤ b → b < n → sld c T a b = dg (g a) b := fun a b h1 h2 h3 h4 => by unfold sld; rw [v4, if_pos h2]; exact V.tk a b h1 h2 h3 h4
    have V1 : ∀ wy, TV G (up (up c 0 6 wy) 62 0 0) t T n m u q w x s ka ki g := fun wy => (V.kp ki_up7).kp (ki_agr (agr_0 _))
    skip
    refine ev_X10_ring (d + 39) _ G c 0 a (by decide) ?_
    simp only [q_isTube _ _ _ _ t I, q_isPerson _ _ _ _ t I, q_isSlot _ _ _ _ t I, q_isTurn _ _ _ _ t I, q_areTwo _ _ _ _ t I, q_isPlace _ _ _ _ t I, e0, e1, e3, e4, hnp, ↓reduceIte]
    by_cases h1 : 0 ≤ a ∧ a < 2 * c T 0 * n
    · simp only [h1, and_self, ↓reduceIte, q_slotAt _ _ _ _ t I a (show c t 1 ≠ 0 by omega), q_whoIsIn _ _ _ _ t I, q_fine, e1, e3]
      refine ev_X12_ring (d + 39) _ G _ 62 a (by decide) ⟨by decide, ?_⟩
      rintro _ rfl
      simp only [q_misSlot _ _ _ _ T (M1 _), q_misPerson _ _ _ _ T (M1 _), q_misTurn _ _ _ _ T (M1 _), q_mareTwo _ _ _ _ T (M1 _), q_misPlace _ _ _ _ T (M1 _), (M1 _).p3, hTn, rT, v1, v3, v4, ↓reduceIte, Int.reduceLE, true_and, h1, and_self, ↓reduceIte, q_seenSlot _ _ _ _ T (M1 _), q_whoIn _ _ _ _ T (M1 _), q_mgood, r64]
      exact ⟨whoF_congr (fun p h1 h2 => (V.sv p h1 h2).1), rfl, IV.q H0 (by decide) (agr_0 _)⟩
    · simp only [h1, and_self, ↓reduceIte, q_refused]
      refine ev_X12_ring (d + 39) _ G _ 62 a (by decide) ⟨by decide, ?_⟩
      rintro _ rfl
      simp only [q_misSlot _ _ _ _ T (M1 _), q_misPerson _ _ _ _ T (M1 _), q_misTurn _ _ _ _ T (M1 _), q_mareTwo _ _ _ _ T (M1 _), q_misPlace _ _ _ _ T (M1 _), (M1 _).p3, hTn, rT, v1, v3, v4, ↓reduceIte, Int.reduceLE, true_and, h1, and_self, ↓reduceIte, q_mrefused]
      exact ⟨rfl, rfl, IV.q H0 (by decide) (agr_0 _)⟩
theorem k_truth (d : Nat) (G : MG) (c : MC) (a : Int) (H : IV G c) : EvI (d + 40) mX10_truth [mR 16 0, mI a] (G, c) (fun r1 ν1 => EvI (d + 40) mX12_truth [mR 18 62, mI a] (ν1.1, ν1.2) (fun r2 ν2 => K2 G r1 r2 ν2)) := by
  obtain ⟨hr, t, z, S, V⟩ := H
  have H0 : IV0 G c := ⟨t, z, S, V⟩
  rcases V with V | ⟨T, n, m, u, q, w, x, s, ka, ki, g, V⟩
  · have I := S.ciN V
    have e1 := V.e1; have e3 := V.e3; have e4 := V.e4; have N := V.T
    have N1 : ∀ wy, up (up c 0 6 wy) 62 0 0 62 3 = -1 := fun wy => by rw [up_nj (by decide), up_na (by decide)]; exact N
    refine ev_X10_truth (d + 39) _ G c 0 a (by decide) ?_
    simp only [z_isTube _ _ _ _ t I e1, z_isPerson _ _ _ _ t I _ e3, z_isSlot _ _ _ _ t I _ e1, z_isTurn _ _ _ _ t I _ e4, z_areTwo _ _ _ _ t I _ _ e3, z_isPlace _ _ _ _ t I _ e1, ↓reduceIte, q_refused]
    refine ev_X12_truth (d + 39) _ G _ 62 a (by decide) ⟨by decide, ?_⟩
    rintro _ rfl
    simp only [q_nisSlot _ _ _ _ (N1 _), q_nisPerson _ _ _ _ (N1 _), q_nisTurn _ _ _ _ (N1 _), q_nareTwo _ _ _ _ (N1 _), q_nisPlace _ _ _ _ (N1 _), N1, ↓reduceIte, q_mrefused, Int.reduceNeg, Int.reduceLT, Int.reduceLE, true_and]
    exact ⟨rfl, rfl, IV.q H0 (by decide) (agr_0 _)⟩
  · have I := S.ciT V
    have M := V.M; have hT := M.T; have ht := V.t
    have v1 := V.v1; have v3 := V.v3; have v4 := V.v4; have e0 := V.e0; have e1 := V.e1; have e3 := V.e3; have e4 := V.e4; have e5 := V.e5
    have b0 := M.b0; have b1 := M.b1; have b3 := M.b3; have b4 := M.b4
    rw [v1] at b1; rw [v3] at b3; rw [v4] at b4
    have hnp : 0 < n := by omega
    have hTn : ¬ T < 0 := by omega
    have M1 : ∀ wy, MDs G (up (up c 0 6 wy) 62 0 0) T := fun wy => (M.ki ki_up7).agr (agr_0 _)
    have r64 : ∀ wy, up (up c 0 6 wy) 62 0 0 64 = c 64 := fun wy => by funext j; rw [up_na (by decide), up_na (by decide)]
    have rT : ∀ wy k, up (up c 0 6 wy) 62 0 0 T k = c T k := fun wy k => by rw [up_na (by omega), up_na (by omega)]
    have rTT : ∀ wy (a : Int), 0 ≤ a → up (up c 0 6 wy) 62 0 0 (T + a) = c (T + a) := fun wy a ha => by funext j; rw [up_na (by omega), up_na (by omega)]
    have rS : ∀ wy a b, sld (up (up c 0 6 wy) 62 0 0) T a b = sld c T a b := fun wy a b => sld_eq (fun a j q => by rw [up_na (by omega), up_na (by omega)]) hT
    have hS : ∀ a b, 0 ≤ a → a < u → 0 ≤ b → b < n → sld c T a b = dg (g a) b := fun a b h1 h2 h3 h4 => by unfold sld; rw [v4, if_pos h2]; exact V.tk a b h1 h2 h3 h4
    have V1 : ∀ wy, TV G (up (up c 0 6 wy) 62 0 0) t T n m u q w x s ka ki g := fun wy => (V.kp ki_up7).kp (ki_agr (agr_0 _))
    skip
    refine ev_X10_truth (d + 39) _ G c 0 a (by decide) ?_
    simp only [q_isTube _ _ _ _ t I, q_isPerson _ _ _ _ t I, q_isSlot _ _ _ _ t I, q_isTurn _ _ _ _ t I, q_areTwo _ _ _ _ t I, q_isPlace _ _ _ _ t I, e0, e1, e3, e4, hnp, ↓reduceIte]
    by_cases h1 : 0 ≤ a ∧ a < 2 * c T 0 * n
    · simp only [h1, and_self, ↓reduceIte, q_slotAt _ _ _ _ t I a (show c t 1 ≠ 0 by omega), q_fine, e1]
      refine ev_X12_truth (d + 39) _ G _ 62 a (by decide) ⟨by decide, ?_⟩
      rintro _ rfl
      simp only [q_misSlot _ _ _ _ T (M1 _), q_misPerson _ _ _ _ T (M1 _), q_misTurn _ _ _ _ T (M1 _), q_mareTwo _ _ _ _ T (M1 _), q_misPlace _ _ _ _ T (M1 _), (M1 _).p3, hTn, rT, v1, v3, v4, ↓reduceIte, Int.reduceLE, true_and, h1, and_self, ↓reduceIte, q_seenSlot _ _ _ _ T (M1 _), q_mgood]
      exact ⟨rfl, rfl, IV.q H0 (by decide) (agr_0 _)⟩
    · simp only [h1, and_self, ↓reduceIte, q_refused]
      refine ev_X12_truth (d + 39) _ G _ 62 a (by decide) ⟨by decide, ?_⟩
      rintro _ rfl
      simp only [q_misSlot _ _ _ _ T (M1 _), q_misPerson _ _ _ _ T (M1 _), q_misTurn _ _ _ _ T (M1 _), q_mareTwo _ _ _ _ T (M1 _), q_misPlace _ _ _ _ T (M1 _), (M1 _).p3, hTn, rT, v1, v3, v4, ↓reduceIte, Int.reduceLE, true_and, h1, and_self, ↓reduceIte, q_mrefused]
      exact ⟨rfl, rfl, IV.q H0 (by decide) (agr_0 _)⟩
theorem k_quarrels (d : Nat) (G : MG) (c : MC) (H : IV G c) : EvI (d + 40) mX10_quarrels [mR 16 0] (G, c) (fun r1 ν1 => EvI (d + 40) mX12_quarrels [mR 18 62] (ν1.1, ν1.2) (fun r2 ν2 => K2 G r1 r2 ν2)) := by
  obtain ⟨hr, t, z, S, V⟩ := H
  have H0 : IV0 G c := ⟨t, z, S, V⟩
  rcases V with V | ⟨T, n, m, u, q, w, x, s, ka, ki, g, V⟩
  · have I := S.ciN V
    have e1 := V.e1; have e3 := V.e3; have e4 := V.e4; have N := V.T
    have N1 : ∀ wy, up (up c 0 6 wy) 62 0 0 62 3 = -1 := fun wy => by rw [up_nj (by decide), up_na (by decide)]; exact N
    refine ev_X10_quarrels (d + 39) _ G c 0 (by decide) ?_
    simp only [z_isTube _ _ _ _ t I e1, z_isPerson _ _ _ _ t I _ e3, z_isSlot _ _ _ _ t I _ e1, z_isTurn _ _ _ _ t I _ e4, z_areTwo _ _ _ _ t I _ _ e3, z_isPlace _ _ _ _ t I _ e1, ↓reduceIte, q_refused]
    refine ev_X12_quarrels (d + 39) _ G _ 62 (by decide) ⟨by decide, ?_⟩
    rintro _ rfl
    simp only [q_nisSlot _ _ _ _ (N1 _), q_nisPerson _ _ _ _ (N1 _), q_nisTurn _ _ _ _ (N1 _), q_nareTwo _ _ _ _ (N1 _), q_nisPlace _ _ _ _ (N1 _), N1, ↓reduceIte, q_mrefused, Int.reduceNeg, Int.reduceLT, Int.reduceLE, true_and]
    exact ⟨rfl, rfl, IV.q H0 (by decide) (agr_0 _)⟩
  · have I := S.ciT V
    have M := V.M; have hT := M.T; have ht := V.t
    have v1 := V.v1; have v3 := V.v3; have v4 := V.v4; have e0 := V.e0; have e1 := V.e1; have e3 := V.e3; have e4 := V.e4; have e5 := V.e5
    have b0 := M.b0; have b1 := M.b1; have b3 := M.b3; have b4 := M.b4
    rw [v1] at b1; rw [v3] at b3; rw [v4] at b4
    have hnp : 0 < n := by omega
    have hTn : ¬ T < 0 := by omega
    have M1 : ∀ wy, MDs G (up (up c 0 6 wy) 62 0 0) T := fun wy => (M.ki ki_up7).agr (agr_0 _)
    have r64 : ∀ wy, up (up c 0 6 wy) 62 0 0 64 = c 64 := fun wy => by funext j; rw [up_na (by decide), up_na (by decide)]
    have rT : ∀ wy k, up (up c 0 6 wy) 62 0 0 T k = c T k := fun wy k => by rw [up_na (by omega), up_na (by omega)]
    have rTT : ∀ wy (a : Int), 0 ≤ a → up (up c 0 6 wy) 62 0 0 (T + a) = c (T + a) := fun wy a ha => by funext j; rw [up_na (by omega), up_na (by omega)]
    have rS : ∀ wy a b, sld (up (up c 0 6 wy) 62 0 0) T a b = sld c T a b := fun wy a b => sld_eq (fun a j q => by rw [up_na (by omega), up_na (by omega)]) hT
    have hS : ∀ a b, 0 ≤ a → a < u → 0 ≤ b → b < n → sld c T a b = dg (g a) b := fun a b h1 h2 h3 h4 => by unfold sld; rw [v4, if_pos h2]; exact V.tk a b h1 h2 h3 h4
    have V1 : ∀ wy, TV G (up (up c 0 6 wy) 62 0 0) t T n m u q w x s ka ki g := fun wy => (V.kp ki_up7).kp (ki_agr (agr_0 _))
    skip
    refine ev_X10_quarrels (d + 39) _ G c 0 (by decide) ?_
    simp only [q_isTube _ _ _ _ t I, q_isPerson _ _ _ _ t I, q_isSlot _ _ _ _ t I, q_isTurn _ _ _ _ t I, q_areTwo _ _ _ _ t I, q_isPlace _ _ _ _ t I, e0, e1, e3, e4, hnp, ↓reduceIte]
    simp only [I.p0, I.p3, q_quarrelsBy _ _ _ _ t I, q_fine]
    (repeat (refine And.intro (by first | omega | (simp only [true_and, and_true, and_self]; omega) | (simp only [true_and, and_true, and_self])) ?_))
    refine ev_X12_quarrels (d + 39) _ G _ 62 (by decide) ⟨by decide, ?_⟩
    rintro _ rfl
    have M2 : MDs G (wr (up (up c 0 6 0) 62 0 0) 65 0 6 (fun p => c 64 p)) T := (M1 0).agr (Agr.rf.w (fun j => by unfold scr; omega))
    have A2 : Agr (up c 0 6 0) (wr (up (up c 0 6 0) 62 0 0) 65 0 6 (fun p => c 64 p)) := (agr_0 _).w (fun j => by unfold scr; omega)
    have x2 : ∀ p, 0 ≤ p → p < m → dg (c 42 0) p = wr (up (up c 0 6 0) 62 0 0) 65 0 6 (fun p => c 64 p) 65 p := fun p a b => by rw [wr_in a (by omega)]; exact (V.sv p a b).1
    have rT2 : ∀ k, wr (up (up c 0 6 0) 62 0 0) 65 0 6 (fun p => c 64 p) T k = c T k := fun k => by rw [wr_ne (by omega)]; exact rT 0 k
    have rTT2 : ∀ (a : Int), 0 ≤ a → wr (up (up c 0 6 0) 62 0 0) 65 0 6 (fun p => c 64 p) (T + a) = c (T + a) := fun a ha => by funext j; rw [wr_ne (by omega), rTT 0 a ha]
    simp only [q_misSlot _ _ _ _ T (M1 _), q_misPerson _ _ _ _ T (M1 _), q_misTurn _ _ _ _ T (M1 _), q_mareTwo _ _ _ _ T (M1 _), q_misPlace _ _ _ _ T (M1 _), (M1 _).p3, hTn, rT, v1, v3, v4, ↓reduceIte, Int.reduceLE, true_and, q_works _ _ _ _ T (M1 _), r64]
    (repeat (refine And.intro (by first | omega | (simp only [true_and, and_true, and_self]; omega) | (simp only [true_and, and_true, and_self])) ?_))
    rw [q_quarrelsNow _ _ _ _ T M2 (fun p a b => by rw [rT2, v3] at b; rw [rT2, v3, rTT2 3 (by omega)]; have := V.foeb (wr (up (up c 0 6 0) 62 0 0) 65 0 6 (fun p => c 64 p) 65) p a b; omega)]
    simp only [q_mgood, rT2, v3, rTT2 3 (by omega)]
    exact ⟨tv_qall V x2, rfl, IV.q H0 (by decide) A2⟩
theorem k_met (d : Nat) (G : MG) (c : MC) (H : IV G c) : EvI (d + 40) mX10_met [mR 16 0] (G, c) (fun r1 ν1 => EvI (d + 40) mX12_met [mR 18 62] (ν1.1, ν1.2) (fun r2 ν2 => K2 G r1 r2 ν2)) := by
  obtain ⟨hr, t, z, S, V⟩ := H
  have H0 : IV0 G c := ⟨t, z, S, V⟩
  rcases V with V | ⟨T, n, m, u, q, w, x, s, ka, ki, g, V⟩
  · have I := S.ciN V
    have e1 := V.e1; have e3 := V.e3; have e4 := V.e4; have N := V.T
    have N1 : ∀ wy, up (up c 0 6 wy) 62 0 0 62 3 = -1 := fun wy => by rw [up_nj (by decide), up_na (by decide)]; exact N
    refine ev_X10_met (d + 39) _ G c 0 (by decide) ?_
    simp only [z_isTube _ _ _ _ t I e1, z_isPerson _ _ _ _ t I _ e3, z_isSlot _ _ _ _ t I _ e1, z_isTurn _ _ _ _ t I _ e4, z_areTwo _ _ _ _ t I _ _ e3, z_isPlace _ _ _ _ t I _ e1, ↓reduceIte, q_refused]
    refine ev_X12_met (d + 39) _ G _ 62 (by decide) ⟨by decide, ?_⟩
    rintro _ rfl
    simp only [q_nisSlot _ _ _ _ (N1 _), q_nisPerson _ _ _ _ (N1 _), q_nisTurn _ _ _ _ (N1 _), q_nareTwo _ _ _ _ (N1 _), q_nisPlace _ _ _ _ (N1 _), N1, ↓reduceIte, q_mrefused, Int.reduceNeg, Int.reduceLT, Int.reduceLE, true_and]
    exact ⟨rfl, rfl, IV.q H0 (by decide) (agr_0 _)⟩
  · have I := S.ciT V
    have M := V.M; have hT := M.T; have ht := V.t
    have v1 := V.v1; have v3 := V.v3; have v4 := V.v4; have e0 := V.e0; have e1 := V.e1; have e3 := V.e3; have e4 := V.e4; have e5 := V.e5
    have b0 := M.b0; have b1 := M.b1; have b3 := M.b3; have b4 := M.b4
    rw [v1] at b1; rw [v3] at b3; rw [v4] at b4
    have hnp : 0 < n := by omega
    have hTn : ¬ T < 0 := by omega
    have M1 : ∀ wy, MDs G (up (up c 0 6 wy) 62 0 0) T := fun wy => (M.ki ki_up7).agr (agr_0 _)
    have r64 : ∀ wy, up (up c 0 6 wy) 62 0 0 64 = c 64 := fun wy => by funext j; rw [up_na (by decide), up_na (by decide)]
    have rT : ∀ wy k, up (up c 0 6 wy) 62 0 0 T k = c T k := fun wy k => by rw [up_na (by omega), up_na (by omega)]
    have rTT : ∀ wy (a : Int), 0 ≤ a → up (up c 0 6 wy) 62 0 0 (T + a) = c (T + a) := fun wy a ha => by funext j; rw [up_na (by omega), up_na (by omega)]
    have rS : ∀ wy a b, sld (up (up c 0 6 wy) 62 0 0) T a b = sld c T a b := fun wy a b => sld_eq (fun a j q => by rw [up_na (by omega), up_na (by omega)]) hT
    have hS : ∀ a b, 0 ≤ a → a < u → 0 ≤ b → b < n → sld c T a b = dg (g a) b := fun a b h1 h2 h3 h4 => by unfold sld; rw [v4, if_pos h2]; exact V.tk a b h1 h2 h3 h4
    have V1 : ∀ wy, TV G (up (up c 0 6 wy) 62 0 0) t T n m u q w x s ka ki g := fun wy => (V.kp ki_up7).kp (ki_agr (agr_0 _))
    skip
    refine ev_X10_met (d + 39) _ G c 0 (by decide) ?_
    simp only [q_isTube _ _ _ _ t I, q_isPerson _ _ _ _ t I, q_isSlot _ _ _ _ t I, q_isTurn _ _ _ _ t I, q_areTwo _ _ _ _ t I, q_isPlace _ _ _ _ t I, e0, e1, e3, e4, hnp, ↓reduceIte]
    simp only [I.p0, I.p3, I.H.p12, q_holding _ _ _ _ (t + 10) 4 _ I.H.w, q_fine]
    (repeat (refine And.intro (by first | omega | (simp only [true_and, and_true, and_self]; omega) | (simp only [true_and, and_true, and_self])) ?_))
    refine ev_X12_met (d + 39) _ G _ 62 (by decide) ⟨by decide, ?_⟩
    rintro _ rfl
    have M2 : MDs G (wr (up (up c 0 6 0) 62 0 0) 65 0 6 (fun p => c 64 p)) T := (M1 0).agr (Agr.rf.w (fun j => by unfold scr; omega))
    have A2 : Agr (up c 0 6 0) (wr (up (up c 0 6 0) 62 0 0) 65 0 6 (fun p => c 64 p)) := (agr_0 _).w (fun j => by unfold scr; omega)
    have x2 : ∀ p, 0 ≤ p → p < m → dg (c 42 0) p = wr (up (up c 0 6 0) 62 0 0) 65 0 6 (fun p => c 64 p) 65 p := fun p a b => by rw [wr_in a (by omega)]; exact (V.sv p a b).1
    have rT2 : ∀ k, wr (up (up c 0 6 0) 62 0 0) 65 0 6 (fun p => c 64 p) T k = c T k := fun k => by rw [wr_ne (by omega)]; exact rT 0 k
    have rTT2 : ∀ (a : Int), 0 ≤ a → wr (up (up c 0 6 0) 62 0 0) 65 0 6 (fun p => c 64 p) (T + a) = c (T + a) := fun a ha => by funext j; rw [wr_ne (by omega), rTT 0 a ha]
    have v6 := V.v6
    have b6 := M.b6
    rw [v6] at b6
    simp only [q_misSlot _ _ _ _ T (M1 _), q_misPerson _ _ _ _ T (M1 _), q_misTurn _ _ _ _ T (M1 _), q_mareTwo _ _ _ _ T (M1 _), q_misPlace _ _ _ _ T (M1 _), (M1 _).p3, hTn, rT, v1, v3, v4, ↓reduceIte, Int.reduceLE, true_and, q_works _ _ _ _ T (M1 _), r64]
    (repeat (refine And.intro (by first | omega | (simp only [true_and, and_true, and_self]; omega) | (simp only [true_and, and_true, and_self])) ?_))
    rw [q_metNow _ _ _ _ T M2 (fun k a b => by rw [rT2, v6] at b; rw [rTT2 5 (by omega), rTT2 6 (by omega)]; have := V.wi k a b; omega)]
    simp only [q_mgood]
    exact ⟨by rw [mtn_bs _ T _ (by rw [rT2, v6]; omega) (by rw [rT2, v6]; omega), rT2, rT2, v6, rTT2 5 (by omega), rTT2 6 (by omega)]; exact V.wish x2, rfl, IV.q H0 (by decide) A2⟩
