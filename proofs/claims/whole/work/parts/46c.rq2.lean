theorem sm_add (f g : Int → Int) : ∀ n, 0 ≤ n → sm (fun i => f i + g i) n = sm f n + sm g n := by
  apply sm_nat
  · rfl
  · intro n hn ih; rw [sm_succ _ hn, sm_succ _ hn, sm_succ _ hn, ih]; omega
theorem sm_zero : ∀ n, 0 ≤ n → sm (fun _ => 0) n = 0 := by
  apply sm_nat
  · rfl
  · intro n hn ih; rw [sm_succ _ hn, ih]; rfl
theorem sm_ind (F : Int → Int) (a : Int) : ∀ n, 0 ≤ n → sm (fun q => if a = q then F q else 0) n = if 0 ≤ a ∧ a < n then F a else 0 := by
  apply sm_nat
  · rw [if_neg (by omega)]; rfl
  · intro n hn ih
    rw [sm_succ _ hn, ih]
    by_cases e : a = n
    · subst e; rw [if_neg (by omega), if_pos rfl, if_pos (by omega)]; omega
    · rw [if_neg e]
      by_cases e2 : 0 ≤ a ∧ a < n
      · rw [if_pos e2, if_pos (by omega)]; omega
      · rw [if_neg e2, if_neg (by omega)]; rfl
/-- what is summed one by one is summed by sorts -/
theorem sm_sorts (F f : Int → Int) {N : Int} (hN : 0 ≤ N) : ∀ w, 0 ≤ w → (∀ i, 0 ≤ i → i < w → 0 ≤ f i ∧ f i < N) → sm (fun i => F (f i)) w = sm (fun q => cnt (fun i => decide (f i = q)) w * F q) N := by
  apply sm_nat
  · intro _
    have : sm (fun q => cnt (fun i => decide (f i = q)) 0 * F q) N = sm (fun _ => 0) N := sm_congr fun q _ _ => by
      rw [show cnt (fun i => decide (f i = q)) 0 = 0 from rfl]; omega
    rw [this, sm_zero N hN]
    rfl
  · intro w hw ih h
    rw [sm_succ _ hw, ih (fun i a b => h i a (by omega))]
    have e : sm (fun q => cnt (fun i => decide (f i = q)) (w + 1) * F q) N = sm (fun q => cnt (fun i => decide (f i = q)) w * F q + if f w = q then F q else 0) N := sm_congr fun q _ _ => by
      rw [cnt_succ _ hw, Int.add_mul]
      by_cases e : f w = q <;> simp [e]
    rw [e, sm_add _ _ N hN, sm_ind F (f w) N hN, if_pos (h w hw (by omega))]
theorem cnt_sm (p : Int → Bool) : ∀ n, 0 ≤ n → cnt p n = sm (fun i => if p i = true then 1 else 0) n := by
  apply sm_nat
  · rfl
  · intro n hn ih; rw [cnt_succ _ hn, sm_succ _ hn, ih]
theorem cw_fo {p : Int → Bool} : ∀ (j : Nat) (i s : Int), 0 ≤ s → s + j < 1000000 → fo (fun k s => if p k = true then w32 (s + 1) else w32 (s + 0)) j i s = fo (fun k (s : Int) => if p k = true then s + 1 else s) j i s := by
  intro j
  induction j with
  | zero => intro i s _ _; rfl
  | succ j ih =>
    intro i s s0 s1
    simp only [fo]
    rw [w32i (x := s + 1) (by omega) (by omega), w32i (x := s + 0) (by omega) (by omega), Int.add_zero]
    split <;> exact ih _ _ (by omega) (by omega)
theorem k_reach (d : Nat) (G : MG) (c : MC) (H : IV G c) : EvI (d + 40) mX10_reach [mR 16 0] (G, c) (fun r1 ν1 => EvI (d + 40) mX12_reach [mR 18 62] (ν1.1, ν1.2) (fun r2 ν2 => K2 G r1 r2 ν2)) := by
  obtain ⟨hr, t, z, S, V⟩ := H
  have H0 : IV0 G c := ⟨t, z, S, V⟩
  rcases V with V | ⟨T, n, m, u, q, w, x, s, ka, ki, g, V⟩
  · have I := S.ciN V
    have e1 := V.e1; have e3 := V.e3; have e4 := V.e4; have N := V.T
    have N1 : ∀ wy, up (up c 0 6 wy) 62 0 0 62 3 = -1 := fun wy => by rw [up_nj (by decide), up_na (by decide)]; exact N
    refine ev_X10_reach (d + 39) _ G c 0 (by decide) ?_
    simp only [z_isTube _ _ _ _ t I e1, z_isPerson _ _ _ _ t I _ e3, z_isSlot _ _ _ _ t I _ e1, z_isTurn _ _ _ _ t I _ e4, z_areTwo _ _ _ _ t I _ _ e3, z_isPlace _ _ _ _ t I _ e1, ↓reduceIte, q_refused]
    refine ev_X12_reach (d + 39) _ G _ 62 (by decide) ⟨by decide, ?_⟩
    rintro _ rfl
    simp only [q_nisSlot _ _ _ _ (N1 _), q_nisPerson _ _ _ _ (N1 _), q_nisTurn _ _ _ _ (N1 _), q_nareTwo _ _ _ _ (N1 _), q_nisPlace _ _ _ _ (N1 _), N1, ↓reduceIte, q_mrefused, Int.reduceNeg, Int.reduceLT, Int.reduceLE, true_and]
    exact ⟨rfl, rfl, IV.q H0 (by decide) (agr_0 _)⟩
  · have I := S.ciT V
    have M := V.M; have hT := M.T; have ht := V.t
    have v1 := V.v1; have v3 := V.v3; have v4 := V.v4; have e0 := V.e0; have e1 := V.e1; have e3 := V.e3; have e4 := V.e4; have e5 := V.e5
    have b0 := M.b0; have b1 := M.b1; have b3 := M.b3; have b4 := M.b4
    rw [v1] at b1; rw [v3] at b3; rw [v4] at b4
    have hnp : 0 < n := by omega
    have hTn : ¬ T < 0 := by omega
    have M1 : ∀ wy, MDs G (up (up c 0 6 wy) 62 0 0) T := fun wy => (M.ki ki_up7).agr (agr_0 _)
    have r64 : ∀ wy, up (up c 0 6 wy) 62 0 0 64 = c 64 := fun wy => by funext j; rw [up_na (by decide), up_na (by decide)]
    have rT : ∀ wy k, up (up c 0 6 wy) 62 0 0 T k = c T k := fun wy k => by rw [up_na (by omega), up_na (by omega)]
    have rTT : ∀ wy (a : Int), 0 ≤ a → up (up c 0 6 wy) 62 0 0 (T + a) = c (T + a) := fun wy a ha => by funext j; rw [up_na (by omega), up_na (by omega)]
    have rS : ∀ wy a b, sld (up (up c 0 6 wy) 62 0 0) T a b = sld c T a b := fun wy a b => sld_eq (fun a j q => by rw [up_na (by omega), up_na (by omega)]) hT
    have hS : ∀ a b, 0 ≤ a → a < u → 0 ≤ b → b < n → sld c T a b = dg (g a) b := fun a b h1 h2 h3 h4 => by unfold sld; rw [v4, if_pos h2]; exact V.tk a b h1 h2 h3 h4
    have V1 : ∀ wy, TV G (up (up c 0 6 wy) 62 0 0) t T n m u q w x s ka ki g := fun wy => (V.kp ki_up7).kp (ki_agr (agr_0 _))
    skip
    refine ev_X10_reach (d + 39) _ G c 0 (by decide) ?_
    simp only [q_isTube _ _ _ _ t I, q_isPerson _ _ _ _ t I, q_isSlot _ _ _ _ t I, q_isTurn _ _ _ _ t I, q_areTwo _ _ _ _ t I, q_isPlace _ _ _ _ t I, e0, e1, e3, e4, hnp, ↓reduceIte]
    refine f_reached _ _ V S (fun c V S C f => ?_)
    have H0 : IV0 G c := ⟨t, z, S, Or.inr ⟨T, n, m, u, q, w, x, s, ka, ki, g, V⟩⟩
    have I := S.ciT V
    have M := V.M; have hT := M.T; have ht := V.t
    have v1 := V.v1; have v3 := V.v3; have v4 := V.v4; have e0 := V.e0; have e1 := V.e1; have e3 := V.e3; have e4 := V.e4; have e5 := V.e5
    have b0 := M.b0; have b1 := M.b1; have b3 := M.b3; have b4 := M.b4
    rw [v1] at b1; rw [v3] at b3; rw [v4] at b4
    have hnp : 0 < n := by omega
    have hTn : ¬ T < 0 := by omega
    have M1 : ∀ wy, MDs G (up (up c 0 6 wy) 62 0 0) T := fun wy => (M.ki ki_up7).agr (agr_0 _)
    have r64 : ∀ wy, up (up c 0 6 wy) 62 0 0 64 = c 64 := fun wy => by funext j; rw [up_na (by decide), up_na (by decide)]
    have rT : ∀ wy k, up (up c 0 6 wy) 62 0 0 T k = c T k := fun wy k => by rw [up_na (by omega), up_na (by omega)]
    have rTT : ∀ wy (a : Int), 0 ≤ a → up (up c 0 6 wy) 62 0 0 (T + a) = c (T + a) := fun wy a ha => by funext j; rw [up_na (by omega), up_na (by omega)]
    have rS : ∀ wy a b, sld (up (up c 0 6 wy) 62 0 0) T a b = sld c T a b := fun wy a b => sld_eq (fun a j q => by rw [up_na (by omega), up_na (by omega)]) hT
    have hS : ∀ a b, 0 ≤ a → a < u → 0 ≤ b → b < n → sld c T a b = dg (g a) b := fun a b h1 h2 h3 h4 => by unfold sld; rw [v4, if_pos h2]; exact V.tk a b h1 h2 h3 h4
    have V1 : ∀ wy, TV G (up (up c 0 6 wy) 62 0 0) t T n m u q w x s ka ki g := fun wy => (V.kp ki_up7).kp (ki_agr (agr_0 _))
    obtain ⟨B, w1, s0, Cl⟩ := tv_bfs V
    have hw := B.w

    simp only [C.w, q_fine]
    (repeat (refine And.intro (by first | omega | (simp only [true_and, and_true, and_self]; omega) | (simp only [true_and, and_true, and_self])) ?_))
    refine ev_X12_reach (d + 39) _ G _ 62 (by decide) ⟨by decide, ?_⟩
    rintro _ rfl
    have Mb := (V1 0).B
    simp only [q_misSlot _ _ _ _ T (M1 _), q_misPerson _ _ _ _ T (M1 _), q_misTurn _ _ _ _ T (M1 _), q_mareTwo _ _ _ _ T (M1 _), q_misPlace _ _ _ _ T (M1 _), (M1 _).p3, hTn, rT, v1, v3, v4, ↓reduceIte, Int.reduceLE, true_and, Mb.w, q_mgood]
    exact ⟨rfl, rfl, IV.q H0 (by decide) (agr_0 _)⟩
theorem k_deepest (d : Nat) (G : MG) (c : MC) (H : IV G c) : EvI (d + 40) mX10_deepest [mR 16 0] (G, c) (fun r1 ν1 => EvI (d + 40) mX12_deepest [mR 18 62] (ν1.1, ν1.2) (fun r2 ν2 => K2 G r1 r2 ν2)) := by
  obtain ⟨hr, t, z, S, V⟩ := H
  have H0 : IV0 G c := ⟨t, z, S, V⟩
  rcases V with V | ⟨T, n, m, u, q, w, x, s, ka, ki, g, V⟩
  · have I := S.ciN V
    have e1 := V.e1; have e3 := V.e3; have e4 := V.e4; have N := V.T
    have N1 : ∀ wy, up (up c 0 6 wy) 62 0 0 62 3 = -1 := fun wy => by rw [up_nj (by decide), up_na (by decide)]; exact N
    refine ev_X10_deepest (d + 39) _ G c 0 (by decide) ?_
    simp only [z_isTube _ _ _ _ t I e1, z_isPerson _ _ _ _ t I _ e3, z_isSlot _ _ _ _ t I _ e1, z_isTurn _ _ _ _ t I _ e4, z_areTwo _ _ _ _ t I _ _ e3, z_isPlace _ _ _ _ t I _ e1, ↓reduceIte, q_refused]
    refine ev_X12_deepest (d + 39) _ G _ 62 (by decide) ⟨by decide, ?_⟩
    rintro _ rfl
    simp only [q_nisSlot _ _ _ _ (N1 _), q_nisPerson _ _ _ _ (N1 _), q_nisTurn _ _ _ _ (N1 _), q_nareTwo _ _ _ _ (N1 _), q_nisPlace _ _ _ _ (N1 _), N1, ↓reduceIte, q_mrefused, Int.reduceNeg, Int.reduceLT, Int.reduceLE, true_and]
    exact ⟨rfl, rfl, IV.q H0 (by decide) (agr_0 _)⟩
  · have I := S.ciT V
    have M := V.M; have hT := M.T; have ht := V.t
    have v1 := V.v1; have v3 := V.v3; have v4 := V.v4; have e0 := V.e0; have e1 := V.e1; have e3 := V.e3; have e4 := V.e4; have e5 := V.e5
    have b0 := M.b0; have b1 := M.b1; have b3 := M.b3; have b4 := M.b4
    rw [v1] at b1; rw [v3] at b3; rw [v4] at b4
    have hnp : 0 < n := by omega
    have hTn : ¬ T < 0 := by omega
    have M1 : ∀ wy, MDs G (up (up c 0 6 wy) 62 0 0) T := fun wy => (M.ki ki_up7).agr (agr_0 _)
    have r64 : ∀ wy, up (up c 0 6 wy) 62 0 0 64 = c 64 := fun wy => by funext j; rw [up_na (by decide), up_na (by decide)]
    have rT : ∀ wy k, up (up c 0 6 wy) 62 0 0 T k = c T k := fun wy k => by rw [up_na (by omega), up_na (by omega)]
    have rTT : ∀ wy (a : Int), 0 ≤ a → up (up c 0 6 wy) 62 0 0 (T + a) = c (T + a) := fun wy a ha => by funext j; rw [up_na (by omega), up_na (by omega)]
    have rS : ∀ wy a b, sld (up (up c 0 6 wy) 62 0 0) T a b = sld c T a b := fun wy a b => sld_eq (fun a j q => by rw [up_na (by omega), up_na (by omega)]) hT
    have hS : ∀ a b, 0 ≤ a → a < u → 0 ≤ b → b < n → sld c T a b = dg (g a) b := fun a b h1 h2 h3 h4 => by unfold sld; rw [v4, if_pos h2]; exact V.tk a b h1 h2 h3 h4
    have V1 : ∀ wy, TV G (up (up c 0 6 wy) 62 0 0) t T n m u q w x s ka ki g := fun wy => (V.kp ki_up7).kp (ki_agr (agr_0 _))
    skip
    refine ev_X10_deepest (d + 39) _ G c 0 (by decide) ?_
    simp only [q_isTube _ _ _ _ t I, q_isPerson _ _ _ _ t I, q_isSlot _ _ _ _ t I, q_isTurn _ _ _ _ t I, q_areTwo _ _ _ _ t I, q_isPlace _ _ _ _ t I, e0, e1, e3, e4, hnp, ↓reduceIte]
    refine f_reached _ _ V S (fun c V S C f => ?_)
    have H0 : IV0 G c := ⟨t, z, S, Or.inr ⟨T, n, m, u, q, w, x, s, ka, ki, g, V⟩⟩
    have I := S.ciT V
    have M := V.M; have hT := M.T; have ht := V.t
    have v1 := V.v1; have v3 := V.v3; have v4 := V.v4; have e0 := V.e0; have e1 := V.e1; have e3 := V.e3; have e4 := V.e4; have e5 := V.e5
    have b0 := M.b0; have b1 := M.b1; have b3 := M.b3; have b4 := M.b4
    rw [v1] at b1; rw [v3] at b3; rw [v4] at b4
    have hnp : 0 < n := by omega
    have hTn : ¬ T < 0 := by omega
    have M1 : ∀ wy, MDs G (up (up c 0 6 wy) 62 0 0) T := fun wy => (M.ki ki_up7).agr (agr_0 _)
    have r64 : ∀ wy, up (up c 0 6 wy) 62 0 0 64 = c 64 := fun wy => by funext j; rw [up_na (by decide), up_na (by decide)]
    have rT : ∀ wy k, up (up c 0 6 wy) 62 0 0 T k = c T k := fun wy k => by rw [up_na (by omega), up_na (by omega)]
    have rTT : ∀ wy (a : Int), 0 ≤ a → up (up c 0 6 wy) 62 0 0 (T + a) = c (T + a) := fun wy a ha => by funext j; rw [up_na (by omega), up_na (by omega)]
    have rS : ∀ wy a b, sld (up (up c 0 6 wy) 62 0 0) T a b = sld c T a b := fun wy a b => sld_eq (fun a j q => by rw [up_na (by omega), up_na (by omega)]) hT
    have hS : ∀ a b, 0 ≤ a → a < u → 0 ≤ b → b < n → sld c T a b = dg (g a) b := fun a b h1 h2 h3 h4 => by unfold sld; rw [v4, if_pos h2]; exact V.tk a b h1 h2 h3 h4
    have V1 : ∀ wy, TV G (up (up c 0 6 wy) 62 0 0) t T n m u q w x s ka ki g := fun wy => (V.kp ki_up7).kp (ki_agr (agr_0 _))
    obtain ⟨B, w1, s0, Cl⟩ := tv_bfs V
    have hw := B.w

    rw [q_most _ _ _ _ 45 n _ C hw w1]
    simp only [q_fine]
    refine ev_X12_deepest (d + 39) _ G _ 62 (by decide) ⟨by decide, ?_⟩
    rintro _ rfl
    have Mb := (V1 0).B
    have wq : w32 (bfs n g u 0 0 - 1) = bfs n g u 0 0 - 1 := w32i (by omega) (by omega)
    simp only [q_misSlot _ _ _ _ T (M1 _), q_misPerson _ _ _ _ T (M1 _), q_misTurn _ _ _ _ T (M1 _), q_mareTwo _ _ _ _ T (M1 _), q_misPlace _ _ _ _ T (M1 _), (M1 _).p3, hTn, rT, v1, v3, v4, ↓reduceIte, Int.reduceLE, true_and, Mb.w, (M1 _).p24, M.l70, wq, q_mgood, (Mb.f (bfs n g u 0 0 - 1) (by omega) (by omega)).1]
    refine And.intro (by omega) ?_
    exact ⟨rfl, rfl, IV.q H0 (by decide) (agr_0 _)⟩
theorem k_orbit (d : Nat) (G : MG) (c : MC) (a : Int) (H : IV G c) : EvI (d + 40) mX10_orbit [mR 16 0, mI a] (G, c) (fun r1 ν1 => EvI (d + 40) mX12_orbit [mR 18 62, mI a] (ν1.1, ν1.2) (fun r2 ν2 => K2 G r1 r2 ν2)) := by
  obtain ⟨hr, t, z, S, V⟩ := H
  have H0 : IV0 G c := ⟨t, z, S, V⟩
  rcases V with V | ⟨T, n, m, u, q, w, x, s, ka, ki, g, V⟩
  · have I := S.ciN V
    have e1 := V.e1; have e3 := V.e3; have e4 := V.e4; have N := V.T
    have N1 : ∀ wy, up (up c 0 6 wy) 62 0 0 62 3 = -1 := fun wy => by rw [up_nj (by decide), up_na (by decide)]; exact N
    refine ev_X10_orbit (d + 39) _ G c 0 a (by decide) ?_
    simp only [z_isTube _ _ _ _ t I e1, z_isPerson _ _ _ _ t I _ e3, z_isSlot _ _ _ _ t I _ e1, z_isTurn _ _ _ _ t I _ e4, z_areTwo _ _ _ _ t I _ _ e3, z_isPlace _ _ _ _ t I _ e1, ↓reduceIte, q_refused]
    refine ev_X12_orbit (d + 39) _ G _ 62 a (by decide) ⟨by decide, ?_⟩
    rintro _ rfl
    simp only [q_nisSlot _ _ _ _ (N1 _), q_nisPerson _ _ _ _ (N1 _), q_nisTurn _ _ _ _ (N1 _), q_nareTwo _ _ _ _ (N1 _), q_nisPlace _ _ _ _ (N1 _), N1, ↓reduceIte, q_mrefused, Int.reduceNeg, Int.reduceLT, Int.reduceLE, true_and]
    exact ⟨rfl, rfl, IV.q H0 (by decide) (agr_0 _)⟩
  · have I := S.ciT V
    have M := V.M; have hT := M.T; have ht := V.t
    have v1 := V.v1; have v3 := V.v3; have v4 := V.v4; have e0 := V.e0; have e1 := V.e1; have e3 := V.e3; have e4 := V.e4; have e5 := V.e5
    have b0 := M.b0; have b1 := M.b1; have b3 := M.b3; have b4 := M.b4
    rw [v1] at b1; rw [v3] at b3; rw [v4] at b4
    have hnp : 0 < n := by omega
    have hTn : ¬ T < 0 := by omega
    have M1 : ∀ wy, MDs G (up (up c 0 6 wy) 62 0 0) T := fun wy => (M.ki ki_up7).agr (agr_0 _)
    have r64 : ∀ wy, up (up c 0 6 wy) 62 0 0 64 = c 64 := fun wy => by funext j; rw [up_na (by decide), up_na (by decide)]
    have rT : ∀ wy k, up (up c 0 6 wy) 62 0 0 T k = c T k := fun wy k => by rw [up_na (by omega), up_na (by omega)]
    have rTT : ∀ wy (a : Int), 0 ≤ a → up (up c 0 6 wy) 62 0 0 (T + a) = c (T + a) := fun wy a ha => by funext j; rw [up_na (by omega), up_na (by omega)]
    have rS : ∀ wy a b, sld (up (up c 0 6 wy) 62 0 0) T a b = sld c T a b := fun wy a b => sld_eq (fun a j q => by rw [up_na (by omega), up_na (by omega)]) hT
    have hS : ∀ a b, 0 ≤ a → a < u → 0 ≤ b → b < n → sld c T a b = dg (g a) b := fun a b h1 h2 h3 h4 => by unfold sld; rw [v4, if_pos h2]; exact V.tk a b h1 h2 h3 h4
    have V1 : ∀ wy, TV G (up (up c 0 6 wy) 62 0 0) t T n m u q w x s ka ki g := fun wy => (V.kp ki_up7).kp (ki_agr (agr_0 _))
    skip
    refine ev_X10_orbit (d + 39) _ G c 0 a (by decide) ?_
    simp only [q_isTube _ _ _ _ t I, q_isPerson _ _ _ _ t I, q_isSlot _ _ _ _ t I, q_isTurn _ _ _ _ t I, q_areTwo _ _ _ _ t I, q_isPlace _ _ _ _ t I, e0, e1, e3, e4, hnp, ↓reduceIte]
    by_cases h1 : 0 ≤ a ∧ a < n
    · simp only [h1, and_self, ↓reduceIte]
      refine f_reached _ _ V S (fun c V S C f => ?_)
      have H0 : IV0 G c := ⟨t, z, S, Or.inr ⟨T, n, m, u, q, w, x, s, ka, ki, g, V⟩⟩
      have I := S.ciT V
      have M := V.M; have hT := M.T; have ht := V.t
      have v1 := V.v1; have v3 := V.v3; have v4 := V.v4; have e0 := V.e0; have e1 := V.e1; have e3 := V.e3; have e4 := V.e4; have e5 := V.e5
      have b0 := M.b0; have b1 := M.b1; have b3 := M.b3; have b4 := M.b4
      rw [v1] at b1; rw [v3] at b3; rw [v4] at b4
      have hnp : 0 < n := by omega
      have hTn : ¬ T < 0 := by omega
      have M1 : ∀ wy, MDs G (up (up c 0 6 wy) 62 0 0) T := fun wy => (M.ki ki_up7).agr (agr_0 _)
      have r64 : ∀ wy, up (up c 0 6 wy) 62 0 0 64 = c 64 := fun wy => by funext j; rw [up_na (by decide), up_na (by decide)]
      have rT : ∀ wy k, up (up c 0 6 wy) 62 0 0 T k = c T k := fun wy k => by rw [up_na (by omega), up_na (by omega)]
      have rTT : ∀ wy (a : Int), 0 ≤ a → up (up c 0 6 wy) 62 0 0 (T + a) = c (T + a) := fun wy a ha => by funext j; rw [up_na (by omega), up_na (by omega)]
      have rS : ∀ wy a b, sld (up (up c 0 6 wy) 62 0 0) T a b = sld c T a b := fun wy a b => sld_eq (fun a j q => by rw [up_na (by omega), up_na (by omega)]) hT
      have hS : ∀ a b, 0 ≤ a → a < u → 0 ≤ b → b < n → sld c T a b = dg (g a) b := fun a b h1 h2 h3 h4 => by unfold sld; rw [v4, if_pos h2]; exact V.tk a b h1 h2 h3 h4
      have V1 : ∀ wy, TV G (up (up c 0 6 wy) 62 0 0) t T n m u q w x s ka ki g := fun wy => (V.kp ki_up7).kp (ki_agr (agr_0 _))
      obtain ⟨B, w1, s0, Cl⟩ := tv_bfs V
      have hw := B.w

      rw [q_comesInto _ _ _ _ 45 n _ C hw a]
      simp only [q_fine]
      refine ev_X12_orbit (d + 39) _ G _ 62 a (by decide) ⟨by decide, ?_⟩
      rintro _ rfl
      have Mb := (V1 0).B
      simp only [q_misSlot _ _ _ _ T (M1 _), q_misPerson _ _ _ _ T (M1 _), q_misTurn _ _ _ _ T (M1 _), q_mareTwo _ _ _ _ T (M1 _), q_misPlace _ _ _ _ T (M1 _), (M1 _).p3, hTn, rT, v1, v3, v4, ↓reduceIte, Int.reduceLE, true_and, h1, and_self, ↓reduceIte]
      refine l_morbit (d + 38) _ G _ n T _ (M1 0) Mb hw (by rw [rT]; exact v1) a h1.1 h1.2 (fun r => r = fo (fun i s => o_or s (o_shl 1 (dg (bfs n g u 1 i) a))) (bfs n g u 0 0).toNat 0 0) (fun r hr' => ?_) (bfs n g u 0 0).toNat 0 0 (by omega) (by omega) rfl
      exact ⟨hr'.symm, rfl, IV.q H0 (by decide) (agr_0 _)⟩
    · simp only [h1, and_self, ↓reduceIte, q_refused]
      refine ev_X12_orbit (d + 39) _ G _ 62 a (by decide) ⟨by decide, ?_⟩
      rintro _ rfl
      simp only [q_misSlot _ _ _ _ T (M1 _), q_misPerson _ _ _ _ T (M1 _), q_misTurn _ _ _ _ T (M1 _), q_mareTwo _ _ _ _ T (M1 _), q_misPlace _ _ _ _ T (M1 _), (M1 _).p3, hTn, rT, v1, v3, v4, ↓reduceIte, Int.reduceLE, true_and, h1, and_self, ↓reduceIte, q_mrefused]
      exact ⟨rfl, rfl, IV.q H0 (by decide) (agr_0 _)⟩
theorem k_keeps (d : Nat) (G : MG) (c : MC) (a : Int) (H : IV G c) : EvI (d + 40) mX10_keeps [mR 16 0, mI a] (G, c) (fun r1 ν1 => EvI (d + 40) mX12_keeps [mR 18 62, mI a] (ν1.1, ν1.2) (fun r2 ν2 => K2 G r1 r2 ν2)) := by
  obtain ⟨hr, t, z, S, V⟩ := H
  have H0 : IV0 G c := ⟨t, z, S, V⟩
  rcases V with V | ⟨T, n, m, u, q, w, x, s, ka, ki, g, V⟩
  · have I := S.ciN V
    have e1 := V.e1; have e3 := V.e3; have e4 := V.e4; have N := V.T
    have N1 : ∀ wy, up (up c 0 6 wy) 62 0 0 62 3 = -1 := fun wy => by rw [up_nj (by decide), up_na (by decide)]; exact N
    refine ev_X10_keeps (d + 39) _ G c 0 a (by decide) ?_
    simp only [z_isTube _ _ _ _ t I e1, z_isPerson _ _ _ _ t I _ e3, z_isSlot _ _ _ _ t I _ e1, z_isTurn _ _ _ _ t I _ e4, z_areTwo _ _ _ _ t I _ _ e3, z_isPlace _ _ _ _ t I _ e1, ↓reduceIte, q_refused]
    refine ev_X12_keeps (d + 39) _ G _ 62 a (by decide) ⟨by decide, ?_⟩
    rintro _ rfl
    simp only [q_nisSlot _ _ _ _ (N1 _), q_nisPerson _ _ _ _ (N1 _), q_nisTurn _ _ _ _ (N1 _), q_nareTwo _ _ _ _ (N1 _), q_nisPlace _ _ _ _ (N1 _), N1, ↓reduceIte, q_mrefused, Int.reduceNeg, Int.reduceLT, Int.reduceLE, true_and]
    exact ⟨rfl, rfl, IV.q H0 (by decide) (agr_0 _)⟩
  · have I := S.ciT V
    have M := V.M; have hT := M.T; have ht := V.t
    have v1 := V.v1; have v3 := V.v3; have v4 := V.v4; have e0 := V.e0; have e1 := V.e1; have e3 := V.e3; have e4 := V.e4; have e5 := V.e5
    have b0 := M.b0; have b1 := M.b1; have b3 := M.b3; have b4 := M.b4
    rw [v1] at b1; rw [v3] at b3; rw [v4] at b4
    have hnp : 0 < n := by omega
    have hTn : ¬ T < 0 := by omega
    have M1 : ∀ wy, MDs G (up (up c 0 6 wy) 62 0 0) T := fun wy => (M.ki ki_up7).agr (agr_0 _)
    have r64 : ∀ wy, up (up c 0 6 wy) 62 0 0 64 = c 64 := fun wy => by funext j; rw [up_na (by decide), up_na (by decide)]
    have rT : ∀ wy k, up (up c 0 6 wy) 62 0 0 T k = c T k := fun wy k => by rw [up_na (by omega), up_na (by omega)]
    have rTT : ∀ wy (a : Int), 0 ≤ a → up (up c 0 6 wy) 62 0 0 (T + a) = c (T + a) := fun wy a ha => by funext j; rw [up_na (by omega), up_na (by omega)]
    have rS : ∀ wy a b, sld (up (up c 0 6 wy) 62 0 0) T a b = sld c T a b := fun wy a b => sld_eq (fun a j q => by rw [up_na (by omega), up_na (by omega)]) hT
    have hS : ∀ a b, 0 ≤ a → a < u → 0 ≤ b → b < n → sld c T a b = dg (g a) b := fun a b h1 h2 h3 h4 => by unfold sld; rw [v4, if_pos h2]; exact V.tk a b h1 h2 h3 h4
    have V1 : ∀ wy, TV G (up (up c 0 6 wy) 62 0 0) t T n m u q w x s ka ki g := fun wy => (V.kp ki_up7).kp (ki_agr (agr_0 _))
    skip
    refine ev_X10_keeps (d + 39) _ G c 0 a (by decide) ?_
    simp only [q_isTube _ _ _ _ t I, q_isPerson _ _ _ _ t I, q_isSlot _ _ _ _ t I, q_isTurn _ _ _ _ t I, q_areTwo _ _ _ _ t I, q_isPlace _ _ _ _ t I, e0, e1, e3, e4, hnp, ↓reduceIte]
    by_cases h1 : 0 ≤ a ∧ a < n
    · simp only [h1, and_self, ↓reduceIte]
      refine f_reached _ _ V S (fun c V S C f => ?_)
      have H0 : IV0 G c := ⟨t, z, S, Or.inr ⟨T, n, m, u, q, w, x, s, ka, ki, g, V⟩⟩
      have I := S.ciT V
      have M := V.M; have hT := M.T; have ht := V.t
      have v1 := V.v1; have v3 := V.v3; have v4 := V.v4; have e0 := V.e0; have e1 := V.e1; have e3 := V.e3; have e4 := V.e4; have e5 := V.e5
      have b0 := M.b0; have b1 := M.b1; have b3 := M.b3; have b4 := M.b4
      rw [v1] at b1; rw [v3] at b3; rw [v4] at b4
      have hnp : 0 < n := by omega
      have hTn : ¬ T < 0 := by omega
      have M1 : ∀ wy, MDs G (up (up c 0 6 wy) 62 0 0) T := fun wy => (M.ki ki_up7).agr (agr_0 _)
      have r64 : ∀ wy, up (up c 0 6 wy) 62 0 0 64 = c 64 := fun wy => by funext j; rw [up_na (by decide), up_na (by decide)]
      have rT : ∀ wy k, up (up c 0 6 wy) 62 0 0 T k = c T k := fun wy k => by rw [up_na (by omega), up_na (by omega)]
      have rTT : ∀ wy (a : Int), 0 ≤ a → up (up c 0 6 wy) 62 0 0 (T + a) = c (T + a) := fun wy a ha => by funext j; rw [up_na (by omega), up_na (by omega)]
      have rS : ∀ wy a b, sld (up (up c 0 6 wy) 62 0 0) T a b = sld c T a b := fun wy a b => sld_eq (fun a j q => by rw [up_na (by omega), up_na (by omega)]) hT
      have hS : ∀ a b, 0 ≤ a → a < u → 0 ≤ b → b < n → sld c T a b = dg (g a) b := fun a b h1 h2 h3 h4 => by unfold sld; rw [v4, if_pos h2]; exact V.tk a b h1 h2 h3 h4
      have V1 : ∀ wy, TV G (up (up c 0 6 wy) 62 0 0) t T n m u q w x s ka ki g := fun wy => (V.kp ki_up7).kp (ki_agr (agr_0 _))
      obtain ⟨B, w1, s0, Cl⟩ := tv_bfs V
      have hw := B.w

      rw [q_leaving _ _ _ _ 45 n _ C hw a]
      simp only [q_fine]
      refine ev_X12_keeps (d + 39) _ G _ 62 a (by decide) ⟨by decide, ?_⟩
      rintro _ rfl
      have Mb := (V1 0).B
      simp only [q_misSlot _ _ _ _ T (M1 _), q_misPerson _ _ _ _ T (M1 _), q_misTurn _ _ _ _ T (M1 _), q_mareTwo _ _ _ _ T (M1 _), q_misPlace _ _ _ _ T (M1 _), (M1 _).p3, hTn, rT, v1, v3, v4, ↓reduceIte, Int.reduceLE, true_and, h1, and_self, ↓reduceIte]
      refine l_mkeeps (d + 38) _ G _ n T _ (M1 0) Mb hw (by rw [rT]; exact v1) a h1.1 h1.2 (fun r => r = fo (fun i s => if dg (bfs n g u 1 i) a = a then w32 (s + 1) else w32 (s + 0)) (bfs n g u 0 0).toNat 0 0) (fun r hr' => ?_) (bfs n g u 0 0).toNat 0 0 (by omega) (by omega) rfl
      exact ⟨hr'.symm, rfl, IV.q H0 (by decide) (agr_0 _)⟩
    · simp only [h1, and_self, ↓reduceIte, q_refused]
      refine ev_X12_keeps (d + 39) _ G _ 62 a (by decide) ⟨by decide, ?_⟩
      rintro _ rfl
      simp only [q_misSlot _ _ _ _ T (M1 _), q_misPerson _ _ _ _ T (M1 _), q_misTurn _ _ _ _ T (M1 _), q_mareTwo _ _ _ _ T (M1 _), q_misPlace _ _ _ _ T (M1 _), (M1 _).p3, hTn, rT, v1, v3, v4, ↓reduceIte, Int.reduceLE, true_and, h1, and_self, ↓reduceIte, q_mrefused]
      exact ⟨rfl, rfl, IV.q H0 (by decide) (agr_0 _)⟩
