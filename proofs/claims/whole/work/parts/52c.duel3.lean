section
variable {G : MG} {c : MC} {t z T n m u q w x s ka ki : Int} {g : Int → Int} (d : Nat) (P : Int → MM → Prop)
theorem l_arg30 (V : TV G c t T n m u q w x s ka ki g) {p1 p2 : Int} {N : Nat} (hN : N ≤ 5) (h1 : 0 ≤ p1 ∧ p1 < m) (h2 : 0 ≤ p2 ∧ p2 < m) (Q : MM → Prop) (hQ : ∀ c', (∀ a b, a ≠ 76 → c' a b = c a b) → (∀ i, 0 ≤ i → i < pwr (u + 1) N → c' 76 i = bes (ps g (u + 1) (c 64 p1) N i) (ps g (u + 1) (c 64 p2) N i)) → At (d + 3) mX12_argues 156 [mR 18 62, MU, MU, MU, mI (pwr (u + 1) N), mI ((N : Int) - 1), MU, MU, MU, MU, MU] [] (G, c') (QV Q)) : ∀ (b : Nat) (i : Int) (c' : MC), 0 ≤ i → i + b = pwr (u + 1) N → (∀ a b, a ≠ 76 → c' a b = c a b) → (∀ y, 0 ≤ y → y < i → c' 76 y = bes (ps g (u + 1) (c 64 p1) N y) (ps g (u + 1) (c 64 p2) N y)) → At (d + 3) mX12_argues 30 [mR 18 62, mI p1, mI p2, mI (N : Int), mI (pwr (u + 1) N), mI i, MU, MU, MU, MU, MU] [] (G, c') (QV Q) := by
  have b4 := V.M.b4; have b3 := V.M.b3; have hT := V.M.T
  rw [V.v4] at b4; rw [V.v3] at b3
  have hpN := pwr_le (B := u + 1) (by omega) (by omega) hN
  have hp0 := pwr_pos (B := u + 1) (by omega) N
  have hNi : (N : Int) ≤ 5 := by omega
  have s1 := V.sv p1 h1.1 h1.2
  have s2 := V.sv p2 h2.1 h2.2
  intro b
  induction b with
  | zero =>
    intro i c' i0 hi hc h
    apply wp_X12_argues_30
    rw [if_neg (by omega), w32i (by omega) (by omega)]
    exact hQ c' hc (fun y y0 y1 => h y y0 (by omega))
  | succ b ih =>
    intro i c' i0 hi hc h
    have V' : TV G c' t T n m u q w x s ka ki g := V.kp (fun a b h => hc a b (by unfold KI scr at h; omega))
    have M := V'.M
    have hdN : i / pwr (u + 1) N = 0 := Int.ediv_eq_zero_of_lt i0 (by omega)
    apply wp_X12_argues_30
    rw [if_pos (by omega), M.p16, M.l64, hc 64 p1 (by decide), hc 64 p2 (by decide)]
    refine ⟨by omega, ⟨by omega, by omega, by omega⟩, by omega, ⟨by omega, by omega, by omega⟩, ?_⟩
    have := l_arg60 (p1 := p1) (p2 := p2) (k := c 64 p1) (l := c 64 p2) d V' hN s1.2 s2.2 i0 (by omega) Q (ih (i + 1) _ (by omega) (by omega) (fun a b h => by rw [up_na h]; exact hc a b h) (fun y y0 y1 => by
      by_cases e : y = i
      · rw [e, up_eq]
      · rw [up_nj e]; exact h y y0 (by omega))) N 0 (by omega)
    exact this
theorem f_argues (V : TV G c t T n m u q w x s ka ki g) {p1 p2 : Int} {N : Nat} (hN : N ≤ 5) (h1 : 0 ≤ p1 ∧ p1 < m) (h2 : 0 ≤ p2 ∧ p2 < m) (Q : MM → Prop) (hQ : ∀ c', (∀ a b, a ≠ 76 → c' a b = c a b) → (N = 0 → c' 76 0 = bes (c 64 p1) (c 64 p2)) → (0 < N → ∀ i, 0 ≤ i → i < u + 1 → c' 76 i = VG g u (N - 1) (mv g i (c 64 p1)) (mv g i (c 64 p2)) 0) → Q (G, c')) : EvV (d + 3) mX12_argues [mR 18 62, mI p1, mI p2, mI (N : Int)] (G, c) Q := by
  have b4 := V.M.b4; have hT := V.M.T; have M := V.M
  rw [V.v4] at b4
  have hp0 := pwr_pos (B := u + 1) (by omega) N
  refine ev_X12_argues (d + 2) _ G c 62 p1 p2 _ (by decide) ?_
  have fin : At (d + 2 + 1) mX12_argues 30 [mR 18 62, mI p1, mI p2, mI (N : Int), mI (pwr (u + 1) N), mI 0, MU, MU, MU, MU, MU] [] (G, c) (QV Q) := by
    refine l_arg30 d V hN h1 h2 Q (fun c' hc' h' => ?_) (pwr (u + 1) N).toNat 0 c (by omega) (by omega) (fun _ _ _ => rfl) (fun y y0 y1 => by omega)
    cases N with
    | zero =>
      apply wp_X12_argues_156
      rw [if_neg (by omega)]
      exact hQ c' hc' (fun _ => h' 0 (by omega) (by show (0 : Int) < 1; omega)) (fun q => absurd q (by omega))
    | succ N =>
      have V' : TV G c' t T n m u q w x s ka ki g := V.kp (fun a b h => hc' a b (by unfold KI scr at h; omega))
      rw [show ((N + 1 : Nat) : Int) - 1 = (N : Int) by omega]
      refine l_arg156 (k := c 64 p1) (l := c 64 p2) d hN Q (c0 := c) (fun c2 hc2 h2 => hQ c2 hc2 (fun q => absurd q (by omega)) (fun _ i i0 i1 => ?_)) N c' V' hc' (by omega) (fun i i0 i1 => ?_)
      · rw [h2 i i0 i1]
        unfold LV
        simp only [ps]
        rw [Int.emod_eq_of_lt i0 i1]
        rfl
      · rw [h' i i0 i1]
        unfold LV
        rw [Nat.sub_self]
        rfl
  have lp : ∀ (b j : Nat), j + b = N → At (d + 2 + 1) mX12_argues 6 [mR 18 62, mI p1, mI p2, mI (N : Int), mI (pwr (u + 1) j), mI (j : Int), MU, MU, MU, MU, MU] [] (G, c) (QV Q) := by
    intro b
    induction b with
    | zero =>
      intro j hj
      apply wp_X12_argues_6
      rw [if_neg (by omega), show j = N by omega]
      exact fin
    | succ b ih =>
      intro j hj
      have hb := pwr_le (B := u + 1) (by omega) (by omega) (show j + 1 ≤ 5 by omega)
      have hb0 := pwr_pos (B := u + 1) (by omega) (j + 1)
      have wj : w32 ((j : Int) + 1) = ((j + 1 : Nat) : Int) := by rw [w32i (by omega) (by omega)]; omega
      have wm : w32 (pwr (u + 1) j * (u + 1)) = pwr (u + 1) (j + 1) := by
        rw [show pwr (u + 1) j * (u + 1) = pwr (u + 1) (j + 1) from rfl]
        exact w32i (by omega) (by omega)
      apply wp_X12_argues_6
      simp only [q_choices _ _ M, V.v4, wm, wj]
      rw [if_pos (by omega)]
      exact ih (j + 1) (by omega)
  exact lp N 0 (by omega)
theorem q_game (M : MDs G c T) (a b k lo : Int) : EvI (d + 3) mX12_refusesGame [mR 18 62, mI a, mI b, mI k, mI lo] (G, c) P = P (if (0 ≤ a ∧ a < c T 3) ∧ (0 ≤ b ∧ b < c T 3) ∧ a ≠ b then (if lo ≤ k ∧ k ≤ 5 then 0 else 2) else 1) (G, c) := evI_eq (ev_X12_refusesGame (d + 2) _ G c 62 a b k lo (by decide) (by
  simp only [q_mareTwo _ _ _ _ T M, q_min]
  split <;> split <;> simp_all)) P
theorem q_ngame (N : c 62 3 = -1) (a b k lo : Int) : EvI (d + 3) mX12_refusesGame [mR 18 62, mI a, mI b, mI k, mI lo] (G, c) P = P 1 (G, c) := evI_eq (ev_X12_refusesGame (d + 2) _ G c 62 a b k lo (by decide) (by
  simp only [q_nareTwo _ _ _ _ N, ↓reduceIte, and_self])) P
end
theorem k_gets (d : Nat) (G : MG) (c : MC) (a b k : Int) (H : IV G c) : EvI (d + 40) mX10_gets [mR 16 0, mI a, mI b, mI k] (G, c) (fun r1 ν1 => EvI (d + 40) mX12_gets [mR 18 62, mI a, mI b, mI k] (ν1.1, ν1.2) (fun r2 ν2 => K2 G r1 r2 ν2)) := by
  obtain ⟨hr, t, z, S, V⟩ := H
  have H0 : IV0 G c := ⟨t, z, S, V⟩
  rcases V with V | ⟨T, n, m, u, q, w, x, s, ka, ki, g, V⟩
  · have I := S.ciN V
    have e1 := V.e1; have e3 := V.e3; have e4 := V.e4; have N := V.T
    have N1 : ∀ wy, up (up c 0 6 wy) 62 0 0 62 3 = -1 := fun wy => by rw [up_nj (by decide), up_na (by decide)]; exact N
    refine ev_X10_gets (d + 39) _ G c 0 a b k (by decide) ?_
    simp only [z_isTube _ _ _ _ t I e1, z_isPerson _ _ _ _ t I _ e3, z_isSlot _ _ _ _ t I _ e1, z_isTurn _ _ _ _ t I _ e4, z_areTwo _ _ _ _ t I _ _ e3, z_isPlace _ _ _ _ t I _ e1, ↓reduceIte, q_refused]
    refine ev_X12_gets (d + 39) _ G _ 62 a b k (by decide) ⟨by decide, ?_⟩
    rintro _ rfl
    simp only [q_ngame _ _ (N1 _), ↓reduceIte, q_mrefused, Int.reduceLT]
    exact ⟨rfl, rfl, IV.q H0 (by decide) (agr_0 _)⟩
  · have I := S.ciT V
    have M := V.M; have hT := M.T; have ht := V.t
    have v1 := V.v1; have v3 := V.v3; have v4 := V.v4; have e0 := V.e0; have e1 := V.e1; have e3 := V.e3; have e4 := V.e4; have e5 := V.e5
    have b0 := M.b0; have b1 := M.b1; have b3 := M.b3; have b4 := M.b4
    rw [v1] at b1; rw [v3] at b3; rw [v4] at b4
    have hnp : 0 < n := by omega
    have hTn : ¬ T < 0 := by omega
    have M1 : ∀ wy, MDs G (up (up c 0 6 wy) 62 0 0) T := fun wy => (M.ki ki_up7).agr (agr_0 _)
    have r64 : ∀ wy, up (up c 0 6 wy) 62 0 0 64 = c 64 := fun wy => by funext j; rw [up_na (by decide), up_na (by decide)]
    have rT : ∀ wy k, up (up c 0 6 wy) 62 0 0 T k = c T k := fun wy k => by rw [up_na (by omega), up_na (by omega)]
    have rTT : ∀ wy (a : Int), 0 ≤ a → up (up c 0 6 wy) 62 0 0 (T + a) = c (T + a) := fun wy a ha => by funext j; rw [up_na (by omega), up_na (by omega)]
    have rS : ∀ wy a b, sld (up (up c 0 6 wy) 62 0 0) T a b = sld c T a b := fun wy a b => sld_eq (fun a j q => by rw [up_na (by omega), up_na (by omega)]) hT
    have hS : ∀ a b, 0 ≤ a → a < u → 0 ≤ b → b < n → sld c T a b = dg (g a) b := fun a b h1 h2 h3 h4 => by unfold sld; rw [v4, if_pos h2]; exact V.tk a b h1 h2 h3 h4
    have V1 : ∀ wy, TV G (up (up c 0 6 wy) 62 0 0) t T n m u q w x s ka ki g := fun wy => (V.kp ki_up7).kp (ki_agr (agr_0 _))
    skip
    refine ev_X10_gets (d + 39) _ G c 0 a b k (by decide) ?_
    simp only [q_isTube _ _ _ _ t I, q_isPerson _ _ _ _ t I, q_isSlot _ _ _ _ t I, q_isTurn _ _ _ _ t I, q_areTwo _ _ _ _ t I, q_isPlace _ _ _ _ t I, e0, e1, e3, e4, hnp, ↓reduceIte]
    have hm : ∀ wy, MDs G (up (up c 0 6 wy) 62 0 0) T := M1
    by_cases h1 : (0 ≤ a ∧ a < m) ∧ (0 ≤ b ∧ b < m) ∧ a ≠ b
    · by_cases h2 : 0 ≤ k ∧ k ≤ 5
      · have va := V.sv a h1.1.1 h1.1.2
        have vb := V.sv b h1.2.1.1 h1.2.1.2
        have hc1 : ¬ k < 0 := by omega
        have hc2 : ¬ 5 < k := by omega
        obtain ⟨N, rfl⟩ := Int.eq_ofNat_of_zero_le h2.1
        have hN : N ≤ 5 := by omega
        simp only [h1, hc1, hc2, and_self, ne_eq, not_false_eq_true, ↓reduceIte, q_slotOf _ _ _ _ t I, va.1, vb.1, I.p0]
        refine And.intro (by omega) ?_
        have hE := e_ends I.H e4 (by omega) (by omega) V.g N
        rw [show d + 39 = (d + 37 - N) + N + 2 by omega, hE _ _ _ _ 1 (by omega) (Or.inr rfl), show (d + 37 - N) + N + 2 = d + 39 by omega]
        have h01 := VG_01 g u N (c 64 a) (c 64 b) 1 (Or.inr rfl)
        have fin : ∀ r, r = VG g u N (c 64 a) (c 64 b) 1 → EvI (d + 40) mX12_gets [mR 18 62, mI a, mI b, mI (N : Int)] (G, up c 0 6 0) (fun r2 ν2 => K2 G r r2 ν2) := by
          intro r hr
          refine ev_X12_gets (d + 39) _ G _ 62 a b _ (by decide) ⟨by decide, ?_⟩
          rintro _ rfl
          simp only [q_game _ _ (M1 _), rT, v3, h1, h2, and_self, ne_eq, not_false_eq_true, ↓reduceIte, Int.lt_irrefl]
          refine f_argues (d + 36) (V1 _) hN h1.1 h1.2.1 _ (fun c' hc' hz hp => ?_)
          rw [r64] at hz hp
          have A : Agr (up (up c 0 6 0) 62 0 0) c' := fun x y hx => hc' x y (by unfold scr at hx; omega)
          have M' := (M1 0).agr A
          have e4' : c' T 4 = u := by rw [A T 4 (by unfold scr; omega), rT]; exact v4
          dsimp only
          by_cases hN0 : N = 0
          · subst hN0
            rw [if_pos (show ((0 : Nat) : Int) = 0 from rfl), M'.p35, M'.l76, hz rfl]
            refine ⟨by omega, ⟨by omega, by omega, by omega⟩, ?_⟩
            simp only [q_mgood]
            have : r = bes (c 64 a) (c 64 b) := hr
            rw [this]
            exact ⟨rfl, rfl, IV.q H0 (by decide) ((agr_0 _).tr A)⟩
          · rw [if_neg (by omega), q_best _ _ M' e4' 0 1 (by omega) (by omega)]
            have := mm_all (a := c' 76) (f := fun i => VG g u (N - 1) (mv g i (c 64 a)) (mv g i (c 64 b)) 0) (w := 1) (u := u) (b := 0) (Or.inr rfl) (by omega) (fun y y0 y1 => ⟨by rw [Int.zero_add]; exact hp (by omega) y y0 y1, VG_01 _ _ _ _ _ _ (Or.inl rfl)⟩)
            have hV : VG g u N (c 64 a) (c 64 b) 1 = fi (fun i => decide (VG g u (N - 1) (mv g i (c 64 a)) (mv g i (c 64 b)) 0 = 1)) (fun _ => 1) 0 (u + 1).toNat 0 := by
              obtain ⟨N', rfl⟩ : ∃ N', N = N' + 1 := ⟨N - 1, by omega⟩
              rfl
            rw [this, show (1 : Int) - 1 = 0 from rfl, ← hV, ← hr]
            simp only [q_mgood]
            exact ⟨rfl, rfl, IV.q H0 (by decide) ((agr_0 _).tr A)⟩
        rcases h01 with h0 | h0
        · rw [h0, if_pos rfl, q_fine]
          exact fin 0 h0.symm
        · rw [h0, if_neg (by decide), q_fine]
          exact fin 1 h0.symm
      · rcases (show k < 0 ∨ (¬ k < 0 ∧ 5 < k) by omega) with hc | hc
        · simp only [h1, hc, and_self, ne_eq, not_false_eq_true, ↓reduceIte, q_refused]
          refine ev_X12_gets (d + 39) _ G _ 62 a b k (by decide) ⟨by decide, ?_⟩
          rintro _ rfl
          simp only [q_game _ _ (M1 _), rT, v3, h1, h2, and_self, ne_eq, not_false_eq_true, ↓reduceIte, q_mrefused, Int.reduceLT]
          exact ⟨rfl, rfl, IV.q H0 (by decide) (agr_0 _)⟩
        · simp only [h1, hc, and_self, ne_eq, not_false_eq_true, ↓reduceIte, q_refused]
          refine ev_X12_gets (d + 39) _ G _ 62 a b k (by decide) ⟨by decide, ?_⟩
          rintro _ rfl
          simp only [q_game _ _ (M1 _), rT, v3, h1, h2, and_self, ne_eq, not_false_eq_true, ↓reduceIte, q_mrefused, Int.reduceLT]
          exact ⟨rfl, rfl, IV.q H0 (by decide) (agr_0 _)⟩
    · simp only [h1, ↓reduceIte, q_refused]
      refine ev_X12_gets (d + 39) _ G _ 62 a b k (by decide) ⟨by decide, ?_⟩
      rintro _ rfl
      simp only [q_game _ _ (M1 _), rT, v3, h1, ↓reduceIte, q_mrefused, Int.reduceLT]
      exact ⟨rfl, rfl, IV.q H0 (by decide) (agr_0 _)⟩
theorem fi_gb {f : Int → Int} : ∀ (j : Nat) (i : Int), 0 ≤ i → (fi (fun i => decide (¬ f (i + 1) = 0)) (fun i => i) (-2) j i = -2 → ∀ y, i ≤ y → y < i + j → f (y + 1) = 0) ∧ (∀ y, fi (fun i => decide (¬ f (i + 1) = 0)) (fun i => i) (-2) j i = y → 0 ≤ y → i ≤ y ∧ y < i + j ∧ ¬ f (y + 1) = 0 ∧ ∀ x, i ≤ x → x < y → f (x + 1) = 0) := by
  intro j
  induction j with
  | zero => intro i i0; exact ⟨fun _ y a b => by omega, fun y h y0 => by have : (-2 : Int) = y := h; omega⟩
  | succ j ih =>
    intro i i0
    simp only [fi]
    by_cases h : f (i + 1) = 0
    · rw [if_neg (by simp [h])]
      obtain ⟨a1, a2⟩ := ih (i + 1) (by omega)
      refine ⟨fun e y p q => ?_, fun y e y0 => ?_⟩
      · by_cases hy : y = i
        · rw [hy]; exact h
        · exact a1 e y (by omega) (by omega)
      · obtain ⟨b1, b2, b3, b4⟩ := a2 y e y0
        refine ⟨by omega, by omega, b3, fun x p q => ?_⟩
        by_cases hx : x = i
        · rw [hx]; exact h
        · exact b4 x (by omega) q
    · rw [if_pos (by simp [h])]
      exact ⟨fun e => by omega, fun y e y0 => by subst e; exact ⟨by omega, by omega, h, fun x p q => by omega⟩⟩
theorem k_getsBy (d : Nat) (G : MG) (c : MC) (a b k : Int) (H : IV G c) : EvI (d + 40) mX10_getsBy [mR 16 0, mI a, mI b, mI k] (G, c) (fun r1 ν1 => EvI (d + 40) mX12_getsBy [mR 18 62, mI a, mI b, mI k] (ν1.1, ν1.2) (fun r2 ν2 => K2 G r1 r2 ν2)) := by
  obtain ⟨hr, t, z, S, V⟩ := H
  have H0 : IV0 G c := ⟨t, z, S, V⟩
  rcases V with V | ⟨T, n, m, u, q, w, x, s, ka, ki, g, V⟩
  · have I := S.ciN V
    have e1 := V.e1; have e3 := V.e3; have e4 := V.e4; have N := V.T
    have N1 : ∀ wy, up (up c 0 6 wy) 62 0 0 62 3 = -1 := fun wy => by rw [up_nj (by decide), up_na (by decide)]; exact N
    refine ev_X10_getsBy (d + 39) _ G c 0 a b k (by decide) ?_
    simp only [z_isTube _ _ _ _ t I e1, z_isPerson _ _ _ _ t I _ e3, z_isSlot _ _ _ _ t I _ e1, z_isTurn _ _ _ _ t I _ e4, z_areTwo _ _ _ _ t I _ _ e3, z_isPlace _ _ _ _ t I _ e1, ↓reduceIte, q_refused]
    refine ev_X12_getsBy (d + 39) _ G _ 62 a b k (by decide) ⟨by decide, ?_⟩
    rintro _ rfl
    simp only [q_ngame _ _ (N1 _), ↓reduceIte, q_mrefused, Int.reduceLT]
    exact ⟨rfl, rfl, IV.q H0 (by decide) (agr_0 _)⟩
  · have I := S.ciT V
    have M := V.M; have hT := M.T; have ht := V.t
    have v1 := V.v1; have v3 := V.v3; have v4 := V.v4; have e0 := V.e0; have e1 := V.e1; have e3 := V.e3; have e4 := V.e4; have e5 := V.e5
    have b0 := M.b0; have b1 := M.b1; have b3 := M.b3; have b4 := M.b4
    rw [v1] at b1; rw [v3] at b3; rw [v4] at b4
    have hnp : 0 < n := by omega
    have hTn : ¬ T < 0 := by omega
    have M1 : ∀ wy, MDs G (up (up c 0 6 wy) 62 0 0) T := fun wy => (M.ki ki_up7).agr (agr_0 _)
    have r64 : ∀ wy, up (up c 0 6 wy) 62 0 0 64 = c 64 := fun wy => by funext j; rw [up_na (by decide), up_na (by decide)]
    have rT : ∀ wy k, up (up c 0 6 wy) 62 0 0 T k = c T k := fun wy k => by rw [up_na (by omega), up_na (by omega)]
    have rTT : ∀ wy (a : Int), 0 ≤ a → up (up c 0 6 wy) 62 0 0 (T + a) = c (T + a) := fun wy a ha => by funext j; rw [up_na (by omega), up_na (by omega)]
    have rS : ∀ wy a b, sld (up (up c 0 6 wy) 62 0 0) T a b = sld c T a b := fun wy a b => sld_eq (fun a j q => by rw [up_na (by omega), up_na (by omega)]) hT
    have hS : ∀ a b, 0 ≤ a → a < u → 0 ≤ b → b < n → sld c T a b = dg (g a) b := fun a b h1 h2 h3 h4 => by unfold sld; rw [v4, if_pos h2]; exact V.tk a b h1 h2 h3 h4
    have V1 : ∀ wy, TV G (up (up c 0 6 wy) 62 0 0) t T n m u q w x s ka ki g := fun wy => (V.kp ki_up7).kp (ki_agr (agr_0 _))
    skip
    refine ev_X10_getsBy (d + 39) _ G c 0 a b k (by decide) ?_
    simp only [q_isTube _ _ _ _ t I, q_isPerson _ _ _ _ t I, q_isSlot _ _ _ _ t I, q_isTurn _ _ _ _ t I, q_areTwo _ _ _ _ t I, q_isPlace _ _ _ _ t I, e0, e1, e3, e4, hnp, ↓reduceIte]
    have hm : ∀ wy, MDs G (up (up c 0 6 wy) 62 0 0) T := M1
    by_cases h1 : (0 ≤ a ∧ a < m) ∧ (0 ≤ b ∧ b < m) ∧ a ≠ b
    · by_cases h2 : 1 ≤ k ∧ k ≤ 5
      · have va := V.sv a h1.1.1 h1.1.2
        have vb := V.sv b h1.2.1.1 h1.2.1.2
        have hc1 : ¬ k < 1 := by omega
        have hc2 : ¬ 5 < k := by omega
        obtain ⟨N, hNk⟩ : ∃ N : Nat, k = ((N + 1 : Nat) : Int) := ⟨(k - 1).toNat, by omega⟩
        subst hNk
        have hN : N + 1 ≤ 5 := by omega
        simp only [h1, hc1, hc2, and_self, ne_eq, not_false_eq_true, ↓reduceIte, q_slotOf _ _ _ _ t I, va.1, vb.1, I.p0]
        refine And.intro (by omega) ?_
        have hE := e_first (d := d + 36 - N) (P := fun r7 ν7 => EvI (d + 39) mX10_fine [mR 16 0, mI r7] (ν7.1, ν7.2) (fun r8 ν8 => EvI (d + 40) mX12_getsBy [mR 18 62, mI a, mI b, mI ((N + 1 : Nat) : Int)] (ν8.1, ν8.2) (fun r2 ν2 => K2 G r8 r2 ν2))) I.H e4 (by omega) (by omega) V.g N (by omega) (c 64 a) (c 64 b)
        rw [show (d + 36 - N) + N + 3 = d + 39 by omega] at hE
        refine hE.mpr ?_
        rw [q_fine]
        refine ev_X12_getsBy (d + 39) _ G _ 62 a b _ (by decide) ⟨by decide, ?_⟩
        rintro _ rfl
        simp only [q_game _ _ (M1 _), rT, v3, h1, h2, and_self, ne_eq, not_false_eq_true, ↓reduceIte, Int.lt_irrefl]
        refine f_argues (d + 36) (V1 _) hN h1.1 h1.2.1 _ (fun c' hc' hz hp => ?_)
        rw [r64] at hp
        have A : Agr (up (up c 0 6 0) 62 0 0) c' := fun x y hx => hc' x y (by unfold scr at hx; omega)
        have M' := (M1 0).agr A
        have e4' : c' T 4 = u := by rw [A T 4 (by unfold scr; omega), rT]; exact v4
        have hf : ∀ i, 0 ≤ i → i < u + 1 → c' 76 i = VG g u N (mv g i (c 64 a)) (mv g i (c 64 b)) 0 := hp (by omega)
        have f01 : ∀ i, VG g u N (mv g i (c 64 a)) (mv g i (c 64 b)) 0 = 0 ∨ VG g u N (mv g i (c 64 a)) (mv g i (c 64 b)) 0 = 1 := fun i => VG_01 _ _ _ _ _ _ (Or.inl rfl)
        have hf0 : c' 76 0 = VG g u N (c 64 a) (c 64 b) 0 := hf 0 (by omega) (by omega)
        dsimp only
        have hcell : c' (c' 62 35) 0 = VG g u N (c 64 a) (c 64 b) 0 := by rw [M'.p35]; exact hf0
        refine ⟨by decide, ⟨by rw [M'.p35]; decide, by decide, by rw [M'.p35, M'.l76]; decide⟩, ?_⟩
        unfold fiT
        have f00 := f01 0
        rw [show mv g 0 (c 64 a) = c 64 a from rfl, show mv g 0 (c 64 b) = c 64 b from rfl] at f00
        rcases f00 with h0 | h0
        · rw [if_neg (show ¬ c' (c' 62 35) 0 = 1 by rw [hcell, h0]; decide), if_pos h0, q_best _ _ M' e4' 0 1 (by omega) (by omega)]
          have hmm := mm_all (a := c' 76) (f := fun i => VG g u N (mv g i (c 64 a)) (mv g i (c 64 b)) 0) (w := 1) (u := u) (b := 0) (Or.inr rfl) (by omega) (fun y y0 y1 => ⟨by rw [Int.zero_add]; exact hf y y0 y1, f01 y⟩)
          rw [hmm, show (1 : Int) - 1 = 0 from rfl]
          have em : ∀ i y, 0 ≤ i → mv g (i + 1) y = dg (g i) y := fun i y i0 => by unfold mv; rw [if_neg (by omega), show i + 1 - 1 = i by omega]
          have ef : fi (fun i => decide (¬ VG g u N (dg (g i) (c 64 a)) (dg (g i) (c 64 b)) 0 = 0)) (fun i => i) (-2) u.toNat 0 = fi (fun i => decide (¬ VG g u N (mv g (i + 1) (c 64 a)) (mv g (i + 1) (c 64 b)) 0 = 0)) (fun i => i) (-2) u.toNat 0 := fi_congr u.toNat 0 (fun i i0 i1 => ⟨by rw [em i _ i0, em i _ i0], rfl⟩)
          rw [ef]
          obtain ⟨g1, g2⟩ := fi_gb (f := fun i => VG g u N (mv g i (c 64 a)) (mv g i (c 64 b)) 0) u.toNat 0 (by omega)
          generalize hr : fi (fun i => decide (¬ VG g u N (mv g (i + 1) (c 64 a)) (mv g (i + 1) (c 64 b)) 0 = 0)) (fun i => i) (-2) u.toNat 0 = r at *
          have hrr : r = -2 ∨ 0 ≤ r := by
            rw [← hr]
            by_cases hex : ∃ i, 0 ≤ i ∧ i < 0 + (u.toNat : Int) ∧ ¬ VG g u N (mv g (i + 1) (c 64 a)) (mv g (i + 1) (c 64 b)) 0 = 0
            · refine Or.inr ?_
              have : ∀ (j : Nat) (i : Int), 0 ≤ i → (∃ y, i ≤ y ∧ y < i + j ∧ ¬ VG g u N (mv g (y + 1) (c 64 a)) (mv g (y + 1) (c 64 b)) 0 = 0) → 0 ≤ fi (fun i => decide (¬ VG g u N (mv g (i + 1) (c 64 a)) (mv g (i + 1) (c 64 b)) 0 = 0)) (fun i => i) (-2) j i := by
                intro j
                induction j with
                | zero => rintro i i0 ⟨y, y0, y1, _⟩; omega
                | succ j ih =>
                  rintro i i0 ⟨y, y0, y1, y2⟩
                  simp only [fi]
                  split
                  · exact i0
                  · rename_i hq
                    refine ih _ (by omega) ⟨y, ?_, by omega, y2⟩
                    have : y ≠ i := fun e => hq (by rw [← e]; exact decide_eq_true y2)
                    omega
              exact this _ 0 (by omega) hex
            · refine Or.inl (fi_none _ 0 (fun i i0 i1 => ?_))
              have : VG g u N (mv g (i + 1) (c 64 a)) (mv g (i + 1) (c 64 b)) 0 = 0 := Decidable.not_not.mp (fun q => hex ⟨i, i0, i1, q⟩)
              simp [this]
          rcases hrr with h2' | h2'
          · have hall := g1 h2'
            have hz0 : fi (fun x => decide (VG g u N (mv g x (c 64 a)) (mv g x (c 64 b)) 0 = 1)) (fun _ => (1 : Int)) 0 (u + 1).toNat 0 = 0 := by
              refine fi_none _ 0 (fun y y0 y1 => ?_)
              have : VG g u N (mv g y (c 64 a)) (mv g y (c 64 b)) 0 = 0 := by
                by_cases hy : y = 0
                · rw [hy]; exact h0
                · have := hall (y - 1) (by omega) (by omega)
                  rw [show y - 1 + 1 = y by omega] at this
                  exact this
              simp [this]
            rw [hz0, if_pos rfl, h2']
            simp only [q_mgood]
            exact ⟨rfl, rfl, IV.q H0 (by decide) ((agr_0 _).tr A)⟩
          · obtain ⟨b1, b2, b3, b4⟩ := g2 r rfl h2'
            have hz1 : fi (fun x => decide (VG g u N (mv g x (c 64 a)) (mv g x (c 64 b)) 0 = 1)) (fun _ => (1 : Int)) 0 (u + 1).toNat 0 = 1 := by
              refine fi_some _ 0 (r + 1) (by omega) (by omega) ?_
              rcases f01 (r + 1) with q | q
              · exact absurd q b3
              · exact decide_eq_true q
            rw [hz1, if_neg (by decide)]
            have lp : ∀ (j : Nat) (i : Int), 1 ≤ i → i + j = r + 1 → At (d + 39 + 1) mX12_getsBy 63 [mR 18 62, MU, MU, MU, MU, mI i] [] (G, c') (QI fun r2 ν2 => K2 G r r2 ν2) := by
              intro j
              induction j with
              | zero =>
                intro i i0 hi
                apply wp_X12_getsBy_63
                rw [M'.p35, M'.l76, hf i (by omega) (by omega), show i = r + 1 by omega, if_neg b3, w32i (by omega) (by omega), show r + 1 - 1 = r by omega]
                refine ⟨by omega, ⟨by omega, by omega, by omega⟩, ?_⟩
                simp only [q_mgood]
                exact ⟨rfl, rfl, IV.q H0 (by decide) ((agr_0 _).tr A)⟩
              | succ j ih =>
                intro i i0 hi
                have hz2 := b4 (i - 1) (by omega) (by omega)
                rw [show i - 1 + 1 = i by omega] at hz2
                apply wp_X12_getsBy_63
                rw [M'.p35, M'.l76, hf i (by omega) (by omega), if_pos hz2, w32i (by omega) (by omega)]
                exact ⟨by omega, ⟨by omega, by omega, by omega⟩, ih (i + 1) (by omega) (by omega)⟩
            exact lp r.toNat 1 (by omega) (by omega)
        · rw [if_pos (show c' (c' 62 35) 0 = 1 by rw [hcell, h0]), if_neg (show ¬ VG g u N (c 64 a) (c 64 b) 0 = 0 by rw [h0]; decide)]
          simp only [q_mgood]
          exact ⟨rfl, rfl, IV.q H0 (by decide) ((agr_0 _).tr A)⟩
      · rcases (show k < 1 ∨ (¬ k < 1 ∧ 5 < k) by omega) with hc | hc
        · simp only [h1, hc, and_self, ne_eq, not_false_eq_true, ↓reduceIte, q_refused]
          refine ev_X12_getsBy (d + 39) _ G _ 62 a b k (by decide) ⟨by decide, ?_⟩
          rintro _ rfl
          simp only [q_game _ _ (M1 _), rT, v3, h1, h2, and_self, ne_eq, not_false_eq_true, ↓reduceIte, q_mrefused, Int.reduceLT]
          exact ⟨rfl, rfl, IV.q H0 (by decide) (agr_0 _)⟩
        · simp only [h1, hc, and_self, ne_eq, not_false_eq_true, ↓reduceIte, q_refused]
          refine ev_X12_getsBy (d + 39) _ G _ 62 a b k (by decide) ⟨by decide, ?_⟩
          rintro _ rfl
          simp only [q_game _ _ (M1 _), rT, v3, h1, h2, and_self, ne_eq, not_false_eq_true, ↓reduceIte, q_mrefused, Int.reduceLT]
          exact ⟨rfl, rfl, IV.q H0 (by decide) (agr_0 _)⟩
    · simp only [h1, ↓reduceIte, q_refused]
      refine ev_X12_getsBy (d + 39) _ G _ 62 a b k (by decide) ⟨by decide, ?_⟩
      rintro _ rfl
      simp only [q_game _ _ (M1 _), rT, v3, h1, ↓reduceIte, q_mrefused, Int.reduceLT]
      exact ⟨rfl, rfl, IV.q H0 (by decide) (agr_0 _)⟩
