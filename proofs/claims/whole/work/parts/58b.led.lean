/-! led -/
def ldF (f : Int → Bool) (a : Int) : Nat → Int → Int → Option Int
  | 0, _, _ => none
  | j + 1, p, n => if f p = true then ldF f a j (p + 1) n else if n = a then some p else ldF f a j (p + 1) (n + 1)
section
variable (d : Nat) (P : Int → MM → Prop) (Q : Option MV → MM → Prop) {G : MG} {c : MC} {t T n m u q w x s ka ki z : Int} {g : Int → Int}
theorem f_1006 (a : Int) (h79 : 0 < gLn G 79) (h : Ev d mX10_led [mR 16 0, mI a] (G, c) (fun r ν => (∃ p, r = some (mI p) ∧ P 0 (ν.1, up ν.2 79 0 p)) ∨ (∃ y, r = some (mR 3 y) ∧ P 1 ν))) : EvI (d + 1) 1006 [mR 16 0, mI a, mR 5 79] (G, c) P := by
  obtain ⟨N, r, ν, h1, h2⟩ := h
  have e1 : ∀ n, N ≤ n → enterM (runF n d) mX10_led [mR 16 0, mI a] (G, c) = some (r, ν) := fun k hk => by
    have := h1 k hk
    unfold enter at this
    rw [if_pos (by decide)] at this
    exact this
  rcases h2 with ⟨p, rfl, h2⟩ | ⟨y, rfl, h2⟩
  · refine ⟨N, some (mI 0), (ν.1, up ν.2 79 0 p), fun k hk => ?_, h2⟩
    have := e1 k hk
    unfold enter
    rw [if_neg (by decide), if_neg (by decide), if_neg (by decide), if_pos rfl]
    simp only [mR, mI] at this ⊢
    rw [if_pos ⟨by decide, h79⟩, this]
  · refine ⟨N, some (mI 1), ν, fun k hk => ?_, h2⟩
    have := e1 k hk
    unfold enter
    rw [if_neg (by decide), if_neg (by decide), if_neg (by decide), if_pos rfl]
    simp only [mR, mI] at this ⊢
    rw [if_pos ⟨by decide, h79⟩, this]
    rfl
theorem l_cled (I : CI G c t) (V : TV G c t T n m u q w x s ka ki g) (a : Int) (a0 : -2147483648 ≤ a) (a1 : a < 2147483648) (f : Int → Bool) (hf : ∀ p, 0 ≤ p → p < m → (f p = true ↔ c 64 p = c (T + 2) p)) (r : Option Int) (h1 : ∀ p, r = some p → Q (some (mI p)) (G, c)) (h0 : r = none → Q (some (mR 3 0)) ((gTop G, gCl G + 1, gSl G + 6, gTy G, gLn G), c)) : ∀ (j : Nat) (p k : Int), 0 ≤ p → p + j = m → 0 ≤ k → k ≤ p → ldF f a j p k = r → At (d + 3) mX10_led 4 [mR 16 0, MU, mI (w32 (a - k)), mI p] [] (G, c) Q := by
  have ht := V.t
  have b3 := V.M.b3; rw [V.v3] at b3
  intro j
  induction j with
  | zero =>
    intro p k p0 hp k0 kp hr
    simp only [ldF] at hr
    apply wp_X10_led_4
    rw [I.p0, V.e3, if_neg (by omega)]
    exact ⟨by decide, by omega, h0 hr.symm⟩
  | succ j ih =>
    intro p k p0 hp k0 kp hr
    simp only [ldF] at hr
    have ho := V.ho p p0 (by omega)
    have sv := V.sv p p0 (by omega)
    apply wp_X10_led_4
    simp only [I.p0, V.e3]
    rw [if_pos (by omega), q_slotOf _ _ _ _ t I]
    dsimp only
    simp only [I.p0, I.H.p7, I.H.g2, ho.1, sv.1, w32i (show -2147483648 ≤ p + 1 by omega) (show p + 1 < 2147483648 by omega)]
    refine ⟨by decide, by omega, by decide, by omega, ⟨by omega, p0, by omega⟩, ?_⟩
    by_cases h : c 64 p = c (T + 2) p
    · rw [if_pos ((hf p p0 (by omega)).2 h)] at hr
      rw [if_pos h]
      exact ih _ _ (by omega) (by omega) k0 (by omega) hr
    · rw [if_neg (fun q => h ((hf p p0 (by omega)).1 q))] at hr
      rw [if_neg h]
      by_cases hk : k = a
      · rw [if_pos hk] at hr
        rw [if_pos (by rw [hk, Int.sub_self]; rfl)]
        exact h1 p hr.symm
      · rw [if_neg hk] at hr
        rw [if_neg (by unfold w32; omega), show w32 (w32 (a - k) + -1) = w32 (a - (k + 1)) by unfold w32; omega]
        exact ih _ _ (by omega) (by omega) (by omega) (by omega) hr
theorem l_mled (V : TV G c t T n m u q w x s ka ki g) (a : Int) (f : Int → Bool) (hf : ∀ p, 0 ≤ p → p < m → (f p = true ↔ c 64 p = c (T + 2) p)) (r : Option Int) (h1 : ∀ p, r = some p → P p (G, c)) (h0 : r = none → P 0 (G, up c 62 0 1)) : ∀ (j : Nat) (p k : Int), 0 ≤ p → p + j = m → 0 ≤ k → k ≤ p → ldF f a j p k = r → At (d + 3) mX12_led 9 [mR 18 62, mI a, mI k, mI p] [] (G, c) (QI P) := by
  have hT := V.M.T
  have M := V.M
  have b3 := V.M.b3; rw [V.v3] at b3
  intro j
  induction j with
  | zero =>
    intro p k p0 hp k0 kp hr
    simp only [ldF] at hr
    apply wp_X12_led_9
    rw [M.p3, if_neg (by omega), V.v3, if_neg (by omega)]
    refine ⟨by decide, by decide, by omega, by decide, ?_⟩
    rintro _ rfl
    exact h0 hr.symm
  | succ j ih =>
    intro p k p0 hp k0 kp hr
    simp only [ldF] at hr
    apply wp_X12_led_9
    simp only [M.p3, V.v3, M.p16, M.l64, M.t11, M.u2, w32i (show -2147483648 ≤ p + 1 by omega) (show p + 1 < 2147483648 by omega), w32i (show -2147483648 ≤ k + 1 by omega) (show k + 1 < 2147483648 by omega)]
    rw [if_neg (by omega), if_pos (by omega)]
    refine ⟨by decide, by decide, by omega, by decide, ⟨by decide, p0, by omega⟩, by decide, by omega, ⟨by omega, p0, by omega⟩, ?_⟩
    by_cases h : c 64 p = c (T + 2) p
    · rw [if_pos ((hf p p0 (by omega)).2 h)] at hr
      rw [if_pos h]
      exact ih _ _ (by omega) (by omega) k0 (by omega) hr
    · rw [if_neg (fun q => h ((hf p p0 (by omega)).1 q))] at hr
      rw [if_neg h]
      by_cases hk : k = a
      · rw [if_pos hk] at hr
        rw [if_pos hk]
        exact h1 p hr.symm
      · rw [if_neg hk] at hr
        rw [if_neg hk]
        exact ih _ _ (by omega) (by omega) (by omega) (by omega) hr
end
/-- led, as the law has it: whether it throws, or which one -/
abbrev K4 (G : MG) (k b : Int) (ν2 : MM) : Prop := ν2.2 62 0 = k ∧ (k = 0 → ν2.2 79 0 = b) ∧ IV ν2.1 ν2.2 ∧ gCl ν2.1 ≤ gCl G + 14 ∧ gSl ν2.1 ≤ gSl G + 277
theorem iv_led {G : MG} {c c' : MC} (H : IV G c) (e : ∀ a j, ¬ (a = 79 ∧ j = 0) → ¬ (a = 62 ∧ j = 0) → c' a j = c a j) : IV G c' := by
  refine IV.kp H (fun a j k => e a j (by unfold KI scr at k; omega) (by unfold KI scr at k; omega)) ?_
  have h := H.1
  unfold TR at h ⊢
  simp only [e 62 1 (by omega) (by omega), e 62 2 (by omega) (by omega), e 0 6 (by omega) (by omega), e 19 13 (by omega) (by omega)]
  exact h
theorem iv_thr {G : MG} {c : MC} (H : IV G c) : IV (gTop G, gCl G + 1, gSl G + 6, gTy G, gLn G) c := H
theorem k_led (d : Nat) (G : MG) (c : MC) (a : Int) (a0 : -2147483648 ≤ a) (a1 : a < 2147483648) (H : IV G c) : EvI (d + 40) 1006 [mR 16 0, mI a, mR 5 79] (G, c) (fun k ν1 => EvI (d + 40) mX12_led [mR 18 62, mI a] (ν1.1, ν1.2) (fun b ν2 => K4 G k b ν2)) := by
  have H' := H
  obtain ⟨hr, t, z, S, V⟩ := H'
  have l79 := S.l79
  have a32 : w32 (a - 0) = a := by rw [Int.sub_zero]; exact w32i a0 a1
  refine f_1006 (d + 39) _ a (by omega) ?_
  refine ev_X10_led (d + 38) _ G c 0 a (by decide) ?_
  rcases V with V | ⟨T, n, m, u, q, w, x, s, ka, ki, g, V⟩
  · have I := S.ciN V
    apply wp_X10_led_4
    rw [I.p0, V.e3, if_neg (by decide)]
    have ht := S.t
    refine ⟨by decide, by omega, Or.inr ⟨0, rfl, ?_⟩⟩
    refine ev_X12_led (d + 39) _ _ c 62 a (by decide) ⟨by decide, ?_⟩
    rintro _ rfl
    apply wp_X12_led_9
    rw [up_nj (show (3 : Int) ≠ 0 by decide), V.T, if_pos (by decide)]
    refine ⟨by decide, by decide, ?_⟩
    rintro _ rfl
    refine ⟨(up_eq : up (up c 62 0 0) 62 0 1 62 0 = 1), fun h => by omega, iv_thr (c := up (up c 62 0 0) 62 0 1) (iv_led H (fun a j p p' => by rw [up_o p', up_o p'])), ?_, ?_⟩
    · show gCl G + 1 ≤ gCl G + 14; omega
    · show gSl G + 6 ≤ gSl G + 277; omega
  · have I := S.ciT V
    have b3 := V.M.b3; rw [V.v3] at b3
    have hT := V.M.T
    have hf : ∀ p, 0 ≤ p → p < m → (decide (c 64 p = c (T + 2) p) = true ↔ c 64 p = c (T + 2) p) := fun p _ _ => by simp
    have key := l_cled (d + 36) (fun r ν => (∃ p, r = some (mI p) ∧ EvI (d + 40) mX12_led [mR 18 62, mI a] (ν.1, up ν.2 79 0 p) (fun b ν2 => K4 G 0 b ν2)) ∨ (∃ y, r = some (mR 3 y) ∧ EvI (d + 40) mX12_led [mR 18 62, mI a] (ν.1, ν.2) (fun b ν2 => K4 G 1 b ν2))) I V a a0 a1 (fun p => decide (c 64 p = c (T + 2) p)) hf (ldF (fun p => decide (c 64 p = c (T + 2) p)) a m.toNat 0 0) (fun p hp => Or.inl ⟨p, rfl, ?_⟩) (fun hp => Or.inr ⟨0, rfl, ?_⟩) m.toNat 0 0 (by decide) (by omega) (by decide) (by decide) rfl
    · rw [a32] at key; exact key
    · refine ev_X12_led (d + 39) _ G _ 62 a (by decide) ⟨by decide, ?_⟩
      rintro _ rfl
      have e : ∀ y j, ¬ (y = 79 ∧ j = 0) → ¬ (y = 62 ∧ j = 0) → up (up c 79 0 p) 62 0 0 y j = c y j := fun y j p p' => by rw [up_o p', up_o p]
      have V1 : TV G (up (up c 79 0 p) 62 0 0) t T n m u q w x s ka ki g := V.kp (fun y j k => e y j (by unfold KI scr at k; omega) (by unfold KI scr at k; omega))
      refine l_mled (d + 37) _ V1 a (fun p => decide (c 64 p = c (T + 2) p)) (fun p' x y => by rw [e _ _ (by omega) (by omega), e _ _ (by omega) (by omega)]; exact hf p' x y) (some p) (fun p' hp' => ?_) (fun h => by cases h) m.toNat 0 0 (by decide) (by omega) (by decide) (by decide) hp
      cases hp'
      refine ⟨(up_eq : up (up c 79 0 p) 62 0 0 62 0 = 0), fun _ => ?_, iv_led H e, Nat.le_add_right _ _, Nat.le_add_right _ _⟩
      show up (up c 79 0 p) 62 0 0 79 0 = p
      rw [up_na (by decide), up_eq]
    · refine ev_X12_led (d + 39) _ _ _ 62 a (by decide) ⟨by decide, ?_⟩
      rintro _ rfl
      have e : ∀ y j, ¬ (y = 62 ∧ j = 0) → up c 62 0 0 y j = c y j := fun y j p' => by rw [up_o p']
      have V1 : TV (gTop G, gCl G + 1, gSl G + 6, gTy G, gLn G) (up c 62 0 0) t T n m u q w x s ka ki g := V.kp (fun y j k => e y j (by unfold KI scr at k; omega))
      refine l_mled (d + 37) _ V1 a (fun p => decide (c 64 p = c (T + 2) p)) (fun p' x y => by rw [e _ _ (by omega), e _ _ (by omega)]; exact hf p' x y) none (fun p' hp' => by cases hp') (fun _ => ?_) m.toNat 0 0 (by decide) (by omega) (by decide) (by decide) hp
      refine ⟨(up_eq : up (up c 62 0 0) 62 0 1 62 0 = 1), fun h => by omega, iv_thr (c := up (up c 62 0 0) 62 0 1) (iv_led H (fun a j p p' => by rw [up_o p', up_o p'])), ?_, ?_⟩
      · show gCl G + 1 ≤ gCl G + 14; omega
      · show gSl G + 6 ≤ gSl G + 277; omega
