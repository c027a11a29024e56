/-! the class's shakes, of two at a time -/
def sto (g : Int → Int) (i t : Int) : Int := 8 * dg (g t) (i / 8) + dg (g t) (i % 8)
theorem sto_rg (g : Int → Int) (i t : Int) : 0 ≤ sto g i t ∧ sto g i t < 64 := by
  unfold sto
  have := dg_rg (g t) (i / 8)
  have := dg_rg (g t) (i % 8)
  omega
theorem st_chk : alln 64 (fun i => decide (o_shr (i : Int) 3 = (i : Int) / 8) && decide (o_and (i : Int) 7 = (i : Int) % 8)) = true := by decide +kernel
theorem st_chk2 : alln 8 (fun a => alln 8 fun b => decide (o_or (o_shl (o_and (a : Int) 7) 3) (o_and (b : Int) 7) = 8 * (a : Int) + (b : Int))) = true := by decide +kernel
theorem st_of {i : Int} (h0 : 0 ≤ i) (h1 : i < 64) : o_shr i 3 = i / 8 ∧ o_and i 7 = i % 8 := by
  obtain ⟨k, rfl⟩ := Int.eq_ofNat_of_zero_le h0
  have := alln_at st_chk k (by omega)
  simp only [Bool.and_eq_true, decide_eq_true_eq] at this
  exact this
def Of (c c' : MC) : Prop := ∀ a j, ¬ (a = 59 ∧ j = 2) → a ≠ 60 → a ≠ 61 → c' a j = c a j
theorem Of.ki {c c' : MC} (h : Of c c') : ∀ a j, KI a j → c' a j = c a j := fun a j k => h a j (by unfold KI at k; omega) (by unfold KI at k; omega) (by unfold KI at k; omega)
section
variable (d : Nat) (P : Int → MM → Prop) (P0 : MM → Prop) {G : MG} {c : MC} {t T n m u q w x s ka ki z : Int} {g : Int → Int}
theorem q_state {a b : Int} (a0 : 0 ≤ a) (a1 : a < 8) (b0 : 0 ≤ b) (b1 : b < 8) : EvI (d + 1) mX6_state [mI a, mI b] (G, c) P = P (8 * a + b) (G, c) := by
  refine evI_eq (ev_X6_state d _ G c a b ?_) P
  obtain ⟨a, rfl⟩ := Int.eq_ofNat_of_zero_le a0
  obtain ⟨b, rfl⟩ := Int.eq_ofNat_of_zero_le b0
  have := alln_at (alln_at st_chk2 a (by omega)) b (by omega)
  simp only [decide_eq_true_eq] at this
  exact ⟨this, rfl⟩
theorem l_sh17 (S : SH G c t z) (w : Int → Int) (still : Int) (s0 : 0 ≤ still) (s1 : still ≤ 300) (w0 : ∀ k, 0 ≤ k → k < 64 → 0 ≤ w k ∧ w k ≤ 8100000000) (hP : ∀ c', Of c c' → (∀ k, 0 ≤ k → k < 64 → c' 60 k = w k) → (∀ k, 0 ≤ k → k < 64 → c' 61 k = w k * still) → c' 59 2 = c 59 2 → At (d + 1) mX6_shakeOnce 49 [mR 13 59, mR 15 t, MU, MU, mI 0, MU, MU, MU] [] (G, c') (QV P0)) : ∀ (j : Nat) (i : Int) (c0 : MC), 0 ≤ i → i + j = 64 → Of c c0 → (∀ k, 0 ≤ k → k < 64 → c0 60 k = w k) → (∀ k, 0 ≤ k → k < i → c0 61 k = w k * still) → c0 59 2 = c 59 2 → At (d + 1) mX6_shakeOnce 17 [mR 13 59, mR 15 t, mL still, MU, mI i, MU, MU, MU] [] (G, c0) (QV P0) := by
  intro j
  induction j with
  | zero =>
    intro i c0 i0 hi O h60 h61 h2
    apply wp_X6_shakeOnce_17
    rw [if_neg (by omega)]
    exact hP c0 O h60 (fun k a b => h61 k a (by omega)) h2
  | succ j ih =>
    intro i c0 i0 hi O h60 h61 h2
    have wi : w32 (i + 1) = i + 1 := w32i (by omega) (by omega)
    have hw := w0 i i0 (by omega)
    have hb := ml2 hw.1 hw.2 s0 s1
    apply wp_X6_shakeOnce_17
    rw [if_pos (by omega)]
    have S0 := S.kp O.ki
    simp only [S0.h0, S0.h1, S.l60, S.l61, h60 i i0 (by omega), wi, w64i (show -9223372036854775808 ≤ w i * still by omega) (by omega)]
    refine ⟨by decide, by decide, ⟨by decide, i0, by omega⟩, ⟨by decide, i0, by omega⟩, ?_⟩
    rintro _ rfl
    refine ih _ _ (by omega) (by omega) (fun a k h1 h2 h3 => ?_) (fun k a b => ?_) (fun k a b => ?_) ?_
    · rw [up_na h3]; exact O a k h1 h2 h3
    · rw [up_na (by decide)]; exact h60 k a b
    · by_cases e : k = i
      · rw [e, up_eq]
      · rw [up_nj e]; exact h61 k a (by omega)
    · rw [up_na (by decide)]; exact h2
theorem l_sh71 (V : TV G c t T n m u q w x s ka ki g) (S : SH G c t z) (wt : Int → Int) (w0 : ∀ k, 0 ≤ k → k < 64 → 0 ≤ wt k) (tot : Int) (wT : sm wt 64 = tot) (T1 : tot ≤ 8100000000) (i : Int) (i0 : 0 ≤ i) (i1 : i < 64) (hP : ∀ c', Of c c' → (∀ k, 0 ≤ k → k < 64 → c' 60 k = wt k) → Sct 64 u (c T 2) (sto g) wt (c' 61) i u → c' 59 2 = c 59 2 → At (d + 2) mX6_shakeOnce 49 [mR 13 59, mR 15 t, MU, MU, mI (i + 1), MU, MU, MU] [] (G, c') (QV P0)) : ∀ (j : Nat) (y : Int) (c0 : MC), 0 ≤ y → y + j = u → Of c c0 → (∀ k, 0 ≤ k → k < 64 → c0 60 k = wt k) → Sct 64 u (c T 2) (sto g) wt (c0 61) i y → c0 59 2 = c 59 2 → At (d + 2) mX6_shakeOnce 71 [mR 13 59, mR 15 t, MU, MU, mI i, mI y, MU, MU] [] (G, c0) (QV P0) := by
  have b4 := V.M.b4; rw [V.v4] at b4
  have b2 := V.M.b2
  have wi : w32 (i + 1) = i + 1 := w32i (by omega) (by omega)
  have ht := V.t
  intro j
  induction j with
  | zero =>
    intro y c0 y0 hy O h60 h61 h2
    have V0 := V.kp O.ki
    apply wp_X6_shakeOnce_71
    rw [V0.e4, if_neg (by omega), wi]
    rw [show y = u by omega] at h61
    exact ⟨by omega, hP c0 O h60 h61 h2⟩
  | succ j ih =>
    intro y c0 y0 hy O h60 h61 h2
    have wy : w32 (y + 1) = y + 1 := w32i (by omega) (by omega)
    have V0 := V.kp O.ki
    have S0 := S.kp O.ki
    have I0 := S0.ciT V0
    have hTL := I0.H
    have hst := st_of i0 i1
    have hr := sto_rg g i y
    have d1 := dg_rg (g y) (i / 8)
    have d2 := dg_rg (g y) (i % 8)
    obtain ⟨hb, hb2⟩ := h61.bd (by omega) (by omega) b2.1 b2.2 w0 wT T1 i0 i1 y0 (by omega)
    have hb1 := hb _ hr.1 hr.2
    have e2 : c0 t 2 = c T 2 := by rw [V0.e2, O T 2 (by have := V.M.T; omega) (by have := V.M.T; omega) (by have := V.M.T; omega)]
    apply wp_X6_shakeOnce_71
    simp only [V0.e4, hTL.p8, hTL.g3]
    rw [if_pos (by omega), V0.g y y0 (by omega)]
    simp only [q_X7_at, hst.1, hst.2, q_state _ _ d1.1 d1.2 d2.1 d2.2, S0.h0, S0.h1, S.l60, S.l61, h60 i i0 i1, e2, wy]
    simp only [← show sto g i y = 8 * dg (g y) (i / 8) + dg (g y) (i % 8) from rfl, w64i (show -9223372036854775808 ≤ wt i * c T 2 by omega) (show wt i * c T 2 < 9223372036854775808 by omega), w64i (show -9223372036854775808 ≤ c0 61 (sto g i y) + wt i * c T 2 by omega) (show c0 61 (sto g i y) + wt i * c T 2 < 9223372036854775808 by omega)]
    refine ⟨by omega, by omega, ⟨by omega, y0, by omega⟩, by decide, ⟨by decide, hr.1, hr.2⟩, by decide, ⟨by decide, i0, i1⟩, by omega, ⟨by decide, hr.1, hr.2⟩, ?_⟩
    rintro _ rfl
    refine ih _ _ (by omega) (by omega) (fun a k h1 h2 h3 => ?_) (fun k a b => ?_) (h61.step y0 b2.1 (w0 i i0 i1) hr.1 hr.2 up_eq (fun k hk => up_nj hk)) ?_
    · rw [up_na h3]; exact O a k h1 h2 h3
    · rw [up_na (by decide)]; exact h60 k a b
    · rw [up_na (by decide)]; exact h2
theorem l_sh49 (V : TV G c t T n m u q w x s ka ki g) (S : SH G c t z) (wt : Int → Int) (w0 : ∀ k, 0 ≤ k → k < 64 → 0 ≤ wt k) (tot : Int) (wT : sm wt 64 = tot) (T1 : tot ≤ 8100000000) (hP : ∀ c', Of c c' → Sct 64 u (c T 2) (sto g) wt (c' 60) 64 0 → c' 59 2 = c 59 2 → P0 (G, c')) : ∀ (j : Nat) (i : Int) (c0 : MC), 0 ≤ i → i + j = 64 → Of c c0 → (∀ k, 0 ≤ k → k < 64 → c0 60 k = wt k) → Sct 64 u (c T 2) (sto g) wt (c0 61) i 0 → c0 59 2 = c 59 2 → At (d + 2) mX6_shakeOnce 49 [mR 13 59, mR 15 t, MU, MU, mI i, MU, MU, MU] [] (G, c0) (QV P0) := by
  have b4 := V.M.b4; rw [V.v4] at b4
  intro j
  induction j with
  | zero =>
    intro i c0 i0 hi O h60 h61 h2
    have S0 := S.kp O.ki
    apply wp_X6_shakeOnce_49
    rw [if_neg (by omega)]
    simp only [S0.h0, S0.h1, S.l60, S.l61]
    refine ⟨by decide, by decide, ⟨by decide, by decide, by decide, by decide, by decide, by decide, by decide⟩, ?_⟩
    rintro _ rfl
    rw [show i = 64 by omega] at h61
    have e60 : ∀ k, 0 ≤ k → k < 64 → cCopy c0 61 0 60 0 64 60 k = c0 61 k := fun k a b => by unfold cCopy; grind
    have eo : ∀ a k, a ≠ 60 → cCopy c0 61 0 60 0 64 a k = c0 a k := fun a k h => by unfold cCopy; grind
    refine hP _ (fun a k h1 h2 h3 => ?_) ⟨fun k a b => ?_, fun F => ?_⟩ ?_
    · rw [eo a k h2]; exact O a k h1 h2 h3
    · rw [e60 k a b]; exact h61.1 k a b
    · rw [← h61.2 F]; exact sm_congr (fun k a b => by rw [e60 k a b])
    · rw [eo _ _ (by decide)]; exact h2
  | succ j ih =>
    intro i c0 i0 hi O h60 h61 h2
    have wi : w32 (i + 1) = i + 1 := w32i (by omega) (by omega)
    have S0 := S.kp O.ki
    apply wp_X6_shakeOnce_49
    rw [if_pos (by omega)]
    simp only [S0.h0, S.l60, h60 i i0 (by omega), wi, lcmp0 (w0 i i0 (by omega))]
    refine ⟨by decide, ⟨by decide, i0, by omega⟩, ?_⟩
    by_cases e : wt i = 0
    · rw [if_pos e]
      exact ih _ _ (by omega) (by omega) O h60 (h61.skip i0 e) h2
    · rw [if_neg e]
      exact l_sh71 d P0 V S wt w0 tot wT T1 i i0 (by omega) (fun c' O' h60' h61' h2' => ih _ _ (by omega) (by omega) O' h60' (h61'.next i0) h2') u.toNat 0 c0 (by omega) (by omega) O h60 h61 h2
theorem f_shakeOnce (V : TV G c t T n m u q w x s ka ki g) (S : SH G c t z) (k : Nat) (st : Int) (hk : k ≤ 4) (W : Wgh 64 u (c T 2) (sto g) (c 60) k st) (hP : ∀ c', Of c c' → Wgh 64 u (c T 2) (sto g) (c' 60) (k + 1) st → c' 59 2 = c 59 2 → P0 (G, c')) : EvV (d + 2) mX6_shakeOnce [mR 13 59, mR 15 t] (G, c) P0 := by
  have b4 := V.M.b4; rw [V.v4] at b4
  have b2 := V.M.b2
  have ht := V.t
  have hs := ml2 (a := 100 - c T 2) (b := u) (A := 100) (B := 3) (by omega) (by omega) (by omega) (by omega)
  have htw := tw_b4 b4.1 b4.2 hk
  have hW := W.t (by omega)
  refine ev_X6_shakeOnce (d + 1) _ G c 59 t (by decide) ⟨by omega, by omega, ?_⟩
  rw [V.e2, V.e4, w32i (show -2147483648 ≤ 100 - c T 2 by omega) (by omega), w32i (show -2147483648 ≤ (100 - c T 2) * u by omega) (by omega)]
  refine l_sh17 (d + 1) P0 S (c 60) _ hs.1 hs.2 (fun k a b => ⟨W.1 k a b, ?_⟩) (fun c' O h60 h61 h2 => ?_) 64 0 c (by decide) (by decide) (fun _ _ _ _ _ => rfl) (fun _ _ _ => rfl) (fun k a b => by omega) rfl
  · have := sm_one a b W.1
    omega
  · exact l_sh49 d P0 V S (c 60) W.1 _ hW htw.2 (fun c'' O' h60' h2' => hP c'' O' (W.s h60') h2') 64 0 c' (by decide) (by decide) O h60 (Sct.z (by omega) b2.2 W.1 h61) h2
theorem l_sp46 (V : TV G c t T n m u q w x s ka ki g) (S : SH G c t z) (st nn : Int) (nn5 : nn ≤ 5) (hP : ∀ c', Of c c' → Wgh 64 u (c T 2) (sto g) (c' 60) nn.toNat st → c' 59 2 = c 59 2 → P0 (G, c')) : ∀ (j : Nat) (i : Int) (c0 : MC), 0 ≤ i → i + j = nn → Of c c0 → Wgh 64 u (c T 2) (sto g) (c0 60) i.toNat st → c0 59 2 = c 59 2 → At (d + 3) mX6_spread 46 [mR 13 59, mR 15 t, MU, MU, mI nn, mI i] [] (G, c0) (QV P0) := by
  have hT := V.M.T
  intro j
  induction j with
  | zero =>
    intro i c0 i0 hi O W h2
    apply wp_X6_spread_46
    rw [if_neg (by omega)]
    rw [show i = nn by omega] at W
    exact hP c0 O W h2
  | succ j ih =>
    intro i c0 i0 hi O W h2
    have wi : w32 (i + 1) = i + 1 := w32i (by omega) (by omega)
    have V0 := V.kp O.ki
    have S0 := S.kp O.ki
    have e2 : c0 T 2 = c T 2 := O T 2 (by omega) (by omega) (by omega)
    apply wp_X6_spread_46
    rw [if_pos (by omega), wi]
    refine f_shakeOnce d _ V0 S0 i.toNat st (by omega) (by rw [e2]; exact W) (fun c' O' W' h2' => ?_)
    refine ih _ _ (by omega) (by omega) (fun a k h1 h2 h3 => (O' a k h1 h2 h3).trans (O a k h1 h2 h3)) ?_ (h2'.trans h2)
    rw [show (i + 1).toNat = i.toNat + 1 by omega, ← e2]
    exact W'
theorem l_sp11 (V : TV G c t T n m u q w x s ka ki g) (S : SH G c t z) (k l nn : Int) (k0 : 0 ≤ k) (k1 : k < 6) (l0 : 0 ≤ l) (l1 : l < 6) (nn0 : 0 ≤ nn) (nn5 : nn ≤ 5) (hP : ∀ c', Of c c' → Wgh 64 u (c T 2) (sto g) (c' 60) nn.toNat (8 * k + l) → c' 59 2 = n → P0 (G, c')) : ∀ (j : Nat) (i : Int) (c0 : MC), 0 ≤ i → i + j = 64 → Of c c0 → (∀ k, 0 ≤ k → k < i → c0 60 k = 0) → c0 59 2 = n → At (d + 3) mX6_spread 11 [mR 13 59, mR 15 t, mI k, mI l, mI nn, mI i] [] (G, c0) (QV P0) := by
  have hT := V.M.T
  intro j
  induction j with
  | zero =>
    intro i c0 i0 hi O h60 h2
    have S0 := S.kp O.ki
    apply wp_X6_spread_11
    rw [if_neg (by omega), q_state _ _ k0 (by omega) l0 (by omega), S0.h0]
    simp only [S.l60]
    refine ⟨by decide, ⟨by decide, by omega, by omega⟩, ?_⟩
    rintro _ rfl
    have O' : Of c (up c0 60 (8 * k + l) 1) := fun a j h1 h2 h3 => by rw [up_na h2]; exact O a j h1 h2 h3
    refine l_sp46 d P0 (V.kp O'.ki) (S.kp O'.ki) (8 * k + l) nn nn5 (fun c' O2 W h2' => ?_) nn.toNat 0 _ (by decide) (by omega) (fun _ _ _ _ _ => rfl) ?_ rfl
    · rw [O' T 2 (by omega) (by omega) (by omega)] at W
      refine hP c' (fun a j h1 h2 h3 => (O2 a j h1 h2 h3).trans (O' a j h1 h2 h3)) W ?_
      rw [h2', up_na (by decide)]; exact h2
    · refine Wgh.z (by omega) (by omega) (fun j a b => ?_)
      by_cases e : j = 8 * k + l
      · rw [if_pos e, e, up_eq]
      · rw [if_neg e, up_nj e]; exact h60 j a (by omega)
  | succ j ih =>
    intro i c0 i0 hi O h60 h2
    have wi : w32 (i + 1) = i + 1 := w32i (by omega) (by omega)
    have S0 := S.kp O.ki
    apply wp_X6_spread_11
    rw [if_pos (by omega), S0.h0, wi]
    simp only [S.l60]
    refine ⟨by decide, ⟨by decide, i0, by omega⟩, ?_⟩
    rintro _ rfl
    refine ih _ _ (by omega) (by omega) (fun a j h1 h2 h3 => by rw [up_na h2]; exact O a j h1 h2 h3) (fun j a b => ?_) ?_
    · by_cases e : j = i
      · rw [e, up_eq]
      · rw [up_nj e]; exact h60 j a (by omega)
    · rw [up_na (by decide)]; exact h2
theorem f_spread (V : TV G c t T n m u q w x s ka ki g) (S : SH G c t z) (k l nn : Int) (k0 : 0 ≤ k) (k1 : k < 6) (l0 : 0 ≤ l) (l1 : l < 6) (nn0 : 0 ≤ nn) (nn5 : nn ≤ 5) (hP : ∀ c', Of c c' → Wgh 64 u (c T 2) (sto g) (c' 60) nn.toNat (8 * k + l) → c' 59 2 = n → P0 (G, c')) : EvV (d + 3) mX6_spread [mR 13 59, mR 15 t, mI k, mI l, mI nn] (G, c) P0 := by
  have ht := V.t
  refine ev_X6_spread (d + 2) _ G c 59 t k l nn (by decide) ⟨by omega, by decide, ?_⟩
  rintro _ rfl
  exact l_sp11 d P0 V S k l nn k0 k1 l0 l1 nn0 nn5 hP 64 0 _ (by decide) (by decide) (fun a j h1 h2 h3 => up_o h1) (fun j a b => by omega) (by rw [up_eq, V.e1])
theorem l_bw (S : SH G c t z) (tot : Int) (T1 : tot ≤ 2430000000000) (w0 : ∀ j, 0 ≤ j → j < 64 → 0 ≤ c 60 j ∧ c 60 j ≤ tot) (n2 : 2 ≤ n) (n6 : n ≤ 6) (hn : c 59 2 = n) (hP : P (bsm (c 60) (n - 1)) (G, c)) : ∀ (j : Nat) (i a : Int), 0 ≤ i → i + j = n - 1 → a = bsm (c 60) i → 0 ≤ a → a ≤ 2 * tot * i → At (d + 2) mX6_besideWeight 4 [mR 13 59, mL a, MU, mI i] [] (G, c) (QL P) := by
  intro j
  induction j with
  | zero =>
    intro i a i0 hi e _ _
    have wi : w32 (i + 1) = i + 1 := w32i (by omega) (by omega)
    apply wp_X6_besideWeight_4
    rw [wi, hn, if_neg (by omega), e, show i = n - 1 by omega]
    exact ⟨by decide, hP⟩
  | succ j ih =>
    intro i a i0 hi e a0 a1
    have wi : w32 (i + 1) = i + 1 := w32i (by omega) (by omega)
    have h1 := w0 (9 * i + 1) (by omega) (by omega)
    have h2 := w0 (9 * i + 8) (by omega) (by omega)
    have hm := ml2 (a := 2 * tot) (b := i) (A := 2 * 2430000000000) (B := 6) (by omega) (by omega) i0 (by omega)
    apply wp_X6_besideWeight_4
    rw [wi, hn, if_pos (by omega), q_state _ _ i0 (by omega) (by omega) (by omega)]
    simp only [q_state _ _ (show 0 ≤ i + 1 by omega) (by omega) i0 (by omega), S.h0, S.l60, show 8 * i + (i + 1) = 9 * i + 1 by omega, show 8 * (i + 1) + i = 9 * i + 8 by omega]
    rw [w64i (show -9223372036854775808 ≤ c 60 (9 * i + 1) + c 60 (9 * i + 8) by omega) (by omega), w64i (show -9223372036854775808 ≤ a + (c 60 (9 * i + 1) + c 60 (9 * i + 8)) by omega) (by omega)]
    refine ⟨by decide, by decide, ⟨by decide, by omega, by omega⟩, by decide, ⟨by decide, by omega, by omega⟩, ?_⟩
    refine ih _ _ (by omega) (by omega) ?_ (by omega) ?_
    · unfold bsm; rw [sm_succ _ i0, e]; rfl
    · rw [Int.mul_add, Int.mul_one]; omega
theorem q_bw (S : SH G c t z) (tot : Int) (T1 : tot ≤ 2430000000000) (w0 : ∀ j, 0 ≤ j → j < 64 → 0 ≤ c 60 j ∧ c 60 j ≤ tot) (n2 : 2 ≤ n) (n6 : n ≤ 6) (hn : c 59 2 = n) : EvL (d + 2) mX6_besideWeight [mR 13 59] (G, c) P = P (bsm (c 60) (n - 1)) (G, c) := by
  refine evL_eq (ev_X6_besideWeight (d + 1) _ G c 59 (by decide) ?_) P
  exact l_bw d _ S tot T1 w0 n2 n6 hn ⟨rfl, rfl⟩ (n - 1).toNat 0 0 (by decide) (by omega) (by unfold bsm; rw [sm_z _ (by decide)]) (by decide) (by rw [Int.mul_zero]; decide)
theorem q_wi (S : SH G c t z) {k : Int} (k0 : 0 ≤ k) (k1 : k < 6) : EvL (d + 2) mX6_weightIn [mR 13 59, mI k] (G, c) P = P (c 60 (9 * k)) (G, c) := by
  refine evL_eq (ev_X6_weightIn (d + 1) _ G c 59 k (by decide) ?_) P
  rw [q_state _ _ k0 (by omega) k0 (by omega)]
  simp only [S.h0, S.l60, show 8 * k + k = 9 * k by omega]
  exact ⟨by decide, ⟨by decide, by omega, by omega⟩, by first | rfl | trivial, by first | rfl | trivial⟩
end
