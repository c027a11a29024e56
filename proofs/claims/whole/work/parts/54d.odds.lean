section
variable (d : Nat) (P : Int → MM → Prop) (P0 : MM → Prop) {G : MG} {c : MC} {t T n m u q w x s ka ki z : Int} {g : Int → Int}
theorem q_shk (a k : Int) : EvI (d + 2) mX12_refusesShakes [mR 18 62, mI a, mI k] (G, c) P = P (if a = 0 then 1 else if 0 ≤ k ∧ k ≤ 5 then 0 else 2) (G, c) := evI_eq (ev_X12_refusesShakes (d + 1) _ G c 62 a k (by decide) (by
  simp only [q_min]
  by_cases h1 : a = 0
  · rw [if_pos h1, if_pos h1]; exact ⟨by first | rfl | trivial, by first | rfl | trivial⟩
  · rw [if_neg h1, if_neg h1]
    by_cases h2 : 0 ≤ k ∧ k ≤ 5
    · simp only [if_pos h2, if_neg (show ¬ (1 : Int) = 0 by decide)]; exact ⟨by first | rfl | trivial, by first | rfl | trivial⟩
    · simp only [if_neg h2, ↓reduceIte]; exact ⟨by first | rfl | trivial, by first | rfl | trivial⟩)) P
theorem shw_tw (u1 : 1 ≤ u) (u3 : u ≤ 3) : ∀ (k : Nat), k ≤ 5 → fo (fun _ s => w64 (s * (w32 (100 * u)))) k 0 1 = tw u k := by
  intro k
  induction k with
  | zero => intro _; unfold tw; rw [Int.pow_zero]; rfl
  | succ k ih =>
    intro hk
    have := tw_b u1 u3 hk
    rw [fo_succ, ih (by omega), w32i (show -2147483648 ≤ 100 * u by omega) (by omega), ← tw_s, w64i (by omega) (by omega)]
theorem bsm_b {wt : Int → Int} {tot : Int} (h : ∀ j, 0 ≤ j → j < 64 → 0 ≤ wt j ∧ wt j ≤ tot) : ∀ k, 0 ≤ k → k ≤ 6 → 0 ≤ bsm wt k ∧ bsm wt k ≤ 2 * tot * k := by
  have key : ∀ k, 0 ≤ k → (k ≤ 6 → 0 ≤ bsm wt k ∧ bsm wt k ≤ 2 * tot * k) := by
    apply sm_nat
    · intro _; unfold bsm; rw [sm_z _ (by decide), Int.mul_zero]; omega
    · intro k k0 ih k6
      have h1 := h (9 * k + 1) (by omega) (by omega)
      have h2 := h (9 * k + 8) (by omega) (by omega)
      have := ih (by omega)
      unfold bsm at this ⊢
      rw [sm_succ _ k0, Int.mul_add, Int.mul_one]
      omega
  exact fun k k0 k6 => key k k0 k6
theorem Wgh.b {N : Int} {to : Int → Int → Int} {wt : Int → Int} {k : Nat} {i r : Int} (u1 : 1 ≤ u) (u3 : u ≤ 3) (hk : k ≤ 5) (W : Wgh N u r to wt k i) : ∀ j, 0 ≤ j → j < N → 0 ≤ wt j ∧ wt j ≤ tw u k := fun j a b => ⟨W.1 j a b, by rw [← W.t (by omega)]; exact sm_one a b W.1⟩
theorem Wgh.p {N : Int} {to : Int → Int → Int} {wt f : Int → Int} {k : Nat} {i r : Int} (u1 : 1 ≤ u) (u3 : u ≤ 3) (hk : k ≤ 5) (W : Wgh N u r to wt k i) (B : Int) (B0 : 0 ≤ B) (hf : ∀ j, 0 ≤ f j ∧ f j ≤ B) : ∀ j, j ≤ N → 0 ≤ sm (fun i => wt i * f i) j ∧ sm (fun i => wt i * f i) j ≤ tw u k * B := fun j hj => by
  refine ⟨sm_nn _ (fun i a b => Int.mul_nonneg (W.1 i a (by omega)) (hf i).1), ?_⟩
  have h1 : sm (fun i => wt i * f i) j ≤ sm (fun i => B * wt i) j := sm_le _ (fun i a b => by rw [Int.mul_comm B]; exact Int.mul_le_mul_of_nonneg_left (hf i).2 (W.1 i a (by omega)))
  rw [sm_ml] at h1
  have h2 := sm_mono (f := wt) (k := j) N hj W.1
  rw [W.t (by omega)] at h2
  have h3 : B * sm wt j ≤ B * tw u k := Int.mul_le_mul_of_nonneg_left h2 B0
  rw [Int.mul_comm (tw u k)]
  omega
def oddF (S : MC) (k l i : Int) : Int := bes (dg (S 1 i) k) (dg (S 1 i) l)
def slF (S : MC) (k y i : Int) : Int := if dg (S 1 i) k = y then 1 else 0
theorem l_modds (V : TV G c t T n m u q w x s ka ki g) (a b l k : Int) (ha : 0 ≤ a ∧ a < m) (hb : 0 ≤ b ∧ b < m) (k5 : k ≤ 5) (W : Wgh (bfs n g u 0 0) u (c T 2) (rto n g (bfs n g u)) (c 77) k.toNat 0) (h38 : c 62 38 = tw u k.toNat) (hP : P (frc (sm (fun i => c 77 i * oddF (bfs n g u) (c 64 a) (c 64 b) i) (bfs n g u 0 0)) (tw u k.toNat) l) (G, mtr c 0)) : ∀ (j : Nat) (i y : Int), 0 ≤ i → i + j = bfs n g u 0 0 → y = sm (fun i => c 77 i * oddF (bfs n g u) (c 64 a) (c 64 b) i) i → At (d + 3) mX12_odds 42 [mR 18 62, mI a, mI b, MU, mI l, MU, mL y, MU, mI i] [] (G, c) (QL P) := by
  have b1 := V.M.b1; rw [V.v1] at b1
  have b3 := V.M.b3; rw [V.v3] at b3
  have b4 := V.M.b4; rw [V.v4] at b4
  have hw := (tv_bfs V).1.w
  have htw := tw_b b4.1 b4.2 (show k.toNat ≤ 5 by omega)
  have hf : ∀ i, 0 ≤ oddF (bfs n g u) (c 64 a) (c 64 b) i ∧ oddF (bfs n g u) (c 64 a) (c 64 b) i ≤ 1 := fun i => by unfold oddF; rcases bes01 (dg (bfs n g u 1 i) (c 64 a)) (dg (bfs n g u 1 i) (c 64 b)) with e | e <;> rw [e] <;> decide
  have hp := W.p b4.1 b4.2 (by omega) 1 (by decide) hf
  have va := V.sv a ha.1 ha.2
  have vb := V.sv b hb.1 hb.2
  have M := V.M
  intro j
  induction j with
  | zero =>
    intro i y i0 hi e
    rw [show i = bfs n g u 0 0 by omega] at e
    have := hp (bfs n g u 0 0) (Int.le_refl _)
    apply wp_X12_odds_42
    rw [V.B.w, if_neg (by omega), h38, e, q_fraction _ _ _ _ _ _ _ this.1 (by omega) (by omega) (by omega)]
    exact ⟨by decide, by decide, hP⟩
  | succ j ih =>
    intro i y i0 hi e
    have wi : w32 (i + 1) = i + 1 := w32i (by omega) (by omega)
    have h1 := hp i (by omega)
    have h2 := hp (i + 1) (by omega)
    have hc := W.b b4.1 b4.2 (by omega) i i0 (by omega)
    have e2 : sm (fun i => c 77 i * oddF (bfs n g u) (c 64 a) (c 64 b) i) (i + 1) = y + c 77 i * oddF (bfs n g u) (c 64 a) (c 64 b) i := by rw [sm_succ _ i0, e]
    have e68a := V.B.e i (c 64 a) i0 (by omega) va.2.1 va.2.2
    have e68b := V.B.e i (c 64 b) i0 (by omega) vb.2.1 vb.2.2
    apply wp_X12_odds_42
    simp only [V.B.w, M.p16, M.p36, M.l64, M.l77, wi]
    rw [if_pos (by omega), q_comes _ _ _ _ T M i (c 64 a) i0 (by omega) va.2.1 (by omega)]
    dsimp only
    simp only [M.p16, M.l64]
    rw [q_comes _ _ _ _ T M i (c 64 b) i0 (by omega) vb.2.1 (by omega)]
    simp only [q_X12_areBeside, e68a, e68b, M.p36, M.l77]
    refine ⟨by decide, by decide, ⟨by decide, ha.1, by omega⟩, by decide, ⟨by decide, hb.1, by omega⟩, ?_⟩
    rcases bes01 (dg (bfs n g u 1 i) (c 64 a)) (dg (bfs n g u 1 i) (c 64 b)) with eb | eb
    · rw [eb, if_pos rfl, Int.add_zero, w64i (by omega) (by omega)]
      refine ih _ _ (by omega) (by omega) ?_
      rw [e2, oddF, eb, Int.mul_zero, Int.add_zero]
    · have e3 : y + c 77 i = sm (fun i => c 77 i * oddF (bfs n g u) (c 64 a) (c 64 b) i) (i + 1) := by rw [e2, oddF, eb, Int.mul_one]
      rw [eb, if_neg (by decide), e3, w64i (by omega) (by omega)]
      exact ⟨by decide, ⟨by decide, i0, by omega⟩, ih _ _ (by omega) (by omega) rfl⟩
theorem l_mslot (V : TV G c t T n m u q w x s ka ki g) (a b l k : Int) (ha : 0 ≤ a ∧ a < m) (k5 : k ≤ 5) (W : Wgh (bfs n g u 0 0) u (c T 2) (rto n g (bfs n g u)) (c 77) k.toNat 0) (h38 : c 62 38 = tw u k.toNat) (hP : P (frc (sm (fun i => c 77 i * slF (bfs n g u) (c 64 a) b i) (bfs n g u 0 0)) (tw u k.toNat) l) (G, mtr c 0)) : ∀ (j : Nat) (i y : Int), 0 ≤ i → i + j = bfs n g u 0 0 → y = sm (fun i => c 77 i * slF (bfs n g u) (c 64 a) b i) i → At (d + 3) mX12_slotOdds 57 [mR 18 62, mI a, mI b, MU, mI l, MU, mL y, MU, mI i] [] (G, c) (QL P) := by
  have b1 := V.M.b1; rw [V.v1] at b1
  have b3 := V.M.b3; rw [V.v3] at b3
  have b4 := V.M.b4; rw [V.v4] at b4
  have hw := (tv_bfs V).1.w
  have htw := tw_b b4.1 b4.2 (show k.toNat ≤ 5 by omega)
  have hf : ∀ i, 0 ≤ slF (bfs n g u) (c 64 a) b i ∧ slF (bfs n g u) (c 64 a) b i ≤ 1 := fun i => by unfold slF; split <;> decide
  have hp := W.p b4.1 b4.2 (by omega) 1 (by decide) hf
  have va := V.sv a ha.1 ha.2
  have M := V.M
  intro j
  induction j with
  | zero =>
    intro i y i0 hi e
    rw [show i = bfs n g u 0 0 by omega] at e
    have := hp (bfs n g u 0 0) (Int.le_refl _)
    apply wp_X12_slotOdds_57
    rw [V.B.w, if_neg (by omega), h38, e, q_fraction _ _ _ _ _ _ _ this.1 (by omega) (by omega) (by omega)]
    exact ⟨by decide, by decide, hP⟩
  | succ j ih =>
    intro i y i0 hi e
    have wi : w32 (i + 1) = i + 1 := w32i (by omega) (by omega)
    have h1 := hp i (by omega)
    have h2 := hp (i + 1) (by omega)
    have e2 : sm (fun i => c 77 i * slF (bfs n g u) (c 64 a) b i) (i + 1) = y + c 77 i * slF (bfs n g u) (c 64 a) b i := by rw [sm_succ _ i0, e]
    have e68a := V.B.e i (c 64 a) i0 (by omega) va.2.1 va.2.2
    apply wp_X12_slotOdds_57
    simp only [V.B.w, M.p16, M.p36, M.l64, M.l77, wi]
    rw [if_pos (by omega), q_comes _ _ _ _ T M i (c 64 a) i0 (by omega) va.2.1 (by omega)]
    simp only [e68a, M.p36, M.l77]
    refine ⟨by decide, by decide, ⟨by decide, ha.1, by omega⟩, ?_⟩
    by_cases eb : dg (bfs n g u 1 i) (c 64 a) = b
    · have e3 : y + c 77 i = sm (fun i => c 77 i * slF (bfs n g u) (c 64 a) b i) (i + 1) := by rw [e2, slF, if_pos eb, Int.mul_one]
      rw [if_pos eb, e3, w64i (by omega) (by omega)]
      exact ⟨by decide, ⟨by decide, i0, by omega⟩, ih _ _ (by omega) (by omega) rfl⟩
    · rw [if_neg eb, Int.add_zero, w64i (by omega) (by omega)]
      refine ih _ _ (by omega) (by omega) ?_
      rw [e2, slF, if_neg eb, Int.mul_zero, Int.add_zero]
/-- what both say of two: by states -/
theorem odd_eq (V : TV G c t T n m u q w x s ka ki g) {k l : Int} (k0 : 0 ≤ k) (k1 : k < n) (l0 : 0 ≤ l) (l1 : l < n) {wt pt : Int → Int} {r : Int} {j : Nat} (W : Wgh 64 u r (sto g) wt j (8 * k + l)) (W' : Wgh (bfs n g u 0 0) u r (rto n g (bfs n g u)) pt j 0) : bsm wt (n - 1) = sm (fun i => pt i * oddF (bfs n g u) k l i) (bfs n g u 0 0) := by
  have b1 := V.M.b1; rw [V.v1] at b1
  rw [← bsm_eq wt (by omega), W.2, W'.2]
  refine (wk_phi V k0 k1 l0 l1 r j _ _ (fun i i0 i1 => ?_)).symm
  have hp := ((tv_bfs V).1.2.1 i i0 i1).1
  have d1 := hp.rg k k0 k1
  have d2 := hp.rg l l0 l1
  unfold oddF phi
  rw [bsF_eq b1.1 b1.2 d1.1 d1.2 d2.1 d2.2]
theorem slot_eq (V : TV G c t T n m u q w x s ka ki g) {k y : Int} (k0 : 0 ≤ k) (k1 : k < n) (y0 : 0 ≤ y) (y1 : y < 6) {wt pt : Int → Int} {r : Int} {j : Nat} (W : Wgh 64 u r (sto g) wt j (8 * k + k)) (W' : Wgh (bfs n g u 0 0) u r (rto n g (bfs n g u)) pt j 0) : wt (9 * y) = sm (fun i => pt i * slF (bfs n g u) k y i) (bfs n g u 0 0) := by
  rw [← sm_dl wt (r := 9 * y) (n := 64) (by omega) (by omega), W.2, W'.2]
  refine (wk_phi V k0 k1 k0 k1 r j _ _ (fun i i0 i1 => ?_)).symm
  unfold slF phi
  by_cases e : dg (bfs n g u 1 i) k = y
  · rw [if_pos e, if_pos (by omega)]
  · rw [if_neg e, if_neg (by omega)]
end
theorem k_odds (d : Nat) (G : MG) (c : MC) (a b k l : Int) (H : IV G c) : EvL (d + 40) mX10_odds [mR 16 0, mI a, mI b, mI k, mI l] (G, c) (fun r1 ν1 => EvL (d + 40) mX12_odds [mR 18 62, mI a, mI b, mI k, mI l] (ν1.1, ν1.2) (fun r2 ν2 => K2 G r1 r2 ν2)) := by
  obtain ⟨hr, t, z, S, V⟩ := H
  have H0 : IV0 G c := ⟨t, z, S, V⟩
  rcases V with V | ⟨T, n, m, u, q, w, x, s, ka, ki, g, V⟩
  · have I := S.ciN V
    have e1 := V.e1; have e3 := V.e3; have e4 := V.e4; have N := V.T
    have N1 : ∀ wy, up (up c 0 6 wy) 62 0 0 62 3 = -1 := fun wy => by rw [up_nj (by decide), up_na (by decide)]; exact N
    refine ev_X10_odds (d + 39) _ G c 0 a b k l (by decide) ?_
    simp only [z_isTube _ _ _ _ t I e1, z_isPerson _ _ _ _ t I _ e3, z_isSlot _ _ _ _ t I _ e1, z_isTurn _ _ _ _ t I _ e4, z_areTwo _ _ _ _ t I _ _ e3, z_isPlace _ _ _ _ t I _ e1, ↓reduceIte, q_refused]
    refine ev_X12_odds (d + 39) _ G _ 62 a b k l (by decide) ⟨by decide, ?_⟩
    rintro _ rfl
    simp only [q_shk, Int.reduceLT, q_nisSlot _ _ _ _ (N1 _), q_nisPerson _ _ _ _ (N1 _), q_nisTurn _ _ _ _ (N1 _), q_nareTwo _ _ _ _ (N1 _), q_nisPlace _ _ _ _ (N1 _), N1, ↓reduceIte, q_mrefused, Int.reduceNeg, Int.reduceLT, Int.reduceLE, true_and]
    exact ⟨rfl, rfl, IV.q H0 (by decide) (agr_0 _)⟩
  · have I := S.ciT V
    have M := V.M; have hT := M.T; have ht := V.t
    have v1 := V.v1; have v3 := V.v3; have v4 := V.v4; have e0 := V.e0; have e1 := V.e1; have e3 := V.e3; have e4 := V.e4; have e5 := V.e5
    have b0 := M.b0; have b1 := M.b1; have b3 := M.b3; have b4 := M.b4
    rw [v1] at b1; rw [v3] at b3; rw [v4] at b4
    have hnp : 0 < n := by omega
    have hTn : ¬ T < 0 := by omega
    have M1 : ∀ wy, MDs G (up (up c 0 6 wy) 62 0 0) T := fun wy => (M.ki ki_up7).agr (agr_0 _)
    have r64 : ∀ wy, up (up c 0 6 wy) 62 0 0 64 = c 64 := fun wy => by funext j; rw [up_na (by decide), up_na (by decide)]
    have rT : ∀ wy k, up (up c 0 6 wy) 62 0 0 T k = c T k := fun wy k => by rw [up_na (by omega), up_na (by omega)]
    have rTT : ∀ wy (a : Int), 0 ≤ a → up (up c 0 6 wy) 62 0 0 (T + a) = c (T + a) := fun wy a ha => by funext j; rw [up_na (by omega), up_na (by omega)]
    have rS : ∀ wy a b, sld (up (up c 0 6 wy) 62 0 0) T a b = sld c T a b := fun wy a b => sld_eq (fun a j q => by rw [up_na (by omega), up_na (by omega)]) hT
    have hS : ∀ a b, 0 ≤ a → a < u → 0 ≤ b → b < n → sld c T a b = dg (g a) b := fun a b h1 h2 h3 h4 => by unfold sld; rw [v4, if_pos h2]; exact V.tk a b h1 h2 h3 h4
    have V1 : ∀ wy, TV G (up (up c 0 6 wy) 62 0 0) t T n m u q w x s ka ki g := fun wy => (V.kp ki_up7).kp (ki_agr (agr_0 _))
    skip
    refine ev_X10_odds (d + 39) _ G c 0 a b k l (by decide) ?_
    simp only [ne_eq, not_false_eq_true, q_isTube _ _ _ _ t I, q_isPerson _ _ _ _ t I, q_isSlot _ _ _ _ t I, q_isTurn _ _ _ _ t I, q_areTwo _ _ _ _ t I, q_isPlace _ _ _ _ t I, e0, e1, e3, e4, hnp, ↓reduceIte]
    by_cases h1 : (0 ≤ a ∧ a < m) ∧ (0 ≤ b ∧ b < m) ∧ a ≠ b
    · by_cases h2 : 0 ≤ k ∧ k ≤ 5
      · have h2a : ¬ k < 0 := by omega
        have h2b : ¬ 5 < k := by omega
        simp only [h1, h2, h2a, h2b, and_self, ne_eq, not_false_eq_true, ↓reduceIte, I.p6, I.p0, q_slotOf _ _ _ _ t I]
        refine ⟨by decide, by decide, ?_⟩
        have va := V.sv a h1.1.1 h1.1.2
        have vb := V.sv b h1.2.1.1 h1.2.1.2
        rw [va.1, vb.1]
        refine f_spread (d + 36) _ V S (c 64 a) (c 64 b) k va.2.1 (by omega) vb.2.1 (by omega) h2.1 h2.2 (fun c' O W hn => ?_)
        have V' := V.kp O.ki
        have S' := S.kp O.ki
        have I' := S'.ciT V'
        have hwb := W.b b4.1 b4.2 (show k.toNat ≤ 5 by omega)
        have htw := tw_b b4.1 b4.2 (show k.toNat ≤ 5 by omega)
        have hbb := bsm_b hwb (n - 1) (by omega) (by omega)
        have hbm := ml2 (a := 2 * tw u k.toNat) (b := n - 1) (A := 2 * 2430000000000) (B := 6) (by omega) (by omega) (by omega) (by omega)
        have hsw : shw c' t k = tw u k.toNat := by unfold shw; rw [V'.e4]; exact shw_tw b4.1 b4.2 _ (by omega)
        simp only [S'.p6, I'.p0, q_bw _ _ S' (tw u k.toNat) htw.2 hwb b1.1 b1.2 hn, q_shakeWeight _ _ _ _ t k I'.H h2.1 (by omega), hsw, q_lowest _ _ _ _ _ _ _ hbb.1 (show bsm (c' 60) (n - 1) < 4611686018427387904 by omega) (show 0 < tw u k.toNat by omega) (show tw u k.toNat < 8796093022208 by omega), q_fineLong]
        refine ⟨by decide, by decide, ?_⟩
        have V2 : TV G (up (up c' 0 6 0) 62 0 0) t T n m u q w x s ka ki g := (V'.kp ki_up7).kp (ki_agr (agr_0 _))
        have M2 := V2.M
        have H2 : IV0 G c' := H0.kp O.ki
        have hT2 : ∀ j, up (up c' 0 6 0) 62 0 0 T j = c T j := fun j => by rw [up_na (by omega), up_na (by omega), O T j (by omega) (by omega) (by omega)]
        have h64 : ∀ j, up (up c' 0 6 0) 62 0 0 64 j = c 64 j := fun j => by rw [up_na (by decide), up_na (by decide), O 64 j (by omega) (by omega) (by omega)]
        refine ev_X12_odds (d + 39) _ G _ 62 a b k l (by decide) ⟨by decide, ?_⟩
        rintro _ rfl
        simp only [q_mareTwo _ _ _ _ T M2, hT2, v3, h1, h2, and_self, ↓reduceIte, q_shk, ne_eq, not_false_eq_true, Int.reduceEq, Int.lt_irrefl]
        refine f_spreadsOut (d + 36) _ V2 k h2.1 h2.2 (fun c3 A W2 h38 => ?_)
        have e64 : ∀ j, c3 64 j = c 64 j := fun j => by rw [A 64 j (by unfold scr; omega)]; exact h64 j
        have e2 : c3 T 2 = up (up c' 0 6 0) 62 0 0 T 2 := A T 2 (by unfold scr; omega)
        refine l_modds (d + 37) _ (V2.kp (ki_agr A)) a b l k h1.1 h1.2.1 h2.2 (by rw [e2]; exact W2) h38 ?_ (bfs n g u 0 0).toNat 0 0 (by decide) (by have := (tv_bfs V).1.w; omega) (by rw [sm_z _ (by decide)])
        rw [e64, e64, odd_eq V va.2.1 va.2.2 vb.2.1 vb.2.2 W (by rw [hT2] at W2; exact W2)]
        exact ⟨rfl, rfl, IV.q H2 (by decide) ((agr_0 _).tr A)⟩
      · rcases (show k < 0 ∨ (¬ k < 0 ∧ 5 < k) by omega) with hc | hc
        · simp only [h1, h2, hc, ne_eq, not_false_eq_true, and_self, ↓reduceIte, q_refused]
          refine ev_X12_odds (d + 39) _ G _ 62 a b k l (by decide) ⟨by decide, ?_⟩
          rintro _ rfl
          simp only [ne_eq, not_false_eq_true, q_shk, Int.reduceLT, Int.reduceEq, q_misSlot _ _ _ _ T (M1 _), q_misPerson _ _ _ _ T (M1 _), q_misTurn _ _ _ _ T (M1 _), q_mareTwo _ _ _ _ T (M1 _), q_misPlace _ _ _ _ T (M1 _), (M1 _).p3, hTn, rT, v1, v3, v4, ↓reduceIte, Int.reduceLE, true_and, h1, h2, hc, q_min, and_self, ↓reduceIte, q_mrefused, Int.reduceLT]
          exact ⟨rfl, rfl, IV.q H0 (by decide) (agr_0 _)⟩
        · simp only [h1, h2, hc, ne_eq, not_false_eq_true, and_self, ↓reduceIte, q_refused]
          refine ev_X12_odds (d + 39) _ G _ 62 a b k l (by decide) ⟨by decide, ?_⟩
          rintro _ rfl
          simp only [ne_eq, not_false_eq_true, q_shk, Int.reduceLT, Int.reduceEq, q_misSlot _ _ _ _ T (M1 _), q_misPerson _ _ _ _ T (M1 _), q_misTurn _ _ _ _ T (M1 _), q_mareTwo _ _ _ _ T (M1 _), q_misPlace _ _ _ _ T (M1 _), (M1 _).p3, hTn, rT, v1, v3, v4, ↓reduceIte, Int.reduceLE, true_and, h1, h2, hc, q_min, and_self, ↓reduceIte, q_mrefused, Int.reduceLT]
          exact ⟨rfl, rfl, IV.q H0 (by decide) (agr_0 _)⟩
    · simp only [h1, ne_eq, not_false_eq_true, and_self, ↓reduceIte, q_refused]
      refine ev_X12_odds (d + 39) _ G _ 62 a b k l (by decide) ⟨by decide, ?_⟩
      rintro _ rfl
      simp only [ne_eq, not_false_eq_true, q_shk, Int.reduceLT, Int.reduceEq, q_misSlot _ _ _ _ T (M1 _), q_misPerson _ _ _ _ T (M1 _), q_misTurn _ _ _ _ T (M1 _), q_mareTwo _ _ _ _ T (M1 _), q_misPlace _ _ _ _ T (M1 _), (M1 _).p3, hTn, rT, v1, v3, v4, ↓reduceIte, Int.reduceLE, true_and, h1, and_self, ↓reduceIte, q_mrefused]
      exact ⟨rfl, rfl, IV.q H0 (by decide) (agr_0 _)⟩
theorem k_slotOdds (d : Nat) (G : MG) (c : MC) (a b k l : Int) (H : IV G c) : EvL (d + 40) mX10_slotOdds [mR 16 0, mI a, mI b, mI k, mI l] (G, c) (fun r1 ν1 => EvL (d + 40) mX12_slotOdds [mR 18 62, mI a, mI b, mI k, mI l] (ν1.1, ν1.2) (fun r2 ν2 => K2 G r1 r2 ν2)) := by
  obtain ⟨hr, t, z, S, V⟩ := H
  have H0 : IV0 G c := ⟨t, z, S, V⟩
  rcases V with V | ⟨T, n, m, u, q, w, x, s, ka, ki, g, V⟩
  · have I := S.ciN V
    have e1 := V.e1; have e3 := V.e3; have e4 := V.e4; have N := V.T
    have N1 : ∀ wy, up (up c 0 6 wy) 62 0 0 62 3 = -1 := fun wy => by rw [up_nj (by decide), up_na (by decide)]; exact N
    refine ev_X10_slotOdds (d + 39) _ G c 0 a b k l (by decide) ?_
    simp only [z_isTube _ _ _ _ t I e1, z_isPerson _ _ _ _ t I _ e3, z_isSlot _ _ _ _ t I _ e1, z_isTurn _ _ _ _ t I _ e4, z_areTwo _ _ _ _ t I _ _ e3, z_isPlace _ _ _ _ t I _ e1, ↓reduceIte, q_refused]
    refine ev_X12_slotOdds (d + 39) _ G _ 62 a b k l (by decide) ⟨by decide, ?_⟩
    rintro _ rfl
    simp only [q_shk, Int.reduceLT, q_nisSlot _ _ _ _ (N1 _), q_nisPerson _ _ _ _ (N1 _), q_nisTurn _ _ _ _ (N1 _), q_nareTwo _ _ _ _ (N1 _), q_nisPlace _ _ _ _ (N1 _), N1, ↓reduceIte, q_mrefused, Int.reduceNeg, Int.reduceLT, Int.reduceLE, true_and]
    exact ⟨rfl, rfl, IV.q H0 (by decide) (agr_0 _)⟩
  · have I := S.ciT V
    have M := V.M; have hT := M.T; have ht := V.t
    have v1 := V.v1; have v3 := V.v3; have v4 := V.v4; have e0 := V.e0; have e1 := V.e1; have e3 := V.e3; have e4 := V.e4; have e5 := V.e5
    have b0 := M.b0; have b1 := M.b1; have b3 := M.b3; have b4 := M.b4
    rw [v1] at b1; rw [v3] at b3; rw [v4] at b4
    have hnp : 0 < n := by omega
    have hTn : ¬ T < 0 := by omega
    have M1 : ∀ wy, MDs G (up (up c 0 6 wy) 62 0 0) T := fun wy => (M.ki ki_up7).agr (agr_0 _)
    have r64 : ∀ wy, up (up c 0 6 wy) 62 0 0 64 = c 64 := fun wy => by funext j; rw [up_na (by decide), up_na (by decide)]
    have rT : ∀ wy k, up (up c 0 6 wy) 62 0 0 T k = c T k := fun wy k => by rw [up_na (by omega), up_na (by omega)]
    have rTT : ∀ wy (a : Int), 0 ≤ a → up (up c 0 6 wy) 62 0 0 (T + a) = c (T + a) := fun wy a ha => by funext j; rw [up_na (by omega), up_na (by omega)]
    have rS : ∀ wy a b, sld (up (up c 0 6 wy) 62 0 0) T a b = sld c T a b := fun wy a b => sld_eq (fun a j q => by rw [up_na (by omega), up_na (by omega)]) hT
    have hS : ∀ a b, 0 ≤ a → a < u → 0 ≤ b → b < n → sld c T a b = dg (g a) b := fun a b h1 h2 h3 h4 => by unfold sld; rw [v4, if_pos h2]; exact V.tk a b h1 h2 h3 h4
    have V1 : ∀ wy, TV G (up (up c 0 6 wy) 62 0 0) t T n m u q w x s ka ki g := fun wy => (V.kp ki_up7).kp (ki_agr (agr_0 _))
    skip
    refine ev_X10_slotOdds (d + 39) _ G c 0 a b k l (by decide) ?_
    simp only [q_isTube _ _ _ _ t I, q_isPerson _ _ _ _ t I, q_isSlot _ _ _ _ t I, q_isTurn _ _ _ _ t I, q_areTwo _ _ _ _ t I, q_isPlace _ _ _ _ t I, e0, e1, e3, e4, hnp, ↓reduceIte]
    by_cases h1 : 0 ≤ a ∧ a < m
    · by_cases h2 : 0 ≤ b ∧ b < n
      · by_cases h3 : 0 ≤ k ∧ k ≤ 5
        · have h3a : ¬ k < 0 := by omega
          have h3b : ¬ 5 < k := by omega
          simp only [h1, h2, h3, h3a, h3b, and_self, ↓reduceIte, I.p6, I.p0, q_slotOf _ _ _ _ t I]
          refine ⟨by decide, by decide, ?_⟩
          have va := V.sv a h1.1 h1.2
          rw [va.1]
          refine f_spread (d + 36) _ V S (c 64 a) (c 64 a) k va.2.1 (by omega) va.2.1 (by omega) h3.1 h3.2 (fun c' O W hn => ?_)
          have V' := V.kp O.ki
          have S' := S.kp O.ki
          have I' := S'.ciT V'
          have hwb := W.b b4.1 b4.2 (show k.toNat ≤ 5 by omega)
          have htw := tw_b b4.1 b4.2 (show k.toNat ≤ 5 by omega)
          have hbb := bsm_b hwb (n - 1) (by omega) (by omega)
          have hbm := ml2 (a := 2 * tw u k.toNat) (b := n - 1) (A := 2 * 2430000000000) (B := 6) (by omega) (by omega) (by omega) (by omega)
          have hsw : shw c' t k = tw u k.toNat := by unfold shw; rw [V'.e4]; exact shw_tw b4.1 b4.2 _ (by omega)
          have h9 := hwb (9 * b) (by omega) (by omega)
          simp only [S'.p6, I'.p0, q_wi _ _ S' h2.1 (show b < 6 by omega), q_shakeWeight _ _ _ _ t k I'.H h3.1 (by omega), hsw, q_lowest _ _ _ _ _ _ _ h9.1 (show c' 60 (9 * b) < 4611686018427387904 by omega) (show 0 < tw u k.toNat by omega) (show tw u k.toNat < 8796093022208 by omega), q_fineLong]
          refine ⟨by decide, by decide, ?_⟩
          have V2 : TV G (up (up c' 0 6 0) 62 0 0) t T n m u q w x s ka ki g := (V'.kp ki_up7).kp (ki_agr (agr_0 _))
          have M2 := V2.M
          have H2 : IV0 G c' := H0.kp O.ki
          have hT2 : ∀ j, up (up c' 0 6 0) 62 0 0 T j = c T j := fun j => by rw [up_na (by omega), up_na (by omega), O T j (by omega) (by omega) (by omega)]
          have h64 : ∀ j, up (up c' 0 6 0) 62 0 0 64 j = c 64 j := fun j => by rw [up_na (by decide), up_na (by decide), O 64 j (by omega) (by omega) (by omega)]
          refine ev_X12_slotOdds (d + 39) _ G _ 62 a b k l (by decide) ⟨by decide, ?_⟩
          rintro _ rfl
          simp only [q_misPerson _ _ _ _ T M2, q_misSlot _ _ _ _ T M2, hT2, v1, v3, h1, h2, h3, and_self, ↓reduceIte, q_shk, Int.reduceEq, Int.lt_irrefl]
          refine f_spreadsOut (d + 36) _ V2 k h3.1 h3.2 (fun c3 A W2 h38 => ?_)
          have e64 : ∀ j, c3 64 j = c 64 j := fun j => by rw [A 64 j (by unfold scr; omega)]; exact h64 j
          have e2 : c3 T 2 = up (up c' 0 6 0) 62 0 0 T 2 := A T 2 (by unfold scr; omega)
          refine l_mslot (d + 37) _ (V2.kp (ki_agr A)) a b l k h1 h3.2 (by rw [e2]; exact W2) h38 ?_ (bfs n g u 0 0).toNat 0 0 (by decide) (by have := (tv_bfs V).1.w; omega) (by rw [sm_z _ (by decide)])
          rw [e64, slot_eq V va.2.1 va.2.2 h2.1 (by omega) W (by rw [hT2] at W2; exact W2)]
          exact ⟨rfl, rfl, IV.q H2 (by decide) ((agr_0 _).tr A)⟩
        · rcases (show k < 0 ∨ (¬ k < 0 ∧ 5 < k) by omega) with hc | hc
          · simp only [h1, h2, h3, hc, and_self, ↓reduceIte, q_refused]
            refine ev_X12_slotOdds (d + 39) _ G _ 62 a b k l (by decide) ⟨by decide, ?_⟩
            rintro _ rfl
            simp only [q_shk, Int.reduceLT, Int.reduceEq, q_misSlot _ _ _ _ T (M1 _), q_misPerson _ _ _ _ T (M1 _), q_misTurn _ _ _ _ T (M1 _), q_mareTwo _ _ _ _ T (M1 _), q_misPlace _ _ _ _ T (M1 _), (M1 _).p3, hTn, rT, v1, v3, v4, ↓reduceIte, Int.reduceLE, true_and, h1, h2, h3, hc, q_min, and_self, ↓reduceIte, q_mrefused, Int.reduceLT]
            exact ⟨rfl, rfl, IV.q H0 (by decide) (agr_0 _)⟩
          · simp only [h1, h2, h3, hc, and_self, ↓reduceIte, q_refused]
            refine ev_X12_slotOdds (d + 39) _ G _ 62 a b k l (by decide) ⟨by decide, ?_⟩
            rintro _ rfl
            simp only [q_shk, Int.reduceLT, Int.reduceEq, q_misSlot _ _ _ _ T (M1 _), q_misPerson _ _ _ _ T (M1 _), q_misTurn _ _ _ _ T (M1 _), q_mareTwo _ _ _ _ T (M1 _), q_misPlace _ _ _ _ T (M1 _), (M1 _).p3, hTn, rT, v1, v3, v4, ↓reduceIte, Int.reduceLE, true_and, h1, h2, h3, hc, q_min, and_self, ↓reduceIte, q_mrefused, Int.reduceLT]
            exact ⟨rfl, rfl, IV.q H0 (by decide) (agr_0 _)⟩
      · simp only [h1, h2, and_self, ↓reduceIte, q_refused]
        refine ev_X12_slotOdds (d + 39) _ G _ 62 a b k l (by decide) ⟨by decide, ?_⟩
        rintro _ rfl
        simp only [q_shk, Int.reduceLT, Int.reduceEq, q_misSlot _ _ _ _ T (M1 _), q_misPerson _ _ _ _ T (M1 _), q_misTurn _ _ _ _ T (M1 _), q_mareTwo _ _ _ _ T (M1 _), q_misPlace _ _ _ _ T (M1 _), (M1 _).p3, hTn, rT, v1, v3, v4, ↓reduceIte, Int.reduceLE, true_and, h1, h2, and_self, ↓reduceIte, q_mrefused]
        exact ⟨rfl, rfl, IV.q H0 (by decide) (agr_0 _)⟩
    · simp only [h1, and_self, ↓reduceIte, q_refused]
      refine ev_X12_slotOdds (d + 39) _ G _ 62 a b k l (by decide) ⟨by decide, ?_⟩
      rintro _ rfl
      simp only [q_shk, Int.reduceLT, Int.reduceEq, q_misSlot _ _ _ _ T (M1 _), q_misPerson _ _ _ _ T (M1 _), q_misTurn _ _ _ _ T (M1 _), q_mareTwo _ _ _ _ T (M1 _), q_misPlace _ _ _ _ T (M1 _), (M1 _).p3, hTn, rT, v1, v3, v4, ↓reduceIte, Int.reduceLE, true_and, h1, and_self, ↓reduceIte, q_mrefused]
      exact ⟨rfl, rfl, IV.q H0 (by decide) (agr_0 _)⟩
section
variable (d : Nat) (P : Int → MM → Prop) (P0 : MM → Prop) {G : MG} {c : MC} {t T n m u q w x s ka ki z : Int} {g : Int → Int}
def meF (S c : MC) (t q i : Int) : Int := sm (fun j => oddF S (c 64 (c (t + 6 + 1) j)) (c 64 (c (t + 6 + 2) j)) i) q
theorem cnt_sme (f : Int → Int) (h : ∀ j, f j = 0 ∨ f j = 1) : ∀ q, 0 ≤ q → cnt (fun j => decide (f j ≠ 0)) q = sm f q := by
  apply sm_nat
  · rw [sm_z _ (by decide)]; rfl
  · intro k k0 ih
    rw [cnt_succ _ k0, sm_succ _ k0, ih]
    rcases h k with e | e <;> rw [e] <;> rfl
theorem meF_rg (q0 : 0 ≤ q) (q6 : q ≤ 6) (S : MC) (i : Int) : 0 ≤ meF S c t q i ∧ meF S c t q i ≤ 6 := by
  have h01 : ∀ j, 0 ≤ oddF S (c 64 (c (t + 6 + 1) j)) (c 64 (c (t + 6 + 2) j)) i ∧ oddF S (c 64 (c (t + 6 + 1) j)) (c 64 (c (t + 6 + 2) j)) i ≤ 1 := fun j => by unfold oddF; rcases bes01 (dg (S 1 i) (c 64 (c (t + 6 + 1) j))) (dg (S 1 i) (c 64 (c (t + 6 + 2) j))) with e | e <;> rw [e] <;> decide
  unfold meF
  have h1 := sm_nn (f := fun j => oddF S (c 64 (c (t + 6 + 1) j)) (c 64 (c (t + 6 + 2) j)) i) q (fun j _ _ => (h01 j).1)
  have h2 := sm_le (f := fun j => oddF S (c 64 (c (t + 6 + 1) j)) (c 64 (c (t + 6 + 2) j)) i) (f' := fun _ => 1) q (fun j _ _ => (h01 j).2)
  rw [sm_kst _ _ q0] at h2
  omega
theorem l_mmean (V : TV G c t T n m u q w x s ka ki g) (l k : Int) (k5 : k ≤ 5) (W : Wgh (bfs n g u 0 0) u (c T 2) (rto n g (bfs n g u)) (c 77) k.toNat 0) (h38 : c 62 38 = tw u k.toNat) (hP : ∀ c', Agr c c' → P (frc (sm (fun i => c 77 i * meF (bfs n g u) c t q i) (bfs n g u 0 0)) (tw u k.toNat) l) (G, mtr c' 0)) : ∀ (j : Nat) (i y : Int) (c0 : MC), 0 ≤ i → i + j = bfs n g u 0 0 → y = sm (fun i => c 77 i * meF (bfs n g u) c t q i) i → Agr c c0 → (∀ p, c0 77 p = c 77 p) → c0 62 38 = c 62 38 → At (d + 4) mX12_mean 45 [mR 18 62, MU, mI l, MU, mL y, MU, mI i] [] (G, c0) (QL P) := by
  have b1 := V.M.b1; rw [V.v1] at b1
  have b3 := V.M.b3; rw [V.v3] at b3
  have b4 := V.M.b4; rw [V.v4] at b4
  have b5 := V.M.b5; rw [V.v5] at b5
  have ht := V.t
  have hT := V.M.T
  have hw := (tv_bfs V).1.w
  have htw := tw_b b4.1 b4.2 (show k.toNat ≤ 5 by omega)
  have hf : ∀ i, 0 ≤ meF (bfs n g u) c t q i ∧ meF (bfs n g u) c t q i ≤ 6 := fun i => meF_rg b5.1 b5.2 _ i
  have hp := W.p b4.1 b4.2 (by omega) 6 (by decide) hf
  intro j
  induction j with
  | zero =>
    intro i y c0 i0 hi e A h77 h38'
    have V0 := V.kp (ki_agr A)
    rw [show i = bfs n g u 0 0 by omega] at e
    have := hp (bfs n g u 0 0) (Int.le_refl _)
    apply wp_X12_mean_45
    rw [V0.B.w, if_neg (by omega), h38', h38, e, q_fraction _ _ _ _ _ _ _ this.1 (by omega) (by omega) (by omega)]
    exact ⟨by decide, by decide, hP c0 A⟩
  | succ j ih =>
    intro i y c0 i0 hi e A h77 h38'
    have V0 := V.kp (ki_agr A)
    have wi : w32 (i + 1) = i + 1 := w32i (by omega) (by omega)
    have h1 := hp i (by omega)
    have h2 := hp (i + 1) (by omega)
    have hc := W.b b4.1 b4.2 (by omega) i i0 (by omega)
    have hm := hf i
    have hcm := ml2 hc.1 hc.2 hm.1 hm.2
    have e2 : sm (fun i => c 77 i * meF (bfs n g u) c t q i) (i + 1) = y + c 77 i * meF (bfs n g u) c t q i := by rw [sm_succ _ i0, e]
    have A1 : Agr c0 (wr c0 65 0 m (fun p => c0 68 (6 * i + c0 64 p))) := Agr.rf.w (by intro j; unfold scr; omega)
    have V1 := V0.kp (ki_agr A1)
    have e64 : ∀ p, c0 64 p = c 64 p := fun p => A 64 p (by unfold scr; omega)
    have eqn : qrl (wr c0 65 0 m (fun p => c0 68 (6 * i + c0 64 p)) 65) (wr c0 65 0 m (fun p => c0 68 (6 * i + c0 64 p)) (T + 3)) m = meF (bfs n g u) c t q i := by
      rw [tv_qrl V1, meF, ← cnt_sme (fun j => oddF (bfs n g u) (c 64 (c (t + 6 + 1) j)) (c 64 (c (t + 6 + 2) j)) i) (fun j => by unfold oddF; exact bes01 _ _) q b5.1]
      apply cnt_congr
      intro r r0 r1
      have hq := V.qu r r0 (by omega)
      have ha := V.sv _ hq.1.1 hq.1.2
      have hb := V.sv _ hq.2.1.1 hq.2.1.2
      rw [wr_ne (show t + 6 + 1 ≠ 65 by omega), wr_ne (show t + 6 + 2 ≠ 65 by omega), A (t + 6 + 1) r (by unfold scr; omega), A (t + 6 + 2) r (by unfold scr; omega), wr_in hq.1.1 (by omega), wr_in hq.2.1.1 (by omega), e64, e64, V0.B.e i _ i0 (by omega) ha.2.1 ha.2.2, V0.B.e i _ i0 (by omega) hb.2.1 hb.2.2]
      rfl
    apply wp_X12_mean_45
    rw [V0.B.w, if_pos (by omega), q_goesBy _ _ _ _ T V0.M (fun p a b => by rw [V0.v3] at b; have := V0.sv p a b; omega) i i0 (by omega), V0.v3]
    dsimp only
    rw [q_quarrelsNow _ _ _ _ T V1.M (fun p a b => by rw [V1.v3] at *; have := V1.foeb (wr c0 65 0 m (fun p => c0 68 (6 * i + c0 64 p)) 65) p a b; omega), V1.v3, eqn]
    simp only [V1.M.p36, V.M.l77, wr_ne (show (77 : Int) ≠ 65 by decide), h77, wi, w64i (show -9223372036854775808 ≤ c 77 i * meF (bfs n g u) c t q i by omega) (show c 77 i * meF (bfs n g u) c t q i < 9223372036854775808 by omega), ← e2, w64i (show -9223372036854775808 ≤ sm (fun i => c 77 i * meF (bfs n g u) c t q i) (i + 1) by omega) (show sm (fun i => c 77 i * meF (bfs n g u) c t q i) (i + 1) < 9223372036854775808 by omega)]
    refine ⟨by decide, by decide, ⟨by decide, i0, by omega⟩, ?_⟩
    exact ih _ _ _ (by omega) (by omega) rfl (A.tr A1) (fun p => by rw [wr_ne (by decide)]; exact h77 p) (by rw [wr_ne (by decide)]; exact h38')
def meC (c : MC) (n u r t : Int) (g : Int → Int) (k : Nat) (j : Int) : Int := wkF (sto g) u r k (bsF (n - 1)) (8 * c 64 (c (t + 6 + 1) j) + c 64 (c (t + 6 + 2) j))
theorem l_cmean (V : TV G c t T n m u q w x s ka ki g) (S : SH G c t z) (l k : Int) (k0 : 0 ≤ k) (k5 : k ≤ 5) (hP : ∀ c', Of c c' → (0 ≤ sm (meC c n u (c T 2) t g k.toNat) q ∧ sm (meC c n u (c T 2) t g k.toNat) q < 4611686018427387904) → P (frc (sm (meC c n u (c T 2) t g k.toNat) q) (tw u k.toNat) l) (G, up c' 0 6 0)) : ∀ (j : Nat) (i y : Int) (c0 : MC), 0 ≤ i → i + j = q → y = sm (meC c n u (c T 2) t g k.toNat) i → (0 ≤ y ∧ y ≤ 29160000000000 * i) → Of c c0 → At (d + 4) mX10_mean 35 [mR 16 0, mI k, mI l, mL y, MU, mI i] [] (G, c0) (QL P) := by
  have b1 := V.M.b1; rw [V.v1] at b1
  have b3 := V.M.b3; rw [V.v3] at b3
  have b4 := V.M.b4; rw [V.v4] at b4
  have b5 := V.M.b5; rw [V.v5] at b5
  have ht := V.t
  have hT := V.M.T
  have htw := tw_b b4.1 b4.2 (show k.toNat ≤ 5 by omega)
  intro j
  induction j with
  | zero =>
    intro i y c0 i0 hi e hy O
    have V0 := V.kp O.ki
    have S0 := S.kp O.ki
    have I0 := S0.ciT V0
    have hsw : shw c0 t k = tw u k.toNat := by unfold shw; rw [V0.e4]; exact shw_tw b4.1 b4.2 _ (by omega)
    rw [show i = q by omega] at e hy
    apply wp_X10_mean_35
    simp only [I0.p0, I0.H.p11, V0.eq]
    rw [if_neg (by omega), q_shakeWeight _ _ _ _ t k I0.H k0 (by omega), hsw]
    dsimp only
    rw [q_lowest _ _ _ _ _ _ _ hy.1 (by omega) (by omega) (by omega)]
    dsimp only
    rw [q_fineLong, e]
    exact ⟨by decide, by omega, by omega, by decide, hP c0 O ⟨by omega, by omega⟩⟩
  | succ j ih =>
    intro i y c0 i0 hi e hy O
    have V0 := V.kp O.ki
    have S0 := S.kp O.ki
    have I0 := S0.ciT V0
    have wi : w32 (i + 1) = i + 1 := w32i (by omega) (by omega)
    have hq := V0.qu i i0 (by omega)
    have ha := V0.sv _ hq.1.1 hq.1.2
    have hb := V0.sv _ hq.2.1.1 hq.2.1.2
    have e1 : c0 (t + 6 + 1) i = c (t + 6 + 1) i := O _ _ (by omega) (by omega) (by omega)
    have e2 : c0 (t + 6 + 2) i = c (t + 6 + 2) i := O _ _ (by omega) (by omega) (by omega)
    have e64 : ∀ p, c0 64 p = c 64 p := fun p => O 64 p (by omega) (by omega) (by omega)
    have eT : c0 T 2 = c T 2 := O T 2 (by omega) (by omega) (by omega)
    apply wp_X10_mean_35
    simp only [I0.p0, I0.p6, I0.H.p11, V0.eq, I0.H.q.f0, I0.H.q.g1, wi]
    rw [if_pos (by omega), q_slotOf _ _ _ _ t I0]
    dsimp only
    simp only [I0.p0, I0.H.p11, I0.H.q.f1, I0.H.q.g2]
    rw [q_slotOf _ _ _ _ t I0]
    dsimp only
    rw [ha.1, hb.1]
    refine ⟨by decide, by omega, by omega, by decide, by decide, by decide, by omega, by omega, ⟨by omega, i0, by omega⟩, by decide, by omega, by omega, ⟨by omega, i0, by omega⟩, ?_⟩
    refine f_spread (d + 0) _ V0 S0 _ _ k ha.2.1 (by omega) hb.2.1 (by omega) k0 k5 (fun c' O' W hn => ?_)
    have S' := S0.kp O'.ki
    have hwb := W.b b4.1 b4.2 (show k.toNat ≤ 5 by omega)
    have hbb := bsm_b hwb (n - 1) (by omega) (by omega)
    have hbm := ml2 (a := 2 * tw u k.toNat) (b := n - 1) (A := 2 * 2430000000000) (B := 6) (by omega) (by omega) (by omega) (by omega)
    have em : bsm (c' 60) (n - 1) = meC c n u (c T 2) t g k.toNat i := by
      rw [← bsm_eq _ (by omega), W.2]
      unfold meC
      rw [eT, e64, e64, e1, e2]
    dsimp only
    rw [S'.p6, q_bw (d + 1) _ S' (tw u k.toNat) htw.2 hwb b1.1 b1.2 hn, em, w64i (by omega) (by omega)]
    refine ⟨by decide, ?_⟩
    refine ih _ _ _ (by omega) (by omega) ?_ (by omega) (fun a j h1 h2 h3 => (O' a j h1 h2 h3).trans (O a j h1 h2 h3))
    rw [sm_succ _ i0, e]
theorem mean_eq (V : TV G c t T n m u q w x s ka ki g) (k : Nat) {pt : Int → Int} {r : Int} (W : Wgh (bfs n g u 0 0) u r (rto n g (bfs n g u)) pt k 0) : sm (meC c n u r t g k) q = sm (fun i => pt i * meF (bfs n g u) c t q i) (bfs n g u 0 0) := by
  have b1 := V.M.b1; rw [V.v1] at b1
  have e : sm (fun i => pt i * meF (bfs n g u) c t q i) (bfs n g u 0 0) = sm (fun i => sm (fun j => pt i * oddF (bfs n g u) (c 64 (c (t + 6 + 1) j)) (c 64 (c (t + 6 + 2) j)) i) q) (bfs n g u 0 0) := by
    apply sm_congr
    intro i _ _
    unfold meF
    rw [sm_ml]
  rw [e, sm_sw]
  apply sm_congr
  intro j j0 j1
  have hq := V.qu j j0 j1
  have ha := V.sv _ hq.1.1 hq.1.2
  have hb := V.sv _ hq.2.1.1 hq.2.1.2
  rw [W.2]
  unfold meC
  refine (wk_phi V ha.2.1 ha.2.2 hb.2.1 hb.2.2 r k _ _ (fun i i0 i1 => ?_)).symm
  have hp := ((tv_bfs V).1.2.1 i i0 i1).1
  have d1 := hp.rg _ ha.2.1 ha.2.2
  have d2 := hp.rg _ hb.2.1 hb.2.2
  unfold oddF phi
  rw [bsF_eq b1.1 b1.2 d1.1 d1.2 d2.1 d2.2]
end
theorem k_mean (d : Nat) (G : MG) (c : MC) (k l : Int) (H : IV G c) : EvL (d + 40) mX10_mean [mR 16 0, mI k, mI l] (G, c) (fun r1 ν1 => EvL (d + 40) mX12_mean [mR 18 62, mI k, mI l] (ν1.1, ν1.2) (fun r2 ν2 => K2 G r1 r2 ν2)) := by
  obtain ⟨hr, t, z, S, V⟩ := H
  have H0 : IV0 G c := ⟨t, z, S, V⟩
  rcases V with V | ⟨T, n, m, u, q, w, x, s, ka, ki, g, V⟩
  · have I := S.ciN V
    have e1 := V.e1; have e3 := V.e3; have e4 := V.e4; have N := V.T
    have N1 : ∀ wy, up (up c 0 6 wy) 62 0 0 62 3 = -1 := fun wy => by rw [up_nj (by decide), up_na (by decide)]; exact N
    refine ev_X10_mean (d + 39) _ G c 0 k l (by decide) ?_
    simp only [z_isTube _ _ _ _ t I e1, z_isPerson _ _ _ _ t I _ e3, z_isSlot _ _ _ _ t I _ e1, z_isTurn _ _ _ _ t I _ e4, z_areTwo _ _ _ _ t I _ _ e3, z_isPlace _ _ _ _ t I _ e1, ↓reduceIte, q_refused]
    refine ev_X12_mean (d + 39) _ G _ 62 k l (by decide) ⟨by decide, ?_⟩
    rintro _ rfl
    simp only [q_shk, Int.reduceLT, q_nisSlot _ _ _ _ (N1 _), q_nisPerson _ _ _ _ (N1 _), q_nisTurn _ _ _ _ (N1 _), q_nareTwo _ _ _ _ (N1 _), q_nisPlace _ _ _ _ (N1 _), N1, ↓reduceIte, q_mrefused, Int.reduceNeg, Int.reduceLT, Int.reduceLE, true_and]
    exact ⟨rfl, rfl, IV.q H0 (by decide) (agr_0 _)⟩
  · have I := S.ciT V
    have M := V.M; have hT := M.T; have ht := V.t
    have v1 := V.v1; have v3 := V.v3; have v4 := V.v4; have e0 := V.e0; have e1 := V.e1; have e3 := V.e3; have e4 := V.e4; have e5 := V.e5
    have b0 := M.b0; have b1 := M.b1; have b3 := M.b3; have b4 := M.b4
    rw [v1] at b1; rw [v3] at b3; rw [v4] at b4
    have hnp : 0 < n := by omega
    have hTn : ¬ T < 0 := by omega
    have M1 : ∀ wy, MDs G (up (up c 0 6 wy) 62 0 0) T := fun wy => (M.ki ki_up7).agr (agr_0 _)
    have r64 : ∀ wy, up (up c 0 6 wy) 62 0 0 64 = c 64 := fun wy => by funext j; rw [up_na (by decide), up_na (by decide)]
    have rT : ∀ wy k, up (up c 0 6 wy) 62 0 0 T k = c T k := fun wy k => by rw [up_na (by omega), up_na (by omega)]
    have rTT : ∀ wy (a : Int), 0 ≤ a → up (up c 0 6 wy) 62 0 0 (T + a) = c (T + a) := fun wy a ha => by funext j; rw [up_na (by omega), up_na (by omega)]
    have rS : ∀ wy a b, sld (up (up c 0 6 wy) 62 0 0) T a b = sld c T a b := fun wy a b => sld_eq (fun a j q => by rw [up_na (by omega), up_na (by omega)]) hT
    have hS : ∀ a b, 0 ≤ a → a < u → 0 ≤ b → b < n → sld c T a b = dg (g a) b := fun a b h1 h2 h3 h4 => by unfold sld; rw [v4, if_pos h2]; exact V.tk a b h1 h2 h3 h4
    have V1 : ∀ wy, TV G (up (up c 0 6 wy) 62 0 0) t T n m u q w x s ka ki g := fun wy => (V.kp ki_up7).kp (ki_agr (agr_0 _))
    skip
    refine ev_X10_mean (d + 39) _ G c 0 k l (by decide) ?_
    simp only [q_isTube _ _ _ _ t I, q_isPerson _ _ _ _ t I, q_isSlot _ _ _ _ t I, q_isTurn _ _ _ _ t I, q_areTwo _ _ _ _ t I, q_isPlace _ _ _ _ t I, e0, e1, e3, e4, hnp, ↓reduceIte]
    by_cases h1 : 0 ≤ k ∧ k ≤ 5
    · have h1a : ¬ k < 0 := by omega
      have h1b : ¬ 5 < k := by omega
      simp only [h1, h1a, h1b, ↓reduceIte]
      refine l_cmean (d + 36) _ V S l k h1.1 h1.2 (fun c' O hb => ?_) q.toNat 0 0 c (by decide) (by have := M.b5; rw [V.v5] at this; omega) (by rw [sm_z _ (by decide)]) (by omega) (fun _ _ _ _ _ => rfl)
      have V' := V.kp O.ki
      have V2 : TV G (up (up c' 0 6 0) 62 0 0) t T n m u q w x s ka ki g := (V'.kp ki_up7).kp (ki_agr (agr_0 _))
      have M2 := V2.M
      have H2 : IV0 G c' := H0.kp O.ki
      have hT2 : ∀ j, up (up c' 0 6 0) 62 0 0 T j = c T j := fun j => by rw [up_na (by omega), up_na (by omega), O T j (by omega) (by omega) (by omega)]
      have h64 : ∀ j, up (up c' 0 6 0) 62 0 0 64 j = c 64 j := fun j => by rw [up_na (by decide), up_na (by decide), O 64 j (by omega) (by omega) (by omega)]
      refine ev_X12_mean (d + 39) _ G _ 62 k l (by decide) ⟨by decide, ?_⟩
      rintro _ rfl
      simp only [M2.p3, hTn, h1, and_self, ↓reduceIte, q_shk, Int.reduceEq, Int.lt_irrefl]
      refine ⟨by decide, ?_⟩
      refine f_spreadsOut (d + 36) _ V2 k h1.1 h1.2 (fun c3 A W2 h38 => ?_)
      have e2 : c3 T 2 = up (up c' 0 6 0) 62 0 0 T 2 := A T 2 (by unfold scr; omega)
      have V3 := V2.kp (ki_agr A)
      refine l_mmean (d + 36) _ V3 l k h1.2 (by rw [e2]; exact W2) h38 (fun c4 A4 => ?_) (bfs n g u 0 0).toNat 0 0 c3 (by decide) (by have := (tv_bfs V).1.w; omega) (by rw [sm_z _ (by decide)]) Agr.rf (fun _ => rfl) rfl
      have em := mean_eq V3 k.toNat W2
      have ec : meC c3 n u (up (up c' 0 6 0) 62 0 0 T 2) t g k.toNat = meC c n u (c T 2) t g k.toNat := by
        funext j
        unfold meC
        rw [hT2, A 64 _ (by unfold scr; omega), A 64 _ (by unfold scr; omega), h64, h64, A (t + 6 + 1) j (by unfold scr; omega), A (t + 6 + 2) j (by unfold scr; omega), up_na (by omega), up_na (by omega), up_na (by omega), up_na (by omega), O _ _ (by omega) (by omega) (by omega), O _ _ (by omega) (by omega) (by omega)]
      rw [← em, ec]
      exact ⟨rfl, rfl, IV.q H2 (by decide) (((agr_0 _).tr A).tr A4)⟩
    · rcases (show k < 0 ∨ (¬ k < 0 ∧ 5 < k) by omega) with hc | hc
      · simp only [h1, hc, and_self, ↓reduceIte, q_refused]
        refine ev_X12_mean (d + 39) _ G _ 62 k l (by decide) ⟨by decide, ?_⟩
        rintro _ rfl
        simp only [q_shk, Int.reduceLT, Int.reduceEq, q_misSlot _ _ _ _ T (M1 _), q_misPerson _ _ _ _ T (M1 _), q_misTurn _ _ _ _ T (M1 _), q_mareTwo _ _ _ _ T (M1 _), q_misPlace _ _ _ _ T (M1 _), (M1 _).p3, hTn, rT, v1, v3, v4, ↓reduceIte, Int.reduceLE, true_and, h1, hc, q_min, and_self, ↓reduceIte, q_mrefused, Int.reduceLT]
        exact ⟨rfl, rfl, IV.q H0 (by decide) (agr_0 _)⟩
      · simp only [h1, hc, and_self, ↓reduceIte, q_refused]
        refine ev_X12_mean (d + 39) _ G _ 62 k l (by decide) ⟨by decide, ?_⟩
        rintro _ rfl
        simp only [q_shk, Int.reduceLT, Int.reduceEq, q_misSlot _ _ _ _ T (M1 _), q_misPerson _ _ _ _ T (M1 _), q_misTurn _ _ _ _ T (M1 _), q_mareTwo _ _ _ _ T (M1 _), q_misPlace _ _ _ _ T (M1 _), (M1 _).p3, hTn, rT, v1, v3, v4, ↓reduceIte, Int.reduceLE, true_and, h1, hc, q_min, and_self, ↓reduceIte, q_mrefused, Int.reduceLT]
        exact ⟨rfl, rfl, IV.q H0 (by decide) (agr_0 _)⟩
