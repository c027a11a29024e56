def pwl (b n : Int) : Int := fo (fun _ s => w64 (s * b)) n.toNat 0 1
theorem pwl_chk : alln 10 (fun b => alln 13 (fun n => decide (pwl b n = (b : Int) ^ n) && decide ((b : Int) ^ n ≤ 300000000000))) = true := by decide +kernel
theorem pwl_eq {b n : Int} (b0 : 0 ≤ b) (b9 : b ≤ 9) (n0 : 0 ≤ n) (n12 : n ≤ 12) : pwl b n = b ^ n.toNat ∧ 0 ≤ b ^ n.toNat ∧ b ^ n.toNat ≤ 300000000000 := by
  obtain ⟨b, rfl⟩ := Int.eq_ofNat_of_zero_le b0
  obtain ⟨n, rfl⟩ := Int.eq_ofNat_of_zero_le n0
  have := alln_at (alln_at pwl_chk b (by omega)) n (by omega)
  simp only [Bool.and_eq_true, decide_eq_true_eq] at this
  exact ⟨this.1, Int.pow_nonneg b0, this.2⟩
theorem pw6_chk : alln 10 (fun b => alln 7 (fun n => decide ((b : Int) ^ n ≤ 531441))) = true := by decide +kernel
theorem pw6 {b n : Int} (b0 : 0 ≤ b) (b9 : b ≤ 9) (n0 : 0 ≤ n) (n6 : n ≤ 6) : b ^ n.toNat ≤ 531441 := by
  obtain ⟨b, rfl⟩ := Int.eq_ofNat_of_zero_le b0
  obtain ⟨n, rfl⟩ := Int.eq_ofNat_of_zero_le n0
  have := alln_at (alln_at pw6_chk b (by omega)) n (by omega)
  simpa using this
section
variable (d : Nat) (P : Int → MM → Prop) (P0 : MM → Prop) (G : MG) (c : MC) (r n T : Int) (S : MC)
theorem l_cpower (b e : Int) (hh0 : 0 ≤ e) (h1 : e ≤ 1000) : ∀ (j : Nat) (i : Int) (s : Int), 0 ≤ i → i + j = e → P (fo (fun _ s => w64 (s * b)) j i s) (G, c) → At (d + 1) mX0_power 5 [mI b, mI e, mL s, MU, mI i] [] (G, c) (QL P) := by
  skip
  intro j
  induction j with
  | zero =>
    intro i s h0 hi hP
    apply wp_X0_power_5
    skip
    (repeat (refine And.intro (by first | omega | (simp only [true_and, and_true, and_self]; omega) | (simp only [true_and, and_true, and_self])) ?_))
    rw [if_neg (by omega)]
    skip
    exact hP
  | succ j ih =>
    intro i s h0 hi hP
    have wi : w32 (i + 1) = i + 1 := w32i (by omega) (by omega)
    apply wp_X0_power_5
    simp only [wi]
    (repeat (refine And.intro (by first | omega | (simp only [true_and, and_true, and_self]; omega) | (simp only [true_and, and_true, and_self])) ?_))
    rw [if_pos (by omega)]
    simp only [fo] at hP
    skip
    (repeat' (first | (refine And.intro (by omega) ?_) | (split <;> rename_i hc <;> (first | rw [if_pos hc] at hP | rw [if_neg hc] at hP))))
    all_goals exact ih _ _ (by omega) (by omega) hP
theorem q_cpower (b e : Int) (h0 : 0 ≤ e) (h1 : e ≤ 1000) : EvL (d + 1) mX0_power [mI b, mI e] (G, c) P = P (pwl b e) (G, c) := evL_eq (ev_X0_power d _ G c b e (l_cpower d _ G c b e h0 h1 e.toNat 0 1 (by omega) (by omega) ⟨rfl, rfl⟩)) P
theorem l_mpower (b e : Int) (hh0 : 0 ≤ e) (h1 : e ≤ 1000) : ∀ (j : Nat) (i : Int) (s : Int), 0 ≤ i → i + j = e → P (fo (fun _ s => w64 (s * b)) j i s) (G, c) → At (d + 1) mX12_power 5 [mL b, MU, mI e, mL s, MU, mI i] [] (G, c) (QL P) := by
  skip
  intro j
  induction j with
  | zero =>
    intro i s h0 hi hP
    apply wp_X12_power_5
    skip
    (repeat (refine And.intro (by first | omega | (simp only [true_and, and_true, and_self]; omega) | (simp only [true_and, and_true, and_self])) ?_))
    rw [if_neg (by omega)]
    skip
    exact hP
  | succ j ih =>
    intro i s h0 hi hP
    have wi : w32 (i + 1) = i + 1 := w32i (by omega) (by omega)
    apply wp_X12_power_5
    simp only [wi]
    (repeat (refine And.intro (by first | omega | (simp only [true_and, and_true, and_self]; omega) | (simp only [true_and, and_true, and_self])) ?_))
    rw [if_pos (by omega)]
    simp only [fo] at hP
    skip
    (repeat' (first | (refine And.intro (by omega) ?_) | (split <;> rename_i hc <;> (first | rw [if_pos hc] at hP | rw [if_neg hc] at hP))))
    all_goals exact ih _ _ (by omega) (by omega) hP
theorem q_mpower (b e : Int) (h0 : 0 ≤ e) (h1 : e ≤ 1000) : EvL (d + 1) mX12_power [mL b, mI e] (G, c) P = P (pwl b e) (G, c) := evL_eq (ev_X12_power d _ G c b e (l_mpower d _ G c b e h0 h1 e.toNat 0 1 (by omega) (by omega) ⟨rfl, rfl⟩)) P
/-- colourings, by sorts of ways -/
theorem l_ccc (C : CBT G c r n S) (hw : 1 ≤ S 0 0 ∧ S 0 0 ≤ 720) (n6 : n ≤ 6) (k : Int) (k0 : 0 ≤ k) (k9 : k ≤ 9) (v : Int) (hP : P (o_ldiv v (S 0 0)) (G, c)) : ∀ (j : Nat) (q f : Int), 1 ≤ q → q + j = n + 1 → 0 ≤ f → f ≤ 400000000 * q → fo (fun q (s : Int) => s + cnt (fun i => decide (cyc (S 1 i) n = q)) (S 0 0) * k ^ q.toNat) j q f = v → At (d + 1) mX4_colourCount 8 [mR 11 r, mI k, mL f, MU, mL (k ^ (q - 1).toNat), MU, mI q] [] (G, c) (QL P) := by
  have hr := C.h.r
  intro j
  induction j with
  | zero =>
    intro q f q1 hq f0 f1 e
    apply wp_X4_colourCount_8
    simp only [C.n, C.w]
    refine ⟨by omega, ?_⟩
    rw [if_pos (by omega)]
    refine ⟨by omega, ?_⟩
    rw [if_neg (by omega)]
    have : f = v := e
    rw [this]
    exact ⟨by omega, by omega, hP⟩
  | succ j ih =>
    intro q f q1 hq f0 f1 e
    have hpk := pw6 k0 k9 (show 0 ≤ q by omega) (by omega)
    have hpk0 : 0 ≤ k ^ q.toNat := Int.pow_nonneg k0
    have hpe : k ^ (q - 1).toNat * k = k ^ q.toNat := by rw [← Int.pow_succ]; congr 1; omega
    have hc := cnt_b (fun i => decide (cyc (S 1 i) n = q)) (n := S 0 0) (by omega)
    have hm : cnt (fun i => decide (cyc (S 1 i) n = q)) (S 0 0) * k ^ q.toNat ≤ 720 * 531441 := Int.mul_le_mul (by omega) hpk hpk0 (by omega)
    have hm0 : 0 ≤ cnt (fun i => decide (cyc (S 1 i) n = q)) (S 0 0) * k ^ q.toNat := Int.mul_nonneg hc.1 hpk0
    have wq : w32 (q + 1) = q + 1 := w32i (by omega) (by omega)
    apply wp_X4_colourCount_8
    simp only [C.n, C.w, C.h.p8, C.h.l6, C.y q (by omega) (by omega), wq, hpe]
    rw [w64i (x := k ^ q.toNat) (by omega) (by omega), w64i (x := cnt (fun i => decide (cyc (S 1 i) n = q)) (S 0 0) * k ^ q.toNat) (by omega) (by omega), w64i (x := f + cnt (fun i => decide (cyc (S 1 i) n = q)) (S 0 0) * k ^ q.toNat) (by omega) (by omega)]
    refine ⟨by omega, ?_⟩
    rw [if_neg (by omega)]
    refine ⟨by omega, ⟨by omega, by omega, by omega⟩, ?_⟩
    have := ih (q + 1) (f + cnt (fun i => decide (cyc (S 1 i) n = q)) (S 0 0) * k ^ q.toNat) (by omega) (by omega) (by omega) (by omega) e
    rw [show q + 1 - 1 = q by omega] at this
    exact this
/-- the sum over all ways -/
def colS (S : MC) (n k : Int) : Int := sm (fun i => k ^ (cyc (S 1 i) n).toNat) (S 0 0)
theorem q_colourCount (C : CBT G c r n S) (hw : 1 ≤ S 0 0 ∧ S 0 0 ≤ 720) (n0 : 0 ≤ n) (n6 : n ≤ 6) (k : Int) (k0 : 0 ≤ k) (k9 : k ≤ 9) (hcy : ∀ i, 0 ≤ i → i < S 0 0 → 1 ≤ cyc (S 1 i) n ∧ cyc (S 1 i) n ≤ n) : EvL (d + 1) mX4_colourCount [mR 11 r, mI k] (G, c) P = P (o_ldiv (colS S n k) (S 0 0)) (G, c) := evL_eq (ev_X4_colourCount d _ G c r k (by have := C.h.r; omega) (by
  have key := sm_sorts (fun q => k ^ q.toNat) (fun i => cyc (S 1 i) n) (N := n + 1) (by omega) (S 0 0) (by omega) (fun i a b => by have := hcy i a b; omega)
  have h0 : cnt (fun i => decide (cyc (S 1 i) n = 0)) (S 0 0) = 0 := by
    have : cnt (fun i => decide (cyc (S 1 i) n = 0)) (S 0 0) = cnt (fun _ => false) (S 0 0) := cnt_congr fun i a b => by have := hcy i a b; simp; omega
    rw [this, cnt_sm _ _ (by omega)]
    exact sm_zero _ (by omega)
  have e : fo (fun q (s : Int) => s + cnt (fun i => decide (cyc (S 1 i) n = q)) (S 0 0) * k ^ q.toNat) n.toNat 1 0 = colS S n k := by
    unfold colS
    rw [key]
    unfold sm
    rw [show (n + 1).toNat = n.toNat + 1 by omega]
    simp only [fo, h0]
    simp
  have hgo := l_ccc d (fun x ν' => x = o_ldiv (colS S n k) (S 0 0) ∧ ν' = (G, c)) G c r n S C hw n6 k k0 k9 (colS S n k) ⟨rfl, rfl⟩ n.toNat 1 0 (by omega) (by omega) (by omega) (by omega) e
  rw [show k ^ ((1 : Int) - 1).toNat = 1 by simp] at hgo
  exact hgo)) P
theorem l_mcounted (M : MDs G c T) (Mb : MBT c n S) (hw : 1 ≤ S 0 0 ∧ S 0 0 ≤ 720) (hn : c T 1 = n) (hpms : ∀ i, 0 ≤ i → i < S 0 0 → PM (S 1 i) n) (b : Int) (K : Int → Prop) (hK : ∀ s c', K s → Agr c c' → P (o_ldiv s (S 0 0)) (G, c')) : ∀ (j : Nat) (i : Int) (s : Int) (c' : MC), 0 ≤ i → i + j = S 0 0 → Agr c c' → K (fo (fun i s => w64 (s + pwl b (cyc (S 1 i) n))) j i s) → At (d + 4) mX12_counted 5 [mR 18 62, mI b, mL s, MU, mI i] [] (G, c') (QL P) := by
  have hT := M.T; have b1 := M.b1
  intro j
  induction j with
  | zero =>
    intro i s c' h0 hi A hP
    have M' := M.agr A
    have Mb' := Mb.ki (ki_agr A)
    apply wp_X12_counted_5
    simp only [Mb'.w]
    (repeat (refine And.intro (by first | omega | (simp only [true_and, and_true, and_self]; omega) | (simp only [true_and, and_true, and_self])) ?_))
    rw [if_neg (by omega)]
    (repeat (refine And.intro (by first | omega | (simp only [true_and, and_true, and_self]; omega) | (simp only [true_and, and_true, and_self])) ?_))
    exact hK _ _ hP A
  | succ j ih =>
    intro i s c' h0 hi A hP
    have M' := M.agr A
    have Mb' := Mb.ki (ki_agr A)
    have eT : ∀ k, c' T k = c T k := fun k => A T k (by unfold scr; omega)
    have wi : w32 (i + 1) = i + 1 := w32i (by omega) (by omega)
    apply wp_X12_counted_5
    simp only [Mb'.w, wi]
    (repeat (refine And.intro (by first | omega | (simp only [true_and, and_true, and_self]; omega) | (simp only [true_and, and_true, and_self])) ?_))
    rw [if_pos (by omega)]
    simp only [fo] at hP
    have A2 : Agr c (wr c' 73 0 n (fun k => c' 68 (6 * i + k))) := A.w (fun j => by unfold scr; omega)
    have M2 := M.agr A2
    have e12 : wr c' 73 0 n (fun k => c' 68 (6 * i + k)) T 1 = n := by rw [wr_ne (by omega), eT]; exact hn
    have ho2 : One (wr c' 73 0 n (fun k => c' 68 (6 * i + k))) (S 1 i) n := fun k k0 k1 => by rw [wr_in k0 (by omega)]; exact Mb'.e i k (by omega) (by omega) k0 k1
    rw [q_layWay _ _ _ _ T M' i (by omega) (by omega), eT, hn]
    have hpm := hpms i (by omega) (by omega)
    simp only []
    have hcy := cyc_rg (by omega) (by omega) hpm
    rw [q_ringsOf _ _ _ _ T M2 (S 1 i) (by rw [e12]; exact ho2) (by rw [e12]; exact hpm), e12]
    simp only [q_mpower _ _ _ _ b _ (show 0 ≤ cyc (S 1 i) n by omega) (show cyc (S 1 i) n ≤ 1000 by omega)]
    exact ih _ _ _ (by omega) (by omega) A2 hP
theorem q_counted (M : MDs G c T) (Mb : MBT c n S) (hw : 1 ≤ S 0 0 ∧ S 0 0 ≤ 720) (hn : c T 1 = n) (hpms : ∀ i, 0 ≤ i → i < S 0 0 → PM (S 1 i) n) (b : Int) (b0 : 0 ≤ b) (b9 : b ≤ 9) (hP : ∀ c', Agr c c' → P (o_ldiv (colS S n b) (S 0 0)) (G, c')) : EvL (d + 4) mX12_counted [mR 18 62, mI b] (G, c) P := by
  have b1 := M.b1
  refine ev_X12_counted (d + 3) P G c 62 b (by decide) (l_mcounted d P G c n T S M Mb hw hn hpms b (fun s => s = colS S n b) (fun s c' hs A => by rw [hs]; exact hP c' A) (S 0 0).toNat 0 0 c (by omega) (by omega) Agr.rf ?_)
  have l2 : ∀ (j : Nat) (i s : Int), 0 ≤ i → i + j ≤ S 0 0 → 0 ≤ s → s + 531441 * j < 1000000000000 → fo (fun i s => w64 (s + pwl b (cyc (S 1 i) n))) j i s = fo (fun i (s : Int) => s + b ^ (cyc (S 1 i) n).toNat) j i s := by
    intro j
    induction j with
    | zero => intro i s _ _ _ _; rfl
    | succ j ih =>
      intro i s i0 i1 s0 s1
      have hcy := cyc_rg (n := n) (by omega) (by omega) (hpms i i0 (by omega))
      have hp := pwl_eq b0 b9 (show 0 ≤ cyc (S 1 i) n by omega) (by omega)
      have h6 := pw6 b0 b9 (show 0 ≤ cyc (S 1 i) n by omega) (by omega)
      simp only [fo]
      rw [hp.1, w64i (by omega) (by omega)]
      exact ih _ _ (by omega) (by omega) (by omega) (by omega)
  exact l2 (S 0 0).toNat 0 0 (by omega) (by omega) (by omega) (by omega)
theorem q_mrefusesColours (M : MDs G c T) (b : Int) : EvI (d + 2) mX12_refusesColours [mR 18 62, mI b] (G, c) P = P (if 1 ≤ b ∧ b ≤ 9 then 0 else 2) (G, c) := evI_eq (ev_X12_refusesColours (d + 1) _ G c 62 b (by decide) (by have hT := M.T; simp only [q_min, M.p3]; grind)) P
theorem q_nrefusesColours (N : c 62 3 = -1) (b : Int) : EvI (d + 2) mX12_refusesColours [mR 18 62, mI b] (G, c) P = P 1 (G, c) := evI_eq (ev_X12_refusesColours (d + 1) _ G c 62 b (by decide) (by rw [N]; simp)) P
theorem q_mrefusesNecklace (M : MDs G c T) (a b : Int) : EvI (d + 2) mX12_refusesNecklace [mR 18 62, mI a, mI b] (G, c) P = P (if (1 ≤ a ∧ a ≤ 12) ∧ 1 ≤ b ∧ b ≤ 9 then 0 else 2) (G, c) := evI_eq (ev_X12_refusesNecklace (d + 1) _ G c 62 a b (by decide) (by have hT := M.T; simp only [q_min, M.p3]; grind)) P
theorem q_nrefusesNecklace (N : c 62 3 = -1) (a b : Int) : EvI (d + 2) mX12_refusesNecklace [mR 18 62, mI a, mI b] (G, c) P = P 1 (G, c) := evI_eq (ev_X12_refusesNecklace (d + 1) _ G c 62 a b (by decide) (by rw [N]; simp)) P
end
theorem k_colourings (d : Nat) (G : MG) (c : MC) (a : Int) (H : IV G c) : EvL (d + 40) mX10_colourings [mR 16 0, mI a] (G, c) (fun r1 ν1 => EvL (d + 40) mX12_colourings [mR 18 62, mI a] (ν1.1, ν1.2) (fun r2 ν2 => K2 G r1 r2 ν2)) := by
  obtain ⟨hr, t, z, S, V⟩ := H
  have H0 : IV0 G c := ⟨t, z, S, V⟩
  rcases V with V | ⟨T, n, m, u, q, w, x, s, ka, ki, g, V⟩
  · have I := S.ciN V
    have e1 := V.e1; have e3 := V.e3; have e4 := V.e4; have N := V.T
    have N1 : ∀ wy, up (up c 0 6 wy) 62 0 0 62 3 = -1 := fun wy => by rw [up_nj (by decide), up_na (by decide)]; exact N
    refine ev_X10_colourings (d + 39) _ G c 0 a (by decide) ?_
    simp only [z_isTube _ _ _ _ t I e1, z_isPerson _ _ _ _ t I _ e3, z_isSlot _ _ _ _ t I _ e1, z_isTurn _ _ _ _ t I _ e4, z_areTwo _ _ _ _ t I _ _ e3, z_isPlace _ _ _ _ t I _ e1, ↓reduceIte, q_refused]
    refine ev_X12_colourings (d + 39) _ G _ 62 a (by decide) ⟨by decide, ?_⟩
    rintro _ rfl
    simp only [q_nrefusesColours _ _ _ _ (N1 _), q_nisSlot _ _ _ _ (N1 _), q_nisPerson _ _ _ _ (N1 _), q_nisTurn _ _ _ _ (N1 _), q_nareTwo _ _ _ _ (N1 _), q_nisPlace _ _ _ _ (N1 _), N1, ↓reduceIte, q_mrefused, Int.reduceNeg, Int.reduceLT, Int.reduceLE, true_and]
    exact ⟨rfl, rfl, IV.q H0 (by decide) (agr_0 _)⟩
  · have I := S.ciT V
    have M := V.M; have hT := M.T; have ht := V.t
    have v1 := V.v1; have v3 := V.v3; have v4 := V.v4; have e0 := V.e0; have e1 := V.e1; have e3 := V.e3; have e4 := V.e4; have e5 := V.e5
    have b0 := M.b0; have b1 := M.b1; have b3 := M.b3; have b4 := M.b4
    rw [v1] at b1; rw [v3] at b3; rw [v4] at b4
    have hnp : 0 < n := by omega
    have hTn : ¬ T < 0 := by omega
    have M1 : ∀ wy, MDs G (up (up c 0 6 wy) 62 0 0) T := fun wy => (M.ki ki_up7).agr (agr_0 _)
    have r64 : ∀ wy, up (up c 0 6 wy) 62 0 0 64 = c 64 := fun wy => by funext j; rw [up_na (by decide), up_na (by decide)]
    have rT : ∀ wy k, up (up c 0 6 wy) 62 0 0 T k = c T k := fun wy k => by rw [up_na (by omega), up_na (by omega)]
    have rTT : ∀ wy (a : Int), 0 ≤ a → up (up c 0 6 wy) 62 0 0 (T + a) = c (T + a) := fun wy a ha => by funext j; rw [up_na (by omega), up_na (by omega)]
    have rS : ∀ wy a b, sld (up (up c 0 6 wy) 62 0 0) T a b = sld c T a b := fun wy a b => sld_eq (fun a j q => by rw [up_na (by omega), up_na (by omega)]) hT
    have hS : ∀ a b, 0 ≤ a → a < u → 0 ≤ b → b < n → sld c T a b = dg (g a) b := fun a b h1 h2 h3 h4 => by unfold sld; rw [v4, if_pos h2]; exact V.tk a b h1 h2 h3 h4
    have V1 : ∀ wy, TV G (up (up c 0 6 wy) 62 0 0) t T n m u q w x s ka ki g := fun wy => (V.kp ki_up7).kp (ki_agr (agr_0 _))
    skip
    refine ev_X10_colourings (d + 39) _ G c 0 a (by decide) ?_
    simp only [q_areColours, q_isTube _ _ _ _ t I, q_isPerson _ _ _ _ t I, q_isSlot _ _ _ _ t I, q_isTurn _ _ _ _ t I, q_areTwo _ _ _ _ t I, q_isPlace _ _ _ _ t I, e0, e1, e3, e4, hnp, ↓reduceIte]
    by_cases h1 : 1 ≤ a ∧ a ≤ 9
    · simp only [h1, and_self, ↓reduceIte]
      refine f_reached _ _ V S (fun c V S C f => ?_)
      have H0 : IV0 G c := ⟨t, z, S, Or.inr ⟨T, n, m, u, q, w, x, s, ka, ki, g, V⟩⟩
      have I := S.ciT V
      have M := V.M; have hT := M.T; have ht := V.t
      have v1 := V.v1; have v3 := V.v3; have v4 := V.v4; have e0 := V.e0; have e1 := V.e1; have e3 := V.e3; have e4 := V.e4; have e5 := V.e5
      have b0 := M.b0; have b1 := M.b1; have b3 := M.b3; have b4 := M.b4
      rw [v1] at b1; rw [v3] at b3; rw [v4] at b4
      have hnp : 0 < n := by omega
      have hTn : ¬ T < 0 := by omega
      have M1 : ∀ wy, MDs G (up (up c 0 6 wy) 62 0 0) T := fun wy => (M.ki ki_up7).agr (agr_0 _)
      have r64 : ∀ wy, up (up c 0 6 wy) 62 0 0 64 = c 64 := fun wy => by funext j; rw [up_na (by decide), up_na (by decide)]
      have rT : ∀ wy k, up (up c 0 6 wy) 62 0 0 T k = c T k := fun wy k => by rw [up_na (by omega), up_na (by omega)]
      have rTT : ∀ wy (a : Int), 0 ≤ a → up (up c 0 6 wy) 62 0 0 (T + a) = c (T + a) := fun wy a ha => by funext j; rw [up_na (by omega), up_na (by omega)]
      have rS : ∀ wy a b, sld (up (up c 0 6 wy) 62 0 0) T a b = sld c T a b := fun wy a b => sld_eq (fun a j q => by rw [up_na (by omega), up_na (by omega)]) hT
      have hS : ∀ a b, 0 ≤ a → a < u → 0 ≤ b → b < n → sld c T a b = dg (g a) b := fun a b h1 h2 h3 h4 => by unfold sld; rw [v4, if_pos h2]; exact V.tk a b h1 h2 h3 h4
      have V1 : ∀ wy, TV G (up (up c 0 6 wy) 62 0 0) t T n m u q w x s ka ki g := fun wy => (V.kp ki_up7).kp (ki_agr (agr_0 _))
      obtain ⟨B, w1, s0, Cl⟩ := tv_bfs V
      have hw := B.w

      have hpms : ∀ i, 0 ≤ i → i < bfs n g u 0 0 → PM (bfs n g u 1 i) n := fun i a b => (B.2.1 i a b).1
      rw [q_colourCount _ _ _ _ 45 n _ C ⟨w1, hw.2⟩ (by omega) b1.2 a (by omega) (by omega) (fun i x y => cyc_rg b1.1 b1.2 (hpms i x y))]
      simp only [q_fineLong]
      refine ev_X12_colourings (d + 39) _ G _ 62 a (by decide) ⟨by decide, ?_⟩
      rintro _ rfl
      simp only [q_misSlot _ _ _ _ T (M1 _), q_misPerson _ _ _ _ T (M1 _), q_misTurn _ _ _ _ T (M1 _), q_mareTwo _ _ _ _ T (M1 _), q_misPlace _ _ _ _ T (M1 _), (M1 _).p3, hTn, rT, v1, v3, v4, ↓reduceIte, Int.reduceLE, true_and, q_mrefusesColours _ _ _ _ T (M1 _), h1, and_self, ↓reduceIte, Int.reduceLT]
      refine q_counted _ _ G _ n T _ (M1 0) (V1 0).B ⟨w1, hw.2⟩ (by rw [rT]; exact v1) hpms a (by omega) (by omega) (fun c' A => ?_)
      simp only [q_mgoodLong]
      exact ⟨rfl, rfl, IV.q H0 (by decide) ((agr_0 _).tr A)⟩
    · simp only [h1, q_areColours, and_self, ↓reduceIte, q_refused]
      refine ev_X12_colourings (d + 39) _ G _ 62 a (by decide) ⟨by decide, ?_⟩
      rintro _ rfl
      simp only [q_mrefusesColours _ _ _ _ T (M1 _), Int.reduceLT, q_misSlot _ _ _ _ T (M1 _), q_misPerson _ _ _ _ T (M1 _), q_misTurn _ _ _ _ T (M1 _), q_mareTwo _ _ _ _ T (M1 _), q_misPlace _ _ _ _ T (M1 _), (M1 _).p3, hTn, rT, v1, v3, v4, ↓reduceIte, Int.reduceLE, true_and, h1, and_self, ↓reduceIte, q_mrefused]
      exact ⟨rfl, rfl, IV.q H0 (by decide) (agr_0 _)⟩
theorem CBT.mid {G : MG} {c c' : MC} {r n : Int} {S : MC} (h : CBT G c r n S) (e : ∀ a j, 45 ≤ a → a ≤ 58 → c' a j = c a j) : CBT G c' r n S := by
  have hr := h.h.r
  exact ⟨⟨h.h.r, (by rw [e r 3 (by omega) (by omega)]; exact h.h.p3), (by rw [e r 4 (by omega) (by omega)]; exact h.h.p4), (by rw [e r 5 (by omega) (by omega)]; exact h.h.p5), (by rw [e r 6 (by omega) (by omega)]; exact h.h.p6), (by rw [e r 7 (by omega) (by omega)]; exact h.h.p7), (by rw [e r 8 (by omega) (by omega)]; exact h.h.p8), h.h.l1, h.h.l2, h.h.l3, h.h.l4, h.h.l5, h.h.l6⟩, (by rw [e r 1 (by omega) (by omega)]; exact h.n), (by rw [e r 2 (by omega) (by omega)]; exact h.w), fun i a b => by rw [e (r + 1) i (by omega) (by omega), e (r + 2) i (by omega) (by omega), e (r + 3) i (by omega) (by omega), e (r + 4) i (by omega) (by omega)]; exact h.e i a b, fun q a b => by rw [e (r + 5) q (by omega) (by omega)]; exact h.x q a b, fun q a b => by rw [e (r + 6) q (by omega) (by omega)]; exact h.y q a b⟩
theorem RCs.mid {G : MG} {c c' : MC} {r : Int} (h : RCs G c r) (e : ∀ a j, 45 ≤ a → a ≤ 58 → c' a j = c a j) : RCs G c' r := by
  have hr := h.r
  exact ⟨h.r, (by rw [e r 3 (by omega) (by omega)]; exact h.p3), (by rw [e r 4 (by omega) (by omega)]; exact h.p4), (by rw [e r 5 (by omega) (by omega)]; exact h.p5), (by rw [e r 6 (by omega) (by omega)]; exact h.p6), (by rw [e r 7 (by omega) (by omega)]; exact h.p7), (by rw [e r 8 (by omega) (by omega)]; exact h.p8), h.l1, h.l2, h.l3, h.l4, h.l5, h.l6⟩
theorem TPs.kp2 {G : MG} {c : MC} {t : Int} {c' : MC} (h : TPs G c t) (e : ∀ a j, KI a j → ¬ (68 ≤ a ∧ a ≤ 72) → ¬ (a = 62 ∧ j = 28) → c' a j = c a j) : TPs G c' t := by
  have ht := h.t
  exact ⟨h.t, (by rw [e t 6 (by unfold KI scr; omega) (by omega) (by omega)]; exact h.p6), (by rw [e t 7 (by unfold KI scr; omega) (by omega) (by omega)]; exact h.p7), (by rw [e t 8 (by unfold KI scr; omega) (by omega) (by omega)]; exact h.p8), (by rw [e t 9 (by unfold KI scr; omega) (by omega) (by omega)]; exact h.p9), (by rw [e t 10 (by unfold KI scr; omega) (by omega) (by omega)]; exact h.p10), (by rw [e t 11 (by unfold KI scr; omega) (by omega) (by omega)]; exact h.p11), (by rw [e t 12 (by unfold KI scr; omega) (by omega) (by omega)]; exact h.p12), (by rw [e t 13 (by unfold KI scr; omega) (by omega) (by omega)]; exact h.p13), h.g1, h.g2, h.g3, h.g4, h.g5, (by rw [e (t + 6) 0 (by unfold KI scr; omega) (by omega) (by omega)]; exact h.q0), (by rw [e (t + 6) 1 (by unfold KI scr; omega) (by omega) (by omega)]; exact h.q1), (by rw [e (t + 6) 2 (by unfold KI scr; omega) (by omega) (by omega)]; exact h.q2), h.ql1, h.ql2, h.ql3, (by rw [e (t + 10) 0 (by unfold KI scr; omega) (by omega) (by omega)]; exact h.w0), (by rw [e (t + 10) 1 (by unfold KI scr; omega) (by omega) (by omega)]; exact h.w1), (by rw [e (t + 10) 2 (by unfold KI scr; omega) (by omega) (by omega)]; exact h.w2), h.wl1, h.wl2, h.wl3, (by rw [e (t + 14) 0 (by unfold KI scr; omega) (by omega) (by omega)]; exact h.s0), (by rw [e (t + 14) 1 (by unfold KI scr; omega) (by omega) (by omega)]; exact h.s1), (by rw [e (t + 14) 2 (by unfold KI scr; omega) (by omega) (by omega)]; exact h.s2), h.sl1, h.sl2, h.sl3⟩
theorem SH.fm {G : MG} {c : MC} {t z : Int} {c' : MC} (h : SH G c t z) (e : ∀ a j, KI a j → ¬ (68 ≤ a ∧ a ≤ 72) → ¬ (a = 62 ∧ j = 28) → c' a j = c a j) : SH G c' t z := by
  have ht := h.t
  exact ⟨h.t, (by rw [e 0 0 (by unfold KI scr; omega) (by omega) (by omega)]; exact h.p0), (by rw [e 19 11 (by unfold KI scr; omega) (by omega) (by omega)]; exact h.p1), (by rw [e 0 1 (by unfold KI scr; omega) (by omega) (by omega)]; exact h.p2), (by rw [e 0 2 (by unfold KI scr; omega) (by omega) (by omega)]; exact h.p3), (by rw [e 0 3 (by unfold KI scr; omega) (by omega) (by omega)]; exact h.p4), (by rw [e 0 4 (by unfold KI scr; omega) (by omega) (by omega)]; exact h.p5), (by rw [e 0 5 (by unfold KI scr; omega) (by omega) (by omega)]; exact h.p6), (h.A.kp2 e), (h.B.kp2 e), (by rw [e 19 0 (by unfold KI scr; omega) (by omega) (by omega)]; exact h.r0), (by rw [e 19 1 (by unfold KI scr; omega) (by omega) (by omega)]; exact h.r1), (by rw [e 19 8 (by unfold KI scr; omega) (by omega) (by omega)]; exact h.r8), (by rw [e 19 9 (by unfold KI scr; omega) (by omega) (by omega)]; exact h.r9), h.l20, h.l21, h.l22, h.l23, h.l43, h.l44, h.l60, h.l61, h.l79, (fun k h1 h2 => by rw [e 20 k (by unfold KI scr; omega) (by omega) (by omega)]; exact h.lw k h1 h2), (by rw [e 42 1 (by unfold KI scr; omega) (by omega) (by omega)]; exact h.s1), (by rw [e 42 3 (by unfold KI scr; omega) (by omega) (by omega)]; exact h.s3), (h.R1.mid (fun a j x y => e a j (by unfold KI scr; omega) (by omega) (by omega))), (h.R2.mid (fun a j x y => e a j (by unfold KI scr; omega) (by omega) (by omega))), (by rw [e 45 0 (by unfold KI scr; omega) (by omega) (by omega)]; exact h.k1), (by rw [e 52 0 (by unfold KI scr; omega) (by omega) (by omega)]; exact h.k2), (by rw [e 59 0 (by unfold KI scr; omega) (by omega) (by omega)]; exact h.h0), (by rw [e 59 1 (by unfold KI scr; omega) (by omega) (by omega)]; exact h.h1), (by rw [e 62 5 (by unfold KI scr; omega) (by omega) (by omega)]; exact h.m5), (by rw [e 62 16 (by unfold KI scr; omega) (by omega) (by omega)]; exact h.m16), (by rw [e 62 17 (by unfold KI scr; omega) (by omega) (by omega)]; exact h.m17), (by rw [e 62 18 (by unfold KI scr; omega) (by omega) (by omega)]; exact h.m18), (by rw [e 62 19 (by unfold KI scr; omega) (by omega) (by omega)]; exact h.m19), (by rw [e 62 22 (by unfold KI scr; omega) (by omega) (by omega)]; exact h.m22), (by rw [e 62 23 (by unfold KI scr; omega) (by omega) (by omega)]; exact h.m23), (by rw [e 62 24 (by unfold KI scr; omega) (by omega) (by omega)]; exact h.m24), (by rw [e 62 25 (by unfold KI scr; omega) (by omega) (by omega)]; exact h.m25), (by rw [e 62 26 (by unfold KI scr; omega) (by omega) (by omega)]; exact h.m26), (by rw [e 62 27 (by unfold KI scr; omega) (by omega) (by omega)]; exact h.m27), (by rw [e 62 29 (by unfold KI scr; omega) (by omega) (by omega)]; exact h.m29), (by rw [e 62 33 (by unfold KI scr; omega) (by omega) (by omega)]; exact h.m33), (by rw [e 62 35 (by unfold KI scr; omega) (by omega) (by omega)]; exact h.m35), (by rw [e 62 36 (by unfold KI scr; omega) (by omega) (by omega)]; exact h.m36), (by rw [e 62 37 (by unfold KI scr; omega) (by omega) (by omega)]; exact h.m37), h.n63, h.n64, h.n65, h.n66, h.n67, h.n68, h.n69, h.n70, h.n71, h.n72, h.n73, h.n74, h.n75, h.n76, h.n77, h.n78, (by rw [e 19 2 (by unfold KI scr; omega) (by omega) (by omega), e 62 6 (by unfold KI scr; omega) (by omega) (by omega)]; exact h.tp), (fun j h1 h2 => by rw [e 21 j (by unfold KI scr; omega) (by omega) (by omega), e 63 j (by unfold KI scr; omega) (by omega) (by omega)]; exact h.tb j h1 h2), (by rw [e 19 2 (by unfold KI scr; omega) (by omega) (by omega)]; exact h.z), (by rw [e 19 12 (by unfold KI scr; omega) (by omega) (by omega), e 62 12 (by unfold KI scr; omega) (by omega) (by omega)]; exact h.fa), h.g⟩
theorem TV.fm {G : MG} {c : MC} {t T n m u q w x s ka ki : Int} {g : Int → Int} {c' : MC} (h : TV G c t T n m u q w x s ka ki g) (e : ∀ a j, KI a j → ¬ (68 ≤ a ∧ a ≤ 72) → ¬ (a = 62 ∧ j = 28) → c' a j = c a j) (b : MBT c' n (bfs n g u)) : TV G c' t T n m u q w x s ka ki g := by
  have ht := h.t; have hT := h.M.T
  exact ⟨(h.M.kp (fun a j k => e a j (by unfold Kp at k; unfold KI scr; omega) (by unfold Kp at k; omega) (by unfold Kp at k; omega))), h.t, (by rw [e T 1 (by unfold KI scr; omega) (by omega) (by omega)]; exact h.v1), (by rw [e T 3 (by unfold KI scr; omega) (by omega) (by omega)]; exact h.v3), (by rw [e T 4 (by unfold KI scr; omega) (by omega) (by omega)]; exact h.v4), (by rw [e T 5 (by unfold KI scr; omega) (by omega) (by omega)]; exact h.v5), (by rw [e T 6 (by unfold KI scr; omega) (by omega) (by omega)]; exact h.v6), (by rw [e T 7 (by unfold KI scr; omega) (by omega) (by omega)]; exact h.v7), (by rw [e T 8 (by unfold KI scr; omega) (by omega) (by omega)]; exact h.v8), (by rw [e t 0 (by unfold KI scr; omega) (by omega) (by omega), e T 0 (by unfold KI scr; omega) (by omega) (by omega)]; exact h.e0), (by rw [e t 1 (by unfold KI scr; omega) (by omega) (by omega)]; exact h.e1), (by rw [e t 2 (by unfold KI scr; omega) (by omega) (by omega), e T 2 (by unfold KI scr; omega) (by omega) (by omega)]; exact h.e2), (by rw [e t 3 (by unfold KI scr; omega) (by omega) (by omega)]; exact h.e3), (by rw [e t 4 (by unfold KI scr; omega) (by omega) (by omega)]; exact h.e4), (by rw [e t 5 (by unfold KI scr; omega) (by omega) (by omega)]; exact h.e5), (by rw [e (t + 6) 3 (by unfold KI scr; omega) (by omega) (by omega)]; exact h.eq), (by rw [e (t + 10) 3 (by unfold KI scr; omega) (by omega) (by omega)]; exact h.ew), (by rw [e (t + 14) 3 (by unfold KI scr; omega) (by omega) (by omega)]; exact h.es), (fun p h1 h2 => by rw [e (t + 1) p (by unfold KI scr; omega) (by omega) (by omega), e (T + 1) p (by unfold KI scr; omega) (by omega) (by omega)]; exact h.co p h1 h2), (fun p h1 h2 => by rw [e (t + 2) p (by unfold KI scr; omega) (by omega) (by omega), e (T + 2) p (by unfold KI scr; omega) (by omega) (by omega)]; exact h.ho p h1 h2), (fun i h1 h2 => by rw [e (t + 3) i (by unfold KI scr; omega) (by omega) (by omega)]; exact h.g i h1 h2), h.gp, h.gu, (fun i k h1 h2 h3 h4 => by rw [e (T + 4) (6 * i + k) (by unfold KI scr; omega) (by omega) (by omega)]; exact h.tk i k h1 h2 h3 h4), (fun i h1 h2 => by rw [e (t + 6 + 1) i (by unfold KI scr; omega) (by omega) (by omega), e (t + 6 + 2) i (by unfold KI scr; omega) (by omega) (by omega), e (t + 6 + 3) i (by unfold KI scr; omega) (by omega) (by omega)]; exact h.qu i h1 h2), (fun i j h1 h2 h3 => by rw [e (t + 6 + 1) i (by unfold KI scr; omega) (by omega) (by omega), e (t + 6 + 1) j (by unfold KI scr; omega) (by omega) (by omega), e (t + 6 + 2) i (by unfold KI scr; omega) (by omega) (by omega), e (t + 6 + 2) j (by unfold KI scr; omega) (by omega) (by omega)]; exact h.qd i j h1 h2 h3), (fun p h1 h2 => by rw [e (T + 3) p (by unfold KI scr; omega) (by omega) (by omega), ptn_eq (e (t + 6) 3 (by unfold KI scr; omega) (by omega) (by omega)) (fun i => e _ i (by unfold KI scr; omega) (by omega) (by omega)) (fun i => e _ i (by unfold KI scr; omega) (by omega) (by omega))]; exact h.fo p h1 h2), (fun k h1 h2 => by rw [e (t + 10 + 1) k (by unfold KI scr; omega) (by omega) (by omega), e (T + 5) k (by unfold KI scr; omega) (by omega) (by omega), e (t + 10 + 2) k (by unfold KI scr; omega) (by omega) (by omega), e (T + 6) k (by unfold KI scr; omega) (by omega) (by omega), e (t + 10 + 3) k (by unfold KI scr; omega) (by omega) (by omega), e T 16 (by unfold KI scr; omega) (by omega) (by omega)]; exact h.wi k h1 h2), (fun k h1 h2 => by rw [e (t + 4) k (by unfold KI scr; omega) (by omega) (by omega), e (T + 7) k (by unfold KI scr; omega) (by omega) (by omega), e (t + 5) k (by unfold KI scr; omega) (by omega) (by omega), e (T + 8) k (by unfold KI scr; omega) (by omega) (by omega)]; exact h.un k h1 h2), (fun k h1 h2 => by rw [e (t + 14 + 1) k (by unfold KI scr; omega) (by omega) (by omega), e (T + 9) k (by unfold KI scr; omega) (by omega) (by omega), e (t + 14 + 2) k (by unfold KI scr; omega) (by omega) (by omega), e (T + 10) k (by unfold KI scr; omega) (by omega) (by omega), e (t + 14 + 3) k (by unfold KI scr; omega) (by omega) (by omega), e T 17 (by unfold KI scr; omega) (by omega) (by omega)]; exact h.se k h1 h2), (by rw [e 42 0 (by unfold KI scr; omega) (by omega) (by omega)]; exact h.st), (fun p h1 h2 => by rw [e 42 0 (by unfold KI scr; omega) (by omega) (by omega), e 64 p (by unfold KI scr; omega) (by omega) (by omega)]; exact h.sv p h1 h2), (by rw [e 42 2 (by unfold KI scr; omega) (by omega) (by omega), e 62 20 (by unfold KI scr; omega) (by omega) (by omega)]; exact h.ac), h.kb, (fun a h1 h2 => by rw [e 43 a (by unfold KI scr; omega) (by omega) (by omega)]; exact h.ar a h1 h2), (fun a p h1 h2 h3 h4 => by rw [e 43 a (by unfold KI scr; omega) (by omega) (by omega), e 66 (6 * a + p) (by unfold KI scr; omega) (by omega) (by omega)]; exact h.av a p h1 h2 h3 h4), (by rw [e 42 4 (by unfold KI scr; omega) (by omega) (by omega), e 62 21 (by unfold KI scr; omega) (by omega) (by omega)]; exact h.im), h.ib, (fun a h1 h2 => by rw [e 44 a (by unfold KI scr; omega) (by omega) (by omega)]; exact h.ir a h1 h2), (fun a p h1 h2 h3 h4 => by rw [e 44 a (by unfold KI scr; omega) (by omega) (by omega), e 67 (6 * a + p) (by unfold KI scr; omega) (by omega) (by omega)]; exact h.iv a p h1 h2 h3 h4), b, (fun k => (h.C1 ((e 45 0 (by unfold KI scr; omega) (by omega) (by omega)).symm.trans k)).mid (fun a j x y => e a j (by unfold KI scr; omega) (by omega) (by omega))), (fun k => (h.C2 ((e 52 0 (by unfold KI scr; omega) (by omega) (by omega)).symm.trans k)).mid (fun a j x y => e a j (by unfold KI scr; omega) (by omega) (by omega))), h.gt⟩
section
variable {G : MG} {c : MC} {t T n m u q w x s ka ki : Int} {g : Int → Int}
theorem tv_tm (V : TV G c t T n m u q w x s ka ki g) : TM c T n (u + 1) g := fun a b a0 a1 b0 b1 => by
  have hb1 := V.M.b1
  rw [V.v1] at hb1
  unfold sld
  rw [V.v4, V.v1]
  by_cases h : a < u
  · rw [if_pos h]; exact V.tk a b a0 h b0 b1
  · rw [if_neg h, show a = u by omega, V.gu, (sam_all (by omega) (by omega)).2.2.2 b b0 b1]
end
theorem k_mirrored (d : Nat) (G : MG) (c : MC) (a : Int) (H : IV G c) : EvL (d + 40) mX10_mirrored [mR 16 0, mI a] (G, c) (fun r1 ν1 => EvL (d + 40) mX12_mirrored [mR 18 62, mI a] (ν1.1, ν1.2) (fun r2 ν2 => K2 G r1 r2 ν2)) := by
  obtain ⟨hr, t, z, S, V⟩ := H
  have H0 : IV0 G c := ⟨t, z, S, V⟩
  rcases V with V | ⟨T, n, m, u, q, w, x, s, ka, ki, g, V⟩
  · have I := S.ciN V
    have e1 := V.e1; have e3 := V.e3; have e4 := V.e4; have N := V.T
    have N1 : ∀ wy, up (up c 0 6 wy) 62 0 0 62 3 = -1 := fun wy => by rw [up_nj (by decide), up_na (by decide)]; exact N
    refine ev_X10_mirrored (d + 39) _ G c 0 a (by decide) ?_
    simp only [z_isTube _ _ _ _ t I e1, z_isPerson _ _ _ _ t I _ e3, z_isSlot _ _ _ _ t I _ e1, z_isTurn _ _ _ _ t I _ e4, z_areTwo _ _ _ _ t I _ _ e3, z_isPlace _ _ _ _ t I _ e1, ↓reduceIte, q_refused]
    refine ev_X12_mirrored (d + 39) _ G _ 62 a (by decide) ⟨by decide, ?_⟩
    rintro _ rfl
    simp only [q_nrefusesColours _ _ _ _ (N1 _), q_nisSlot _ _ _ _ (N1 _), q_nisPerson _ _ _ _ (N1 _), q_nisTurn _ _ _ _ (N1 _), q_nareTwo _ _ _ _ (N1 _), q_nisPlace _ _ _ _ (N1 _), N1, ↓reduceIte, q_mrefused, Int.reduceNeg, Int.reduceLT, Int.reduceLE, true_and]
    exact ⟨rfl, rfl, IV.q H0 (by decide) (agr_0 _)⟩
  · have I := S.ciT V
    have M := V.M; have hT := M.T; have ht := V.t
    have v1 := V.v1; have v3 := V.v3; have v4 := V.v4; have e0 := V.e0; have e1 := V.e1; have e3 := V.e3; have e4 := V.e4; have e5 := V.e5
    have b0 := M.b0; have b1 := M.b1; have b3 := M.b3; have b4 := M.b4
    rw [v1] at b1; rw [v3] at b3; rw [v4] at b4
    have hnp : 0 < n := by omega
    have hTn : ¬ T < 0 := by omega
    have M1 : ∀ wy, MDs G (up (up c 0 6 wy) 62 0 0) T := fun wy => (M.ki ki_up7).agr (agr_0 _)
    have r64 : ∀ wy, up (up c 0 6 wy) 62 0 0 64 = c 64 := fun wy => by funext j; rw [up_na (by decide), up_na (by decide)]
    have rT : ∀ wy k, up (up c 0 6 wy) 62 0 0 T k = c T k := fun wy k => by rw [up_na (by omega), up_na (by omega)]
    have rTT : ∀ wy (a : Int), 0 ≤ a → up (up c 0 6 wy) 62 0 0 (T + a) = c (T + a) := fun wy a ha => by funext j; rw [up_na (by omega), up_na (by omega)]
    have rS : ∀ wy a b, sld (up (up c 0 6 wy) 62 0 0) T a b = sld c T a b := fun wy a b => sld_eq (fun a j q => by rw [up_na (by omega), up_na (by omega)]) hT
    have hS : ∀ a b, 0 ≤ a → a < u → 0 ≤ b → b < n → sld c T a b = dg (g a) b := fun a b h1 h2 h3 h4 => by unfold sld; rw [v4, if_pos h2]; exact V.tk a b h1 h2 h3 h4
    have V1 : ∀ wy, TV G (up (up c 0 6 wy) 62 0 0) t T n m u q w x s ka ki g := fun wy => (V.kp ki_up7).kp (ki_agr (agr_0 _))
    skip
    refine ev_X10_mirrored (d + 39) _ G c 0 a (by decide) ?_
    simp only [q_areColours, q_isTube _ _ _ _ t I, q_isPerson _ _ _ _ t I, q_isSlot _ _ _ _ t I, q_isTurn _ _ _ _ t I, q_areTwo _ _ _ _ t I, q_isPlace _ _ _ _ t I, e0, e1, e3, e4, hnp, ↓reduceIte]
    by_cases h1 : 1 ≤ a ∧ a ≤ 9
    · simp only [h1, and_self, ↓reduceIte, I.p0, I.p5]
      (repeat (refine And.intro (by first | omega | (simp only [true_and, and_true, and_self]; omega) | (simp only [true_and, and_true, and_self])) ?_))
      rcases S.k2 with hk | hk
      · rw [if_pos hk]
        (repeat (refine And.intro (by first | omega | (simp only [true_and, and_true, and_self]; omega) | (simp only [true_and, and_true, and_self])) ?_))
        refine f_mreach _ _ V S hk (fun c V S C2 f => ?_)
        have H0 : IV0 G c := ⟨t, z, S, Or.inr ⟨T, n, m, u, q, w, x, s, ka, ki, g, V⟩⟩
        have I := S.ciT V
        have M := V.M; have hT := M.T; have ht := V.t
        have v1 := V.v1; have v3 := V.v3; have v4 := V.v4; have e0 := V.e0; have e1 := V.e1; have e3 := V.e3; have e4 := V.e4; have e5 := V.e5
        have b0 := M.b0; have b1 := M.b1; have b3 := M.b3; have b4 := M.b4
        rw [v1] at b1; rw [v3] at b3; rw [v4] at b4
        have hnp : 0 < n := by omega
        have hTn : ¬ T < 0 := by omega
        have M1 : ∀ wy, MDs G (up (up c 0 6 wy) 62 0 0) T := fun wy => (M.ki ki_up7).agr (agr_0 _)
        have r64 : ∀ wy, up (up c 0 6 wy) 62 0 0 64 = c 64 := fun wy => by funext j; rw [up_na (by decide), up_na (by decide)]
        have rT : ∀ wy k, up (up c 0 6 wy) 62 0 0 T k = c T k := fun wy k => by rw [up_na (by omega), up_na (by omega)]
        have rTT : ∀ wy (a : Int), 0 ≤ a → up (up c 0 6 wy) 62 0 0 (T + a) = c (T + a) := fun wy a ha => by funext j; rw [up_na (by omega), up_na (by omega)]
        have rS : ∀ wy a b, sld (up (up c 0 6 wy) 62 0 0) T a b = sld c T a b := fun wy a b => sld_eq (fun a j q => by rw [up_na (by omega), up_na (by omega)]) hT
        have hS : ∀ a b, 0 ≤ a → a < u → 0 ≤ b → b < n → sld c T a b = dg (g a) b := fun a b h1 h2 h3 h4 => by unfold sld; rw [v4, if_pos h2]; exact V.tk a b h1 h2 h3 h4
        have V1 : ∀ wy, TV G (up (up c 0 6 wy) 62 0 0) t T n m u q w x s ka ki g := fun wy => (V.kp ki_up7).kp (ki_agr (agr_0 _))
        obtain ⟨B2, w2, s02, Cl2⟩ := bfs_all (nt := u + 1) b1.1 b1.2 (by omega) (tv_gpm V)
        have hw2 := B2.w
        have h05 : c 0 4 = 52 := S.p5
        simp only [h05]
        (repeat (refine And.intro (by first | omega | (simp only [true_and, and_true, and_self]; omega) | (simp only [true_and, and_true, and_self])) ?_))
        have hpms : ∀ i, 0 ≤ i → i < bfs n g (u + 1) 0 0 → PM (bfs n g (u + 1) 1 i) n := fun i a b => (B2.2.1 i a b).1
        rw [q_colourCount _ _ _ _ 52 n _ C2 ⟨w2, hw2.2⟩ (by omega) b1.2 a (by omega) (by omega) (fun i x y => cyc_rg b1.1 b1.2 (hpms i x y))]
        simp only [q_fineLong]
        refine ev_X12_mirrored (d + 39) _ G _ 62 a (by decide) ⟨by decide, ?_⟩
        rintro _ rfl
        simp only [q_misSlot _ _ _ _ T (M1 _), q_misPerson _ _ _ _ T (M1 _), q_misTurn _ _ _ _ T (M1 _), q_mareTwo _ _ _ _ T (M1 _), q_misPlace _ _ _ _ T (M1 _), (M1 _).p3, hTn, rT, v1, v3, v4, ↓reduceIte, Int.reduceLE, true_and, q_mrefusesColours _ _ _ _ T (M1 _), h1, and_self, ↓reduceIte, Int.reduceLT]
        have n1 : up (up c 0 6 0) 62 0 0 T 1 = n := by rw [rT]; exact v1
        refine f_reaches _ _ G (M1 0) n1 (tv_tm (V1 0)) (tv_gpm V) (by omega) (by omega) (Or.inr ⟨rfl, by rw [rT, v4]⟩) (fun c3 B3 f3 => ?_)
        have M3 := (M1 0).frm f3
        have n3 : c3 T 1 = n := by rw [f3 T 1 (by omega) (by omega)]; exact n1
        refine q_counted _ _ G _ n T _ M3 B3 ⟨w2, hw2.2⟩ n3 hpms a (by omega) (by omega) (fun c4 A4 => ?_)
        dsimp only
        have M4 := M3.agr A4
        have e34 : ∀ b j, 80 ≤ b → c4 b j = up (up c 0 6 0) 62 0 0 b j := fun b j hb => by rw [A4 b j (by unfold scr; omega), f3 b j (by omega) (by omega)]
        have n4 : c4 T 1 = n := by rw [e34 T 1 hT]; exact n1
        refine f_reaches _ _ G M4 n4 ((show TM (up (up c 0 6 0) 62 0 0) T n u g from fun a b x y => tv_tm (V1 0) a b x (by omega)).fr e34 hT) V.gp (by omega) (by omega) (Or.inl ⟨rfl, by rw [e34 T 4 hT, rT, v4]⟩) (fun c5 B5 f5 => ?_)
        simp only [q_mgoodLong]
        have e15 : ∀ b j, KI b j → ¬ (68 ≤ b ∧ b ≤ 72) → ¬ (b = 62 ∧ j = 28) → mtr c5 0 b j = up c 0 6 0 b j := fun b j hk h68 h28 => by
          have h73 : b ≠ 73 := fun q => by unfold KI scr at hk; omega
          rw [agr_mtr c5 0 b j hk.2.2.2, f5 b j (by omega) (by omega), A4 b j hk.2.2.2, f3 b j (by omega) (by omega), agr_0 _ b j hk.2.2.2]
        have Vu := V.kp (c' := up c 0 6 0) ki_up7
        have V5 := Vu.fm e15 (B5.ki (ki_agr (agr_mtr c5 0)))
        have S5 := (S.kp (c' := up c 0 6 0) ki_up7).fm e15
        have h07 : mtr c5 0 0 6 = 0 := by
          rw [agr_mtr c5 0 0 6 (by unfold scr; omega), f5 0 6 (by omega) (by omega), A4 0 6 (by unfold scr; omega), f3 0 6 (by omega) (by omega), up_na (by decide), up_eq]
        have hIV : IV G (mtr c5 0) := ⟨⟨by rw [mtr_t, h07], by rw [mtr_w, h07]; rfl⟩, t, z, S5, Or.inr ⟨T, n, m, u, q, w, x, s, ka, ki, g, V5⟩⟩
        exact ⟨rfl, rfl, hIV⟩
      · rw [if_neg (by omega)]
        (repeat (refine And.intro (by first | omega | (simp only [true_and, and_true, and_self]; omega) | (simp only [true_and, and_true, and_self])) ?_))
        have C2 := V.C2 hk
        have H0 : IV0 G c := ⟨t, z, S, Or.inr ⟨T, n, m, u, q, w, x, s, ka, ki, g, V⟩⟩
        have I := S.ciT V
        have M := V.M; have hT := M.T; have ht := V.t
        have v1 := V.v1; have v3 := V.v3; have v4 := V.v4; have e0 := V.e0; have e1 := V.e1; have e3 := V.e3; have e4 := V.e4; have e5 := V.e5
        have b0 := M.b0; have b1 := M.b1; have b3 := M.b3; have b4 := M.b4
        rw [v1] at b1; rw [v3] at b3; rw [v4] at b4
        have hnp : 0 < n := by omega
        have hTn : ¬ T < 0 := by omega
        have M1 : ∀ wy, MDs G (up (up c 0 6 wy) 62 0 0) T := fun wy => (M.ki ki_up7).agr (agr_0 _)
        have r64 : ∀ wy, up (up c 0 6 wy) 62 0 0 64 = c 64 := fun wy => by funext j; rw [up_na (by decide), up_na (by decide)]
        have rT : ∀ wy k, up (up c 0 6 wy) 62 0 0 T k = c T k := fun wy k => by rw [up_na (by omega), up_na (by omega)]
        have rTT : ∀ wy (a : Int), 0 ≤ a → up (up c 0 6 wy) 62 0 0 (T + a) = c (T + a) := fun wy a ha => by funext j; rw [up_na (by omega), up_na (by omega)]
        have rS : ∀ wy a b, sld (up (up c 0 6 wy) 62 0 0) T a b = sld c T a b := fun wy a b => sld_eq (fun a j q => by rw [up_na (by omega), up_na (by omega)]) hT
        have hS : ∀ a b, 0 ≤ a → a < u → 0 ≤ b → b < n → sld c T a b = dg (g a) b := fun a b h1 h2 h3 h4 => by unfold sld; rw [v4, if_pos h2]; exact V.tk a b h1 h2 h3 h4
        have V1 : ∀ wy, TV G (up (up c 0 6 wy) 62 0 0) t T n m u q w x s ka ki g := fun wy => (V.kp ki_up7).kp (ki_agr (agr_0 _))
        obtain ⟨B2, w2, s02, Cl2⟩ := bfs_all (nt := u + 1) b1.1 b1.2 (by omega) (tv_gpm V)
        have hw2 := B2.w
        have hpms : ∀ i, 0 ≤ i → i < bfs n g (u + 1) 0 0 → PM (bfs n g (u + 1) 1 i) n := fun i a b => (B2.2.1 i a b).1
        rw [q_colourCount _ _ _ _ 52 n _ C2 ⟨w2, hw2.2⟩ (by omega) b1.2 a (by omega) (by omega) (fun i x y => cyc_rg b1.1 b1.2 (hpms i x y))]
        simp only [q_fineLong]
        refine ev_X12_mirrored (d + 39) _ G _ 62 a (by decide) ⟨by decide, ?_⟩
        rintro _ rfl
        simp only [q_misSlot _ _ _ _ T (M1 _), q_misPerson _ _ _ _ T (M1 _), q_misTurn _ _ _ _ T (M1 _), q_mareTwo _ _ _ _ T (M1 _), q_misPlace _ _ _ _ T (M1 _), (M1 _).p3, hTn, rT, v1, v3, v4, ↓reduceIte, Int.reduceLE, true_and, q_mrefusesColours _ _ _ _ T (M1 _), h1, and_self, ↓reduceIte, Int.reduceLT]
        have n1 : up (up c 0 6 0) 62 0 0 T 1 = n := by rw [rT]; exact v1
        refine f_reaches _ _ G (M1 0) n1 (tv_tm (V1 0)) (tv_gpm V) (by omega) (by omega) (Or.inr ⟨rfl, by rw [rT, v4]⟩) (fun c3 B3 f3 => ?_)
        have M3 := (M1 0).frm f3
        have n3 : c3 T 1 = n := by rw [f3 T 1 (by omega) (by omega)]; exact n1
        refine q_counted _ _ G _ n T _ M3 B3 ⟨w2, hw2.2⟩ n3 hpms a (by omega) (by omega) (fun c4 A4 => ?_)
        dsimp only
        have M4 := M3.agr A4
        have e34 : ∀ b j, 80 ≤ b → c4 b j = up (up c 0 6 0) 62 0 0 b j := fun b j hb => by rw [A4 b j (by unfold scr; omega), f3 b j (by omega) (by omega)]
        have n4 : c4 T 1 = n := by rw [e34 T 1 hT]; exact n1
        refine f_reaches _ _ G M4 n4 ((show TM (up (up c 0 6 0) 62 0 0) T n u g from fun a b x y => tv_tm (V1 0) a b x (by omega)).fr e34 hT) V.gp (by omega) (by omega) (Or.inl ⟨rfl, by rw [e34 T 4 hT, rT, v4]⟩) (fun c5 B5 f5 => ?_)
        simp only [q_mgoodLong]
        have e15 : ∀ b j, KI b j → ¬ (68 ≤ b ∧ b ≤ 72) → ¬ (b = 62 ∧ j = 28) → mtr c5 0 b j = up c 0 6 0 b j := fun b j hk h68 h28 => by
          have h73 : b ≠ 73 := fun q => by unfold KI scr at hk; omega
          rw [agr_mtr c5 0 b j hk.2.2.2, f5 b j (by omega) (by omega), A4 b j hk.2.2.2, f3 b j (by omega) (by omega), agr_0 _ b j hk.2.2.2]
        have Vu := V.kp (c' := up c 0 6 0) ki_up7
        have V5 := Vu.fm e15 (B5.ki (ki_agr (agr_mtr c5 0)))
        have S5 := (S.kp (c' := up c 0 6 0) ki_up7).fm e15
        have h07 : mtr c5 0 0 6 = 0 := by
          rw [agr_mtr c5 0 0 6 (by unfold scr; omega), f5 0 6 (by omega) (by omega), A4 0 6 (by unfold scr; omega), f3 0 6 (by omega) (by omega), up_na (by decide), up_eq]
        have hIV : IV G (mtr c5 0) := ⟨⟨by rw [mtr_t, h07], by rw [mtr_w, h07]; rfl⟩, t, z, S5, Or.inr ⟨T, n, m, u, q, w, x, s, ka, ki, g, V5⟩⟩
        exact ⟨rfl, rfl, hIV⟩
    · simp only [h1, q_areColours, and_self, ↓reduceIte, q_refused]
      refine ev_X12_mirrored (d + 39) _ G _ 62 a (by decide) ⟨by decide, ?_⟩
      rintro _ rfl
      simp only [q_mrefusesColours _ _ _ _ T (M1 _), Int.reduceLT, q_misSlot _ _ _ _ T (M1 _), q_misPerson _ _ _ _ T (M1 _), q_misTurn _ _ _ _ T (M1 _), q_mareTwo _ _ _ _ T (M1 _), q_misPlace _ _ _ _ T (M1 _), (M1 _).p3, hTn, rT, v1, v3, v4, ↓reduceIte, Int.reduceLE, true_and, h1, and_self, ↓reduceIte, q_mrefused]
      exact ⟨rfl, rfl, IV.q H0 (by decide) (agr_0 _)⟩
