def cpF (a n : Int) : Nat → Int → Int → Int
  | 0, _, s => s
  | j + 1, e, s => cpF a n j (e + 1) (if o_rem a e = 0 then (if o_rem n e = 0 then e else s) else s)
def cmp (a n : Int) : Int := cpF a n (n - 1).toNat 2 1
def frd (n k : Int) : Int := fo (fun b s => w64 (s + pwl k (cmp b n))) n.toNat 1 0
def stl (b n : Int) : Int := fo (fun i s => if o_rem (w32 (w32 (b + n) - i)) n = i then w32 (s + 1) else w32 (s + 0)) n.toNat 0 0
def ovr (n k : Int) : Int := if o_rem n 2 = 1 then w64 (n * pwl k (o_div (w32 (n + 1)) 2)) else w64 (o_div n 2 * w64 (pwl k (w32 (o_div n 2 + 1)) + pwl k (o_div n 2)))
theorem neck_chk : alln 13 (fun n => alln n (fun b => decide (cmp (b + 1 : Nat) n = (Int.gcd (n : Int) (b + 1 : Nat) : Int)) && decide (1 ≤ cmp (b + 1 : Nat) n) && decide (cmp (b + 1 : Nat) n ≤ 12))) = true := by decide +kernel
theorem over_chk : alln 12 (fun n => alln 10 (fun k => decide (ovr (n + 1 : Nat) k = fo (fun b s => w64 (s + pwl k (o_div (w32 ((n + 1 : Nat) + stl b (n + 1 : Nat))) 2))) (n + 1) 0 0) && decide (0 ≤ ovr (n + 1 : Nat) k) && decide (ovr (n + 1 : Nat) k ≤ 4000000000000))) = true := by decide +kernel
theorem stl_chk : alln 12 (fun n => alln 12 (fun b => decide (0 ≤ stl b (n + 1 : Nat)) && decide (stl b (n + 1 : Nat) ≤ 12))) = true := by decide +kernel
theorem cmp_eq {n b : Int} (b1 : 1 ≤ b) (bn : b ≤ n) (n12 : n ≤ 12) : cmp b n = (Int.gcd n b : Int) ∧ 1 ≤ cmp b n ∧ cmp b n ≤ 12 := by
  obtain ⟨n, rfl⟩ := Int.eq_ofNat_of_zero_le (show 0 ≤ n by omega)
  obtain ⟨b', hb⟩ := Int.eq_ofNat_of_zero_le (show 0 ≤ b - 1 by omega)
  have e : b = ((b' + 1 : Nat) : Int) := by omega
  subst e
  have := alln_at (alln_at neck_chk n (by omega)) b' (by omega)
  simp only [Bool.and_eq_true, decide_eq_true_eq] at this
  exact ⟨this.1.1, this.1.2, this.2⟩
section
variable (d : Nat) (P : Int → MM → Prop) (G : MG) (c : MC)
theorem l_commonPart (a n : Int) (n12 : n ≤ 12) : ∀ (j : Nat) (e s : Int), 2 ≤ e → e + j = max (n + 1) 2 → P (cpF a n j e s) (G, c) → At (d + 1) mX0_commonPart 4 [mI a, mI n, mI s, mI e] [] (G, c) (QI P) := by
  intro j
  induction j with
  | zero => intro e s e2 he hP; apply wp_X0_commonPart_4; rw [if_pos (by omega)]; exact hP
  | succ j ih =>
    intro e s e2 he hP
    have we : w32 (e + 1) = e + 1 := w32i (by omega) (by omega)
    apply wp_X0_commonPart_4
    rw [if_neg (by omega), we]
    refine ⟨by omega, ?_⟩
    simp only [cpF] at hP
    by_cases h1 : o_rem a e = 0
    · rw [if_pos h1] at hP ⊢
      refine ⟨by omega, ?_⟩
      by_cases h2 : o_rem n e = 0
      · rw [if_pos h2] at hP ⊢; exact ih _ _ (by omega) (by omega) hP
      · rw [if_neg h2] at hP ⊢; exact ih _ _ (by omega) (by omega) hP
    · rw [if_neg h1] at hP ⊢; exact ih _ _ (by omega) (by omega) hP
theorem q_commonPart (a n : Int) (n1 : 1 ≤ n) (n12 : n ≤ 12) : EvI (d + 1) mX0_commonPart [mI a, mI n] (G, c) P = P (cmp a n) (G, c) := evI_eq (ev_X0_commonPart d _ G c a n (l_commonPart d _ G c a n n12 (n - 1).toNat 2 1 (by omega) (by omega) ⟨rfl, rfl⟩)) P
theorem l_frd (n k : Int) (n1 : 1 ≤ n) (n12 : n ≤ 12) : ∀ (j : Nat) (b s : Int), 1 ≤ b → b + j = n + 1 → P (fo (fun b s => w64 (s + pwl k (cmp b n))) j b s) (G, c) → At (d + 2) mX0_fixedByGoingRound 5 [mI n, mI k, mL s, MU, mI b] [] (G, c) (QL P) := by
  intro j
  induction j with
  | zero => intro b s b1 hb hP; apply wp_X0_fixedByGoingRound_5; rw [if_pos (by omega)]; exact hP
  | succ j ih =>
    intro b s b1 hb hP
    have wb : w32 (b + 1) = b + 1 := w32i (by omega) (by omega)
    have hc := cmp_eq b1 (show b ≤ n by omega) n12
    apply wp_X0_fixedByGoingRound_5
    rw [if_neg (by omega)]
    simp only [q_commonPart _ _ _ _ b n n1 n12, q_cpower _ _ _ _ k _ (show 0 ≤ cmp b n by omega) (show cmp b n ≤ 1000 by omega), wb]
    exact ih _ _ (by omega) (by omega) hP
theorem q_frd (n k : Int) (n1 : 1 ≤ n) (n12 : n ≤ 12) : EvL (d + 2) mX0_fixedByGoingRound [mI n, mI k] (G, c) P = P (frd n k) (G, c) := evL_eq (ev_X0_fixedByGoingRound (d + 1) _ G c n k (l_frd d _ G c n k n1 n12 n.toNat 1 0 (by omega) (by omega) ⟨rfl, rfl⟩)) P
theorem l_around (n k : Int) (n1 : 1 ≤ n) (n12 : n ≤ 12) : ∀ (j : Nat) (b s : Int), 1 ≤ b → b + j = n + 1 → P (fo (fun b s => w64 (s + pwl k (cmp b n))) j b s) (G, c) → At (d + 2) mX12_aroundSum 5 [mI n, mI k, mL s, MU, mI b] [] (G, c) (QL P) := by
  intro j
  induction j with
  | zero => intro b s b1 hb hP; apply wp_X12_aroundSum_5; rw [if_pos (by omega)]; exact hP
  | succ j ih =>
    intro b s b1 hb hP
    have wb : w32 (b + 1) = b + 1 := w32i (by omega) (by omega)
    have hc := cmp_eq b1 (show b ≤ n by omega) n12
    apply wp_X12_aroundSum_5
    rw [if_neg (by omega)]
    simp only [q_common _ _ _ _ n b (show 0 ≤ n by omega) (show n < 4611686018427387904 by omega) (show 0 ≤ b by omega) (show b < 4611686018427387904 by omega), ← hc.1, w32i (x := cmp b n) (show -2147483648 ≤ cmp b n by omega) (show cmp b n < 2147483648 by omega), q_mpower _ _ _ _ k _ (show 0 ≤ cmp b n by omega) (show cmp b n ≤ 1000 by omega), wb]
    exact ih _ _ (by omega) (by omega) hP
theorem q_around (n k : Int) (n1 : 1 ≤ n) (n12 : n ≤ 12) : EvL (d + 2) mX12_aroundSum [mI n, mI k] (G, c) P = P (frd n k) (G, c) := evL_eq (ev_X12_aroundSum (d + 1) _ G c n k (l_around d _ G c n k n1 n12 n.toNat 1 0 (by omega) (by omega) ⟨rfl, rfl⟩)) P
theorem q_over (n k : Int) (n1 : 1 ≤ n) (n12 : n ≤ 12) : EvL (d + 2) mX0_fixedByGoingOver [mI n, mI k] (G, c) P = P (ovr n k) (G, c) := evL_eq (ev_X0_fixedByGoingOver (d + 1) _ G c n k (by
  have h1 : o_div n 2 = n / 2 := o_div_of (by omega) (by omega) (by omega) (by omega)
  have h2 : w32 (n + 1) = n + 1 := w32i (by omega) (by omega)
  have h3 : o_div (n + 1) 2 = (n + 1) / 2 := o_div_of (by omega) (by omega) (by omega) (by omega)
  have h4 : w32 (n / 2 + 1) = n / 2 + 1 := w32i (by omega) (by omega)
  unfold ovr
  simp only [h1, h2, h3, h4, q_cpower _ _ _ _ k ((n + 1) / 2) (show 0 ≤ (n + 1) / 2 by omega) (show (n + 1) / 2 ≤ 1000 by omega), q_cpower _ _ _ _ k (n / 2) (show 0 ≤ n / 2 by omega) (show n / 2 ≤ 1000 by omega), q_cpower _ _ _ _ k (n / 2 + 1) (show 0 ≤ n / 2 + 1 by omega) (show n / 2 + 1 ≤ 1000 by omega)]
  refine ⟨by omega, ?_⟩
  split
  · exact ⟨by omega, by simp⟩
  · exact ⟨by omega, by omega, by omega, by simp⟩)) P
theorem l_br45 (n k b r : Int) (n1 : 1 ≤ n) (n12 : n ≤ 12) (b0 : 0 ≤ b) (b1 : b < n) (h : At (d + 3) mX12_bracelets 33 [mR 18 62, mI n, mI k, MU, mL (w64 (r + pwl k (o_div (w32 (n + stl b n)) 2))), MU, mI (b + 1), MU, MU] [] (G, c) (QL P)) : ∀ (j : Nat) (i s : Int), 0 ≤ i → i + j = n → fo (fun i s => if o_rem (w32 (w32 (b + n) - i)) n = i then w32 (s + 1) else w32 (s + 0)) j i s = stl b n → At (d + 3) mX12_bracelets 45 [mR 18 62, mI n, mI k, MU, mL r, MU, mI b, mI s, mI i] [] (G, c) (QL P) := by
  intro j
  induction j with
  | zero =>
    intro i s i0 hi e
    have wb : w32 (b + 1) = b + 1 := w32i (by omega) (by omega)
    have hs : 0 ≤ stl b n ∧ stl b n ≤ 12 := by
      obtain ⟨n', hn⟩ := Int.eq_ofNat_of_zero_le (show 0 ≤ n - 1 by omega)
      obtain ⟨b', rfl⟩ := Int.eq_ofNat_of_zero_le b0
      have e' : n = ((n' + 1 : Nat) : Int) := by omega
      subst e'
      have := alln_at (alln_at stl_chk n' (by omega)) b' (by omega)
      simpa using this
    have e2 : s = stl b n := e
    have hw : w32 (n + stl b n) = n + stl b n := w32i (by omega) (by omega)
    have hd : o_div (n + stl b n) 2 = (n + stl b n) / 2 := o_div_of (by omega) (by omega) (by omega) (by omega)
    rw [hw, hd] at h
    apply wp_X12_bracelets_45
    rw [if_neg (by omega), e2, hw, hd, q_mpower _ _ _ _ k _ (by omega) (by omega), wb]
    exact ⟨by omega, h⟩
  | succ j ih =>
    intro i s i0 hi e
    have wi : w32 (i + 1) = i + 1 := w32i (by omega) (by omega)
    apply wp_X12_bracelets_45
    rw [if_pos (by omega), wi]
    refine ⟨by omega, ?_⟩
    simp only [fo] at e
    split <;> rename_i hc
    · rw [if_pos hc] at e; exact ih _ _ (by omega) (by omega) e
    · rw [if_neg hc] at e; exact ih _ _ (by omega) (by omega) e
theorem l_br33 (n k v : Int) (n1 : 1 ≤ n) (n12 : n ≤ 12) (hP : P (o_ldiv v (w32 (2 * n))) (G, mtr c 0)) : ∀ (j : Nat) (b r : Int), 0 ≤ b → b + j = n → fo (fun b s => w64 (s + pwl k (o_div (w32 (n + stl b n)) 2))) j b r = v → At (d + 3) mX12_bracelets 33 [mR 18 62, mI n, mI k, MU, mL r, MU, mI b, MU, MU] [] (G, c) (QL P) := by
  intro j
  induction j with
  | zero =>
    intro b r b0 hb e
    apply wp_X12_bracelets_33
    rw [if_neg (by omega), q_mgoodLong, show r = v from e]
    have : w32 (2 * n) = 2 * n := w32i (by omega) (by omega)
    exact ⟨by omega, hP⟩
  | succ j ih =>
    intro b r b0 hb e
    apply wp_X12_bracelets_33
    rw [if_pos (by omega)]
    exact l_br45 d P G c n k b r n1 n12 b0 (by omega) (ih _ _ (by omega) (by omega) e) n.toNat 0 0 (by omega) (by omega) rfl
theorem w64_fo (f : Int → Int) : ∀ (j : Nat) (i s r : Int), fo (fun b s => w64 (s + f b)) j i (w64 (r + s)) = w64 (r + fo (fun b s => w64 (s + f b)) j i (w64 s)) := by
  have hw : ∀ a b : Int, w64 (w64 a + b) = w64 (a + b) := fun a b => by unfold w64; omega
  have hw2 : ∀ a b : Int, w64 (a + w64 b) = w64 (a + b) := fun a b => by unfold w64; omega
  intro j
  induction j with
  | zero => intro i s r; simp only [fo]; rw [hw2]
  | succ j ih =>
    intro i s r
    simp only [fo]
    rw [hw, hw, Int.add_assoc]
    exact ih _ _ _
end
theorem k_necklaces (d : Nat) (G : MG) (c : MC) (a b : Int) (H : IV G c) : EvL (d + 40) mX10_necklaces [mR 16 0, mI a, mI b] (G, c) (fun r1 ν1 => EvL (d + 40) mX12_necklaces [mR 18 62, mI a, mI b] (ν1.1, ν1.2) (fun r2 ν2 => K2 G r1 r2 ν2)) := by
  obtain ⟨hr, t, z, S, V⟩ := H
  have H0 : IV0 G c := ⟨t, z, S, V⟩
  rcases V with V | ⟨T, n, m, u, q, w, x, s, ka, ki, g, V⟩
  · have I := S.ciN V
    have e1 := V.e1; have e3 := V.e3; have e4 := V.e4; have N := V.T
    have N1 : ∀ wy, up (up c 0 6 wy) 62 0 0 62 3 = -1 := fun wy => by rw [up_nj (by decide), up_na (by decide)]; exact N
    refine ev_X10_necklaces (d + 39) _ G c 0 a b (by decide) ?_
    simp only [z_isTube _ _ _ _ t I e1, z_isPerson _ _ _ _ t I _ e3, z_isSlot _ _ _ _ t I _ e1, z_isTurn _ _ _ _ t I _ e4, z_areTwo _ _ _ _ t I _ _ e3, z_isPlace _ _ _ _ t I _ e1, ↓reduceIte, q_refused]
    refine ev_X12_necklaces (d + 39) _ G _ 62 a b (by decide) ⟨by decide, ?_⟩
    rintro _ rfl
    simp only [q_nrefusesNecklace _ _ _ _ (N1 _), q_nisSlot _ _ _ _ (N1 _), q_nisPerson _ _ _ _ (N1 _), q_nisTurn _ _ _ _ (N1 _), q_nareTwo _ _ _ _ (N1 _), q_nisPlace _ _ _ _ (N1 _), N1, ↓reduceIte, q_mrefused, Int.reduceNeg, Int.reduceLT, Int.reduceLE, true_and]
    exact ⟨rfl, rfl, IV.q H0 (by decide) (agr_0 _)⟩
  · have I := S.ciT V
    have M := V.M; have hT := M.T; have ht := V.t
    have v1 := V.v1; have v3 := V.v3; have v4 := V.v4; have e0 := V.e0; have e1 := V.e1; have e3 := V.e3; have e4 := V.e4; have e5 := V.e5
    have b0 := M.b0; have b1 := M.b1; have b3 := M.b3; have b4 := M.b4
    rw [v1] at b1; rw [v3] at b3; rw [v4] at b4
    have hnp : 0 < n := by omega
    have hTn : ¬ T < 0 := by omega
    have M1 : ∀ wy, MDs G (up (up c 0 6 wy) 62 0 0) T := fun wy => (M.ki ki_up7).agr (agr_0 _)
    have r64 : ∀ wy, up (up c 0 6 wy) 62 0 0 64 = c 64 := fun wy => by funext j; rw [up_na (by decide), up_na (by decide)]
    have rT : ∀ wy k, up (up c 0 6 wy) 62 0 0 T k = c T k := fun wy k => by rw [up_na (by omega), up_na (by omega)]
    have rTT : ∀ wy (a : Int), 0 ≤ a → up (up c 0 6 wy) 62 0 0 (T + a) = c (T + a) := fun wy a ha => by funext j; rw [up_na (by omega), up_na (by omega)]
    have rS : ∀ wy a b, sld (up (up c 0 6 wy) 62 0 0) T a b = sld c T a b := fun wy a b => sld_eq (fun a j q => by rw [up_na (by omega), up_na (by omega)]) hT
    have hS : ∀ a b, 0 ≤ a → a < u → 0 ≤ b → b < n → sld c T a b = dg (g a) b := fun a b h1 h2 h3 h4 => by unfold sld; rw [v4, if_pos h2]; exact V.tk a b h1 h2 h3 h4
    have V1 : ∀ wy, TV G (up (up c 0 6 wy) 62 0 0) t T n m u q w x s ka ki g := fun wy => (V.kp ki_up7).kp (ki_agr (agr_0 _))
    skip
    refine ev_X10_necklaces (d + 39) _ G c 0 a b (by decide) ?_
    simp only [q_areBeads, q_areColours, q_isTube _ _ _ _ t I, q_isPerson _ _ _ _ t I, q_isSlot _ _ _ _ t I, q_isTurn _ _ _ _ t I, q_areTwo _ _ _ _ t I, q_isPlace _ _ _ _ t I, e0, e1, e3, e4, hnp, ↓reduceIte]
    by_cases h1 : 1 ≤ a ∧ a ≤ 12
    · by_cases h2 : 1 ≤ b ∧ b ≤ 9
      · simp only [h1, h2, and_self, ↓reduceIte, q_frd _ _ _ _ a b h1.1 h1.2, q_fineLong]
        (repeat (refine And.intro (by first | omega | (simp only [true_and, and_true, and_self]; omega) | (simp only [true_and, and_true, and_self])) ?_))
        refine ev_X12_necklaces (d + 39) _ G _ 62 a b (by decide) ⟨by decide, ?_⟩
        rintro _ rfl
        simp only [q_misSlot _ _ _ _ T (M1 _), q_misPerson _ _ _ _ T (M1 _), q_misTurn _ _ _ _ T (M1 _), q_mareTwo _ _ _ _ T (M1 _), q_misPlace _ _ _ _ T (M1 _), (M1 _).p3, hTn, rT, v1, v3, v4, ↓reduceIte, Int.reduceLE, true_and, q_mrefusesNecklace _ _ _ _ T (M1 _), h1, h2, and_self, ↓reduceIte, Int.reduceLT, q_around _ _ _ _ a b h1.1 h1.2, q_mgoodLong]
        (repeat (refine And.intro (by first | omega | (simp only [true_and, and_true, and_self]; omega) | (simp only [true_and, and_true, and_self])) ?_))
        exact ⟨rfl, rfl, IV.q H0 (by decide) (agr_0 _)⟩
      · simp only [h1, h2, q_areBeads, q_areColours, and_self, ↓reduceIte, q_refused]
        refine ev_X12_necklaces (d + 39) _ G _ 62 a b (by decide) ⟨by decide, ?_⟩
        rintro _ rfl
        simp only [q_mrefusesNecklace _ _ _ _ T (M1 _), Int.reduceLT, and_false, false_and, q_misSlot _ _ _ _ T (M1 _), q_misPerson _ _ _ _ T (M1 _), q_misTurn _ _ _ _ T (M1 _), q_mareTwo _ _ _ _ T (M1 _), q_misPlace _ _ _ _ T (M1 _), (M1 _).p3, hTn, rT, v1, v3, v4, ↓reduceIte, Int.reduceLE, true_and, h1, h2, and_self, ↓reduceIte, q_mrefused]
        exact ⟨rfl, rfl, IV.q H0 (by decide) (agr_0 _)⟩
    · simp only [h1, q_areBeads, q_areColours, and_self, ↓reduceIte, q_refused]
      refine ev_X12_necklaces (d + 39) _ G _ 62 a b (by decide) ⟨by decide, ?_⟩
      rintro _ rfl
      simp only [q_mrefusesNecklace _ _ _ _ T (M1 _), Int.reduceLT, and_false, false_and, q_misSlot _ _ _ _ T (M1 _), q_misPerson _ _ _ _ T (M1 _), q_misTurn _ _ _ _ T (M1 _), q_mareTwo _ _ _ _ T (M1 _), q_misPlace _ _ _ _ T (M1 _), (M1 _).p3, hTn, rT, v1, v3, v4, ↓reduceIte, Int.reduceLE, true_and, h1, and_self, ↓reduceIte, q_mrefused]
      exact ⟨rfl, rfl, IV.q H0 (by decide) (agr_0 _)⟩
theorem k_bracelets (d : Nat) (G : MG) (c : MC) (a b : Int) (H : IV G c) : EvL (d + 40) mX10_bracelets [mR 16 0, mI a, mI b] (G, c) (fun r1 ν1 => EvL (d + 40) mX12_bracelets [mR 18 62, mI a, mI b] (ν1.1, ν1.2) (fun r2 ν2 => K2 G r1 r2 ν2)) := by
  obtain ⟨hr, t, z, S, V⟩ := H
  have H0 : IV0 G c := ⟨t, z, S, V⟩
  rcases V with V | ⟨T, n, m, u, q, w, x, s, ka, ki, g, V⟩
  · have I := S.ciN V
    have e1 := V.e1; have e3 := V.e3; have e4 := V.e4; have N := V.T
    have N1 : ∀ wy, up (up c 0 6 wy) 62 0 0 62 3 = -1 := fun wy => by rw [up_nj (by decide), up_na (by decide)]; exact N
    refine ev_X10_bracelets (d + 39) _ G c 0 a b (by decide) ?_
    simp only [z_isTube _ _ _ _ t I e1, z_isPerson _ _ _ _ t I _ e3, z_isSlot _ _ _ _ t I _ e1, z_isTurn _ _ _ _ t I _ e4, z_areTwo _ _ _ _ t I _ _ e3, z_isPlace _ _ _ _ t I _ e1, ↓reduceIte, q_refused]
    refine ev_X12_bracelets (d + 39) _ G _ 62 a b (by decide) ⟨by decide, ?_⟩
    rintro _ rfl
    simp only [q_nrefusesNecklace _ _ _ _ (N1 _), q_nisSlot _ _ _ _ (N1 _), q_nisPerson _ _ _ _ (N1 _), q_nisTurn _ _ _ _ (N1 _), q_nareTwo _ _ _ _ (N1 _), q_nisPlace _ _ _ _ (N1 _), N1, ↓reduceIte, q_mrefused, Int.reduceNeg, Int.reduceLT, Int.reduceLE, true_and]
    exact ⟨rfl, rfl, IV.q H0 (by decide) (agr_0 _)⟩
  · have I := S.ciT V
    have M := V.M; have hT := M.T; have ht := V.t
    have v1 := V.v1; have v3 := V.v3; have v4 := V.v4; have e0 := V.e0; have e1 := V.e1; have e3 := V.e3; have e4 := V.e4; have e5 := V.e5
    have b0 := M.b0; have b1 := M.b1; have b3 := M.b3; have b4 := M.b4
    rw [v1] at b1; rw [v3] at b3; rw [v4] at b4
    have hnp : 0 < n := by omega
    have hTn : ¬ T < 0 := by omega
    have M1 : ∀ wy, MDs G (up (up c 0 6 wy) 62 0 0) T := fun wy => (M.ki ki_up7).agr (agr_0 _)
    have r64 : ∀ wy, up (up c 0 6 wy) 62 0 0 64 = c 64 := fun wy => by funext j; rw [up_na (by decide), up_na (by decide)]
    have rT : ∀ wy k, up (up c 0 6 wy) 62 0 0 T k = c T k := fun wy k => by rw [up_na (by omega), up_na (by omega)]
    have rTT : ∀ wy (a : Int), 0 ≤ a → up (up c 0 6 wy) 62 0 0 (T + a) = c (T + a) := fun wy a ha => by funext j; rw [up_na (by omega), up_na (by omega)]
    have rS : ∀ wy a b, sld (up (up c 0 6 wy) 62 0 0) T a b = sld c T a b := fun wy a b => sld_eq (fun a j q => by rw [up_na (by omega), up_na (by omega)]) hT
    have hS : ∀ a b, 0 ≤ a → a < u → 0 ≤ b → b < n → sld c T a b = dg (g a) b := fun a b h1 h2 h3 h4 => by unfold sld; rw [v4, if_pos h2]; exact V.tk a b h1 h2 h3 h4
    have V1 : ∀ wy, TV G (up (up c 0 6 wy) 62 0 0) t T n m u q w x s ka ki g := fun wy => (V.kp ki_up7).kp (ki_agr (agr_0 _))
    skip
    refine ev_X10_bracelets (d + 39) _ G c 0 a b (by decide) ?_
    simp only [q_areBeads, q_areColours, q_isTube _ _ _ _ t I, q_isPerson _ _ _ _ t I, q_isSlot _ _ _ _ t I, q_isTurn _ _ _ _ t I, q_areTwo _ _ _ _ t I, q_isPlace _ _ _ _ t I, e0, e1, e3, e4, hnp, ↓reduceIte]
    by_cases h1 : 1 ≤ a ∧ a ≤ 12
    · by_cases h2 : 1 ≤ b ∧ b ≤ 9
      · have w2a : w32 (2 * a) = 2 * a := w32i (by omega) (by omega)
        simp only [h1, h2, and_self, ↓reduceIte, q_frd _ _ _ _ a b h1.1 h1.2, q_over _ _ _ _ a b h1.1 h1.2, q_fineLong]
        refine And.intro (by omega) ?_
        refine ev_X12_bracelets (d + 39) _ G _ 62 a b (by decide) ⟨by decide, ?_⟩
        rintro _ rfl
        simp only [q_misSlot _ _ _ _ T (M1 _), q_misPerson _ _ _ _ T (M1 _), q_misTurn _ _ _ _ T (M1 _), q_mareTwo _ _ _ _ T (M1 _), q_misPlace _ _ _ _ T (M1 _), (M1 _).p3, hTn, rT, v1, v3, v4, ↓reduceIte, Int.reduceLE, true_and, q_mrefusesNecklace _ _ _ _ T (M1 _), h1, h2, and_self, ↓reduceIte, Int.reduceLT, q_around _ _ _ _ a b h1.1 h1.2]
        refine l_br33 (d + 37) _ G _ a b (w64 (frd a b + ovr a b)) h1.1 h1.2 ⟨rfl, rfl, IV.q H0 (by decide) (agr_0 _)⟩ a.toNat 0 (frd a b) (by omega) (by omega) ?_
        have hfw : w64 (frd a b) = frd a b := by
          have hww : ∀ (f : Int → Int) (j : Nat) (i s : Int), fo (fun b s => w64 (s + f b)) (j + 1) i s = w64 (fo (fun b s => w64 (s + f b)) (j + 1) i s) := fun f j i s => by
            rw [fo_succ]
            unfold w64
            omega
          unfold frd
          obtain ⟨j, hj⟩ : ∃ j, a.toNat = j + 1 := ⟨a.toNat - 1, by omega⟩
          rw [hj]
          exact (hww _ _ _ _).symm
        have hov : ovr a b = fo (fun i s => w64 (s + pwl b (o_div (w32 (a + stl i a)) 2))) a.toNat 0 0 := by
          obtain ⟨n', hn⟩ := Int.eq_ofNat_of_zero_le (show 0 ≤ a - 1 by omega)
          obtain ⟨k', hk⟩ := Int.eq_ofNat_of_zero_le (show 0 ≤ b by omega)
          have e' : a = ((n' + 1 : Nat) : Int) := by omega
          have := alln_at (alln_at over_chk n' (by omega)) k' (by omega)
          simp only [Bool.and_eq_true, decide_eq_true_eq] at this
          rw [hk, e', this.1.1]
          rfl
        have h0 := w64_fo (fun i => pwl b (o_div (w32 (a + stl i a)) 2)) a.toNat 0 0 (frd a b)
        rw [Int.add_zero, hfw, show w64 0 = 0 from by decide] at h0
        rw [h0, hov]
      · simp only [h1, h2, q_areBeads, q_areColours, and_self, ↓reduceIte, q_refused]
        refine ev_X12_bracelets (d + 39) _ G _ 62 a b (by decide) ⟨by decide, ?_⟩
        rintro _ rfl
        simp only [q_mrefusesNecklace _ _ _ _ T (M1 _), Int.reduceLT, and_false, false_and, q_misSlot _ _ _ _ T (M1 _), q_misPerson _ _ _ _ T (M1 _), q_misTurn _ _ _ _ T (M1 _), q_mareTwo _ _ _ _ T (M1 _), q_misPlace _ _ _ _ T (M1 _), (M1 _).p3, hTn, rT, v1, v3, v4, ↓reduceIte, Int.reduceLE, true_and, h1, h2, and_self, ↓reduceIte, q_mrefused]
        exact ⟨rfl, rfl, IV.q H0 (by decide) (agr_0 _)⟩
    · simp only [h1, q_areBeads, q_areColours, and_self, ↓reduceIte, q_refused]
      refine ev_X12_bracelets (d + 39) _ G _ 62 a b (by decide) ⟨by decide, ?_⟩
      rintro _ rfl
      simp only [q_mrefusesNecklace _ _ _ _ T (M1 _), Int.reduceLT, and_false, false_and, q_misSlot _ _ _ _ T (M1 _), q_misPerson _ _ _ _ T (M1 _), q_misTurn _ _ _ _ T (M1 _), q_mareTwo _ _ _ _ T (M1 _), q_misPlace _ _ _ _ T (M1 _), (M1 _).p3, hTn, rT, v1, v3, v4, ↓reduceIte, Int.reduceLE, true_and, h1, and_self, ↓reduceIte, q_mrefused]
      exact ⟨rfl, rfl, IV.q H0 (by decide) (agr_0 _)⟩
