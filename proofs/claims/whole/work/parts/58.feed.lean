/-! feed -/
def byt (x i : Int) : Int := o_i2b (o_shr x (24 - 8 * i))
theorem i2b_rg (x : Int) : -128 ≤ o_i2b x ∧ o_i2b x < 128 := by
  have h1 := Int8.le_toInt (Int32.ofInt x).toInt8
  have h2 := Int8.toInt_lt (Int32.ofInt x).toInt8
  unfold o_i2b
  exact ⟨by omega, by omega⟩
theorem rem4_chk : alln 20 (fun k => decide (o_rem (k : Int) 4 = (k : Int) % 4)) = true := by decide +kernel
theorem rem4 {k : Int} (k0 : 0 ≤ k) (k1 : k < 20) : o_rem k 4 = k % 4 := by
  obtain ⟨k, rfl⟩ := Int.eq_ofNat_of_zero_le k0
  have := alln_at rem4_chk k (by omega)
  simpa using this
section
variable (d : Nat) (P : Int → MM → Prop) (P0 : MM → Prop) {G : MG} {c : MC}
theorem f_put (x n : Int) (p1 : c 19 1 = 21) (l39 : gLn G 21 = 700) (hn : c 19 2 = n) (n0 : 0 ≤ n) (n1 : n ≤ 696) (hP : ∀ c', (∀ a j, ¬ (a = 21 ∧ n ≤ j ∧ j < n + 4) → ¬ (a = 19 ∧ j = 2) → c' a j = c a j) → c' 19 2 = n + 4 → (∀ i, 0 ≤ i → i < 4 → c' 21 (n + i) = byt x i) → P0 (G, c')) : EvV (d + 1) mX5_put [mR 12 19, mI x] (G, c) P0 := by
  refine ev_X5_put d _ G c 19 x (by decide) ?_
  have key : ∀ (j : Nat) (i : Int) (c0 : MC), 0 ≤ i → i + j = 4 → (∀ a j, ¬ (a = 21 ∧ n ≤ j ∧ j < n + 4) → ¬ (a = 19 ∧ j = 2) → c0 a j = c a j) → c0 19 2 = n + i → (∀ k, 0 ≤ k → k < i → c0 21 (n + k) = byt x k) → At (d + 1) mX5_put 3 [mR 12 19, mI x, mI (24 - 8 * i)] [] (G, c0) (QV P0) := by
    intro j
    induction j with
    | zero =>
      intro i c0 i0 hi f h2 h39
      apply wp_X5_put_3
      rw [if_pos (by omega)]
      exact hP c0 f (by omega) (fun k a b => h39 k a (by omega))
    | succ j ih =>
      intro i c0 i0 hi f h2 h39
      have e1 : c0 19 1 = 21 := by rw [f _ _ (by omega) (by omega)]; exact p1
      have hr := i2b_rg (o_shr x (24 - 8 * i))
      apply wp_X5_put_3
      rw [if_neg (by omega), h2, e1, l39, if_pos (by omega)]
      refine ⟨by decide, by decide, by decide, ⟨by decide, by omega, by omega, hr.1, hr.2⟩, ?_⟩
      rintro _ rfl
      refine ⟨by decide, by decide, ?_⟩
      rintro _ rfl
      rw [up_na (show (19 : Int) ≠ 21 by decide), h2, w32i (show -2147483648 ≤ n + i + 1 by omega) (by omega), w32i (show -2147483648 ≤ 24 - 8 * i + -8 by omega) (by omega), show 24 - 8 * i + -8 = 24 - 8 * (i + 1) by omega]
      refine ih _ _ (by omega) (by omega) (fun a k q q' => ?_) (by rw [up_eq]; omega) (fun k a b => ?_)
      · rw [up_o q', up_o (by omega)]; exact f a k q q'
      · rw [up_na (by decide)]
        by_cases q : k = i
        · rw [q, up_eq]; rfl
        · rw [up_nj (by omega)]; exact h39 k a (by omega)
  have := key 4 0 c (by decide) (by decide) (fun _ _ _ _ => rfl) (by omega) (fun k a b => by omega)
  exact this
def vse (a b e f g k : Int) : Int := if k < 4 then a else if k < 8 then b else if k < 12 then e else if k < 16 then f else g
theorem l_mfeed (a b e f g n : Int) (p5 : c 62 5 = 63) (l63 : gLn G 63 = 700) (n0 : 0 ≤ n) (n1 : n ≤ 680) (hP : ∀ c', (∀ x j, ¬ (x = 63 ∧ n ≤ j ∧ j < n + 20) → ¬ (x = 62 ∧ j = 6) → c' x j = c x j) → c' 62 6 = n + 20 → (∀ k, 0 ≤ k → k < 20 → c' 63 (n + k) = byt (vse a b e f g k) (k % 4)) → P (n + 20) (G, c')) : ∀ (j : Nat) (k : Int) (c0 : MC), 0 ≤ k → k + j = 20 → (∀ x j, ¬ (x = 63 ∧ n ≤ j ∧ j < n + 20) → ¬ (x = 62 ∧ j = 6) → c0 x j = c x j) → c0 62 6 = n + k → (∀ i, 0 ≤ i → i < k → c0 63 (n + i) = byt (vse a b e f g i) (i % 4)) → At (d + 1) mX12_feed 23 [mR 18 62, mI a, mI b, mI e, mI f, mI g, mI k, MU] [] (G, c0) (QI P) := by
  intro j
  induction j with
  | zero =>
    intro k c0 k0 hk fr h6 h63
    apply wp_X12_feed_23
    rw [if_neg (by omega), h6, show n + k = n + 20 by omega]
    exact ⟨by decide, hP c0 fr (by omega) (fun i x y => h63 i x (by omega))⟩
  | succ j ih =>
    intro k c0 k0 hk fr h6 h63
    have e5 : c0 62 5 = 63 := by rw [fr _ _ (by omega) (by omega)]; exact p5
    have er : o_rem k 4 = k % 4 := rem4 k0 (by omega)
    have ew : w32 (24 - w32 (8 * o_rem k 4)) = 24 - 8 * (k % 4) := by rw [er, w32i (show -2147483648 ≤ 8 * (k % 4) by omega) (by omega), w32i (show -2147483648 ≤ 24 - 8 * (k % 4) by omega) (by omega)]
    have key : ∀ v, v = vse a b e f g k → At (d + 1) mX12_feed 23 [mR 18 62, mI a, mI b, mI e, mI f, mI g, mI (k + 1), MU] [] (G, up (up c0 63 (n + k) (o_i2b (o_shr v (24 - 8 * (k % 4))))) 62 6 (n + k + 1)) (QI P) := fun v hv => by
      refine ih _ _ (by omega) (by omega) (fun x y q q' => ?_) (by rw [up_eq]; omega) (fun i x y => ?_)
      · rw [up_o q', up_o (by omega)]; exact fr x y q q'
      · rw [up_na (by decide)]
        by_cases q : i = k
        · rw [q, up_eq, hv]; rfl
        · rw [up_nj (by omega)]; exact h63 i x (by omega)
    apply wp_X12_feed_23
    simp only [h6, e5, l63, ew, up_na (show (62 : Int) ≠ 63 by decide), w32i (show -2147483648 ≤ k + 1 by omega) (show k + 1 < 2147483648 by omega), w32i (show -2147483648 ≤ n + k + 1 by omega) (show n + k + 1 < 2147483648 by omega)]
    rw [if_pos (by omega)]
    have br : ∀ v, -128 ≤ o_i2b (o_shr v (24 - 8 * (k % 4))) ∧ o_i2b (o_shr v (24 - 8 * (k % 4))) < 128 := fun v => i2b_rg _
    unfold vse at key
    by_cases q4 : k < 4
    · rw [if_pos q4]
      refine ⟨by decide, by decide, by decide, ⟨by decide, by omega, by omega, (br _).1, (br _).2⟩, ?_⟩
      rintro _ rfl
      rw [up_na (show (62 : Int) ≠ 63 by decide), h6, w32i (show -2147483648 ≤ n + k + 1 by omega) (by omega)]
      refine ⟨by decide, by decide, ?_⟩
      rintro _ rfl
      exact key a (by rw [if_pos q4])
    · rw [if_neg q4]
      by_cases q8 : k < 8
      · rw [if_pos q8]
        refine ⟨by decide, by decide, by decide, ⟨by decide, by omega, by omega, (br _).1, (br _).2⟩, ?_⟩
        rintro _ rfl
        rw [up_na (show (62 : Int) ≠ 63 by decide), h6, w32i (show -2147483648 ≤ n + k + 1 by omega) (by omega)]
        refine ⟨by decide, by decide, ?_⟩
        rintro _ rfl
        exact key b (by rw [if_neg q4, if_pos q8])
      · rw [if_neg q8]
        by_cases q12 : k < 12
        · rw [if_pos q12]
          refine ⟨by decide, by decide, by decide, ⟨by decide, by omega, by omega, (br _).1, (br _).2⟩, ?_⟩
          rintro _ rfl
          rw [up_na (show (62 : Int) ≠ 63 by decide), h6, w32i (show -2147483648 ≤ n + k + 1 by omega) (by omega)]
          refine ⟨by decide, by decide, ?_⟩
          rintro _ rfl
          exact key e (by rw [if_neg q4, if_neg q8, if_pos q12])
        · rw [if_neg q12]
          by_cases q16 : k < 16
          · rw [if_pos q16]
            refine ⟨by decide, by decide, by decide, ⟨by decide, by omega, by omega, (br _).1, (br _).2⟩, ?_⟩
            rintro _ rfl
            rw [up_na (show (62 : Int) ≠ 63 by decide), h6, w32i (show -2147483648 ≤ n + k + 1 by omega) (by omega)]
            refine ⟨by decide, by decide, ?_⟩
            rintro _ rfl
            exact key f (by rw [if_neg q4, if_neg q8, if_neg q12, if_pos q16])
          · rw [if_neg q16]
            refine ⟨by decide, by decide, by decide, ⟨by decide, by omega, by omega, (br _).1, (br _).2⟩, ?_⟩
            rintro _ rfl
            rw [up_na (show (62 : Int) ≠ 63 by decide), h6, w32i (show -2147483648 ≤ n + k + 1 by omega) (by omega)]
            refine ⟨by decide, by decide, ?_⟩
            rintro _ rfl
            exact key g (by rw [if_neg q4, if_neg q8, if_neg q12, if_neg q16])
end
theorem k_feed (d : Nat) (G : MG) (c : MC) (a b e f g : Int) (H : IV G c) : EvI (d + 40) mX10_feed [mR 16 0, mI a, mI b, mI e, mI f, mI g] (G, c) (fun r1 ν1 => EvI (d + 40) mX12_feed [mR 18 62, mI a, mI b, mI e, mI f, mI g] (ν1.1, ν1.2) (fun r2 ν2 => K2 G r1 r2 ν2)) := by
  obtain ⟨hr, t, z, S, V⟩ := H
  have ht := S.t; have tp := S.tp; have g80 := S.g; have hz := S.z
  refine ev_X10_feed (d + 39) _ G c 0 a b e f g (by decide) ?_
  rw [S.p2, hz, w32i (show -2147483648 ≤ z + 20 by omega) (by omega)]
  refine ⟨by decide, by decide, ?_⟩
  by_cases h : 700 < z + 20
  · rw [if_pos h]
    refine ev_X12_feed (d + 39) _ G c 62 a b e f g (by decide) ⟨by decide, ?_⟩
    rintro _ rfl
    rw [up_nj (show (6 : Int) ≠ 0 by decide), show c 62 6 = z by omega, w32i (show -2147483648 ≤ z + 20 by omega) (by omega), if_pos h]
    refine ⟨by decide, rfl, rfl, ?_⟩
    exact IV.kp ⟨hr, t, z, S, V⟩ (ki_agr (agr_0 _)) ⟨by show up c 62 0 0 62 1 = up c 62 0 0 0 6; rw [up_nj (by decide), up_na (by decide)]; exact hr.1, by show up c 62 0 0 62 2 = if up c 62 0 0 0 6 = 4 then up c 62 0 0 19 13 else -1; rw [up_nj (by decide), up_na (show (0 : Int) ≠ 62 by decide), up_na (show (19 : Int) ≠ 62 by decide)]; exact hr.2⟩
  · rw [if_neg h]
    refine ⟨by decide, ?_⟩
    refine f_put (d + 38) _ a z S.r1 S.l21 hz (by omega) (by omega) (fun c1 f1 h1 b1 => ⟨by decide, ?_⟩)
    dsimp only
    rw [f1 0 1 (by omega) (by omega), S.p2]
    refine f_put (d + 38) _ b (z + 4) (by rw [f1 _ _ (by omega) (by omega)]; exact S.r1) S.l21 h1 (by omega) (by omega) (fun c2 f2 h2 b2 => ⟨by decide, ?_⟩)
    dsimp only
    rw [f2 0 1 (by omega) (by omega), f1 0 1 (by omega) (by omega), S.p2]
    refine f_put (d + 38) _ e (z + 4 + 4) (by rw [f2 _ _ (by omega) (by omega), f1 _ _ (by omega) (by omega)]; exact S.r1) S.l21 h2 (by omega) (by omega) (fun c3 f3 h3 b3 => ⟨by decide, ?_⟩)
    dsimp only
    rw [f3 0 1 (by omega) (by omega), f2 0 1 (by omega) (by omega), f1 0 1 (by omega) (by omega), S.p2]
    refine f_put (d + 38) _ f (z + 4 + 4 + 4) (by rw [f3 _ _ (by omega) (by omega), f2 _ _ (by omega) (by omega), f1 _ _ (by omega) (by omega)]; exact S.r1) S.l21 h3 (by omega) (by omega) (fun c4 f4 h4 b4 => ⟨by decide, ?_⟩)
    dsimp only
    rw [f4 0 1 (by omega) (by omega), f3 0 1 (by omega) (by omega), f2 0 1 (by omega) (by omega), f1 0 1 (by omega) (by omega), S.p2]
    refine f_put (d + 38) _ g (z + 4 + 4 + 4 + 4) (by rw [f4 _ _ (by omega) (by omega), f3 _ _ (by omega) (by omega), f2 _ _ (by omega) (by omega), f1 _ _ (by omega) (by omega)]; exact S.r1) S.l21 h4 (by omega) (by omega) (fun c5 f5 h5 b5 => ⟨by decide, ?_⟩)
    dsimp only
    rw [f5 0 1 (by omega) (by omega), f4 0 1 (by omega) (by omega), f3 0 1 (by omega) (by omega), f2 0 1 (by omega) (by omega), f1 0 1 (by omega) (by omega), S.p2, h5]
    refine ⟨by decide, ?_⟩
    have fr : ∀ x j, ¬ (x = 21 ∧ z ≤ j ∧ j < z + 20) → ¬ (x = 19 ∧ j = 2) → c5 x j = c x j := fun x j q q' => by rw [f5 x j (by omega) q', f4 x j (by omega) q', f3 x j (by omega) q', f2 x j (by omega) q', f1 x j (by omega) q']
    have bb : ∀ k, 0 ≤ k → k < 20 → c5 21 (z + k) = byt (vse a b e f g k) (k % 4) := fun k k0 k1 => by
      unfold vse
      by_cases q4 : k < 4
      · rw [if_pos q4, f5 _ _ (by omega) (by omega), f4 _ _ (by omega) (by omega), f3 _ _ (by omega) (by omega), f2 _ _ (by omega) (by omega), b1 k k0 q4, show k % 4 = k by omega]
      · rw [if_neg q4]
        by_cases q8 : k < 8
        · have := b2 (k - 4) (by omega) (by omega)
          rw [show z + 4 + (k - 4) = z + k by omega] at this
          rw [if_pos q8, f5 _ _ (by omega) (by omega), f4 _ _ (by omega) (by omega), f3 _ _ (by omega) (by omega), this, show k % 4 = k - 4 by omega]
        · rw [if_neg q8]
          by_cases q12 : k < 12
          · have := b3 (k - 8) (by omega) (by omega)
            rw [show z + 4 + 4 + (k - 8) = z + k by omega] at this
            rw [if_pos q12, f5 _ _ (by omega) (by omega), f4 _ _ (by omega) (by omega), this, show k % 4 = k - 8 by omega]
          · rw [if_neg q12]
            by_cases q16 : k < 16
            · have := b4 (k - 12) (by omega) (by omega)
              rw [show z + 4 + 4 + 4 + (k - 12) = z + k by omega] at this
              rw [if_pos q16, f5 _ _ (by omega) (by omega), this, show k % 4 = k - 12 by omega]
            · have := b5 (k - 16) (by omega) (by omega)
              rw [show z + 4 + 4 + 4 + 4 + (k - 16) = z + k by omega] at this
              rw [if_neg q16, this, show k % 4 = k - 16 by omega]
    refine ev_X12_feed (d + 39) _ G c5 62 a b e f g (by decide) ⟨by decide, ?_⟩
    rintro _ rfl
    have e6 : up c5 62 0 0 62 6 = z := by rw [up_nj (by decide), fr _ _ (by omega) (by omega)]; omega
    rw [e6, w32i (show -2147483648 ≤ z + 20 by omega) (by omega), if_neg h]
    refine ⟨by decide, ?_⟩
    refine l_mfeed (d + 39) _ a b e f g z (by rw [up_nj (by decide), fr _ _ (by omega) (by omega)]; exact S.m5) S.n63 (by omega) (by omega) (fun c' f' h6 b6 => ?_) 20 0 _ (by decide) (by decide) (fun _ _ _ _ => rfl) (by omega) (fun i x y => by omega)
    have fA : ∀ x j, x ≠ 63 → ¬ (x = 62 ∧ (j = 0 ∨ j = 6)) → x ≠ 21 → ¬ (x = 19 ∧ j = 2) → c' x j = c x j := fun x j q1 q2 q3 q4 => by rw [f' x j (by omega) (by omega), up_o (by omega), fr x j (by omega) q4]
    have r37 : ∀ j, j ≠ 2 → c' 19 j = c 19 j := fun j q => fA 19 j (by decide) (by omega) (by decide) (by omega)
    refine ⟨by omega, rfl, ⟨?_, ?_⟩, t, z + 20, ?_, ?_⟩
    · dsimp only
      rw [fA _ _ (by omega) (by omega) (by omega) (by omega), fA _ _ (by omega) (by omega) (by omega) (by omega)]; exact hr.1
    · dsimp only
      simp only [fA 62 2 (by omega) (by omega) (by omega) (by omega), fA 0 6 (by omega) (by omega) (by omega) (by omega), r37 13 (by decide)]; exact hr.2
    · dsimp only
      refine S.kf (fun x j q => ?_) ?_ ?_ ?_ ?_ ?_ ?_ (by omega) ?_ h6 (fun j x y => ?_) ?_
      · unfold KS at q
        exact fA x j (by omega) (by omega) (by omega) (by omega)
      · exact fA _ _ (by omega) (by omega) (by omega) (by omega)
      · exact fA _ _ (by omega) (by omega) (by omega) (by omega)
      · exact S.A.tm (fun x j _ _ _ => fA x j (by omega) (by omega) (by omega) (by omega))
      · exact S.B.tm (fun x j _ _ _ => fA x j (by omega) (by omega) (by omega) (by omega))
      · exact fA _ _ (by omega) (by omega) (by omega) (by omega)
      · exact fA _ _ (by omega) (by omega) (by omega) (by omega)
      · rw [f' _ _ (by omega) (by omega), up_na (by decide), h5]; omega
      · by_cases q : j < z
        · have := S.tb j x q
          rw [f' 21 j (by omega) (by omega), up_na (by decide), fr 21 j (by omega) (by omega), f' 63 j (by omega) (by omega), up_na (by decide), fr 63 j (by omega) (by omega)]
          exact this
        · have k1 := bb (j - z) (by omega) (by omega)
          have k2 := b6 (j - z) (by omega) (by omega)
          rw [show z + (j - z) = j by omega] at k1 k2
          rw [f' 21 j (by omega) (by omega), up_na (by decide), k1, k2]
          exact ⟨rfl, i2b_rg _⟩
      · rw [r37 12 (by decide), fA 62 12 (by omega) (by omega) (by omega) (by omega)]; exact S.fa
    · dsimp only
      rcases V with V | ⟨T, n, m, u, q, w, x, s, ka, ki, g, V⟩
      · exact Or.inl (V.kq (b := 25 - t) (W := gTop G) rfl g80 (fun x j q => by unfold KQ at q; exact fA x j (by omega) (by omega) (by omega) (by omega)))
      · exact Or.inr ⟨T, n, m, u, q, w, x, s, ka, ki, g, V.kq rfl (fun x j q => by unfold KQ at q; exact fA x j (by omega) (by omega) (by omega) (by omega)) (fun _ _ => rfl) (Int.le_refl _)⟩
