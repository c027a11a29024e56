section
variable (d : Nat) (P0 : MM → Prop) (G : MG) (c : MC) (n T : Int)
theorem f_inverts2 (M : MDs G c T) (hn : c T 1 = n) (p : Int) (ho : One c p n) (hp : PM p n) (hP : ∀ c', (∀ x y, x ≠ 73 → x ≠ 74 → c' x y = c x y) → One c' (inv6 p n) n → P0 (G, c')) : EvV (d + 1) mX12_inverts [mR 18 62] (G, c) P0 := by
  have hT := M.T; have b1 := M.b1
  have h2 : 2 ≤ n := by omega
  have h6 : n ≤ 6 := by omega
  have hi := inv_pm h2 h6 hp
  have loop2 : ∀ (j : Nat) (k : Int) (c' : MC), 0 ≤ k → k + j = n → (∀ x y, x ≠ 73 → x ≠ 74 → c' x y = c x y) → (∀ q, 0 ≤ q → q < n → c' 74 (dg p q) = q) → (∀ q, 0 ≤ q → q < k → c' 73 q = dg (inv6 p n) q) → At (d + 1) mX12_inverts 33 [mR 18 62, mI k] [] (G, c') (QV P0) := by
    intro j
    induction j with
    | zero =>
      intro k c' k0 hk A h4 h3
      have M' := M.kp (fun a j k => A a j (by unfold Kp at k; omega) (by unfold Kp at k; omega))
      have e1 : c' T 1 = n := by rw [A T 1 (by omega) (by omega)]; exact hn
      apply wp_X12_inverts_33
      simp only [M'.p3, e1]
      refine ⟨by omega, by omega, ?_⟩
      rw [if_neg (by omega)]
      exact hP c' A (fun q a b => h3 q a (by omega))
    | succ j ih =>
      intro k c' k0 hk A h4 h3
      have M' := M.kp (fun a j k => A a j (by unfold Kp at k; omega) (by unfold Kp at k; omega))
      have e1 : c' T 1 = n := by rw [A T 1 (by omega) (by omega)]; exact hn
      have wk : w32 (k + 1) = k + 1 := w32i (by omega) (by omega)
      apply wp_X12_inverts_33
      simp only [M'.p3, e1, M'.p29, M'.l74, M'.p27, M'.l73, wk]
      refine ⟨by omega, by omega, ?_⟩
      rw [if_pos (by omega)]
      refine ⟨by omega, by omega, ⟨by omega, by omega, by omega⟩, ⟨by omega, by omega, by omega⟩, ?_⟩
      rintro _ rfl
      have hj := hi.rg k k0 (by omega)
      have hkj : dg p (dg (inv6 p n) k) = k := by
        have hr := hp.rg _ hj.1 hj.2
        exact hi.2.2.2 _ _ hr.1 hr.2 k0 (by omega) (inv_dg h2 h6 hp _ hj.1 hj.2)
      refine ih (k + 1) _ (by omega) (by omega) (fun x y q1 q2 => by rw [up_na (by omega)]; exact A x y q1 q2) (fun q a b => by rw [up_na (by decide)]; exact h4 q a b) (fun q a b => ?_)
      by_cases e : q = k
      · rw [e, up_eq]
        have := h4 _ hj.1 hj.2
        rw [hkj] at this
        exact this
      · rw [up_nj e]; exact h3 q a (by omega)
  have loop1 : ∀ (j : Nat) (k : Int) (c' : MC), 0 ≤ k → k + j = n → (∀ x y, x ≠ 73 → x ≠ 74 → c' x y = c x y) → One c' p n → (∀ q, 0 ≤ q → q < k → c' 74 (dg p q) = q) → At (d + 1) mX12_inverts 2 [mR 18 62, mI k] [] (G, c') (QV P0) := by
    intro j
    induction j with
    | zero =>
      intro k c' k0 hk A ho h4
      have M' := M.kp (fun a j k => A a j (by unfold Kp at k; omega) (by unfold Kp at k; omega))
      have e1 : c' T 1 = n := by rw [A T 1 (by omega) (by omega)]; exact hn
      apply wp_X12_inverts_2
      simp only [M'.p3, e1]
      refine ⟨by omega, by omega, ?_⟩
      rw [if_neg (by omega)]
      exact loop2 n.toNat 0 c' (by omega) (by omega) A (fun q a b => h4 q a (by omega)) (fun q a b => by omega)
    | succ j ih =>
      intro k c' k0 hk A ho h4
      have M' := M.kp (fun a j k => A a j (by unfold Kp at k; omega) (by unfold Kp at k; omega))
      have e1 : c' T 1 = n := by rw [A T 1 (by omega) (by omega)]; exact hn
      have wk : w32 (k + 1) = k + 1 := w32i (by omega) (by omega)
      have hr := hp.rg k k0 (by omega)
      apply wp_X12_inverts_2
      simp only [M'.p3, e1, M'.p29, M'.l74, M'.p27, M'.l73, wk, ho k k0 (by omega)]
      refine ⟨by omega, by omega, ?_⟩
      rw [if_pos (by omega)]
      refine ⟨by omega, by omega, ⟨by omega, by omega, by omega⟩, ⟨by omega, hr.1, by omega⟩, ?_⟩
      rintro _ rfl
      refine ih (k + 1) _ (by omega) (by omega) (fun x y q1 q2 => by rw [up_na (by omega)]; exact A x y q1 q2) (fun q a b => by rw [up_na (by decide)]; exact ho q a b) (fun q a b => ?_)
      by_cases e : q = k
      · rw [e, up_eq]
      · rw [up_nj (fun h => e (hp.2.2.2 _ _ a (by omega) k0 (by omega) h))]; exact h4 q a (by omega)
  exact ev_X12_inverts d P0 G c 62 (by decide) (loop1 n.toNat 0 c (by omega) (by omega) (fun _ _ _ _ => rfl) ho (fun q a b => by omega))
end
def mkB (i : Nat) : Nat := 4294967295 - 7 * 8 ^ i
theorem mk_bit : ∀ i, i < 6 → ∀ j, j < 6 → ∀ b, b < 3 → (mkB i).testBit (3 * j + b) = !(Nat.beq j i) := by decide +kernel
theorem mk_int : ∀ i : Nat, i < 6 → (Int32.ofInt (o_xor (o_shl 7 (w32 (3 * (i : Int)))) (-1))).toBitVec.toNat = mkB i := by decide +kernel
theorem o_and_mk {a i : Nat} (ha : a < 2147483648) (hi : i < 6) : o_and (a : Int) (o_xor (o_shl 7 (w32 (3 * (i : Int)))) (-1)) = ((a &&& mkB i : Nat) : Int) := by
  unfold o_and
  apply bi_nat
  · rw [Int32.toBitVec_and, BitVec.toNat_and, bi_of (by omega), mk_int i hi]
  · exact Nat.lt_of_le_of_lt Nat.and_le_left ha
theorem mk_dg {a i j : Nat} (ha : a < 2147483648) (hi : i < 6) (hj : j < 6) : dg ((a &&& mkB i : Nat) : Int) (j : Int) = if j = i then 0 else dg (a : Int) (j : Int) := by
  have hle : a &&& mkB i ≤ a := Nat.and_le_left
  rw [dg_nat (by omega) (by omega), dg_nat ha (by omega)]
  have h7 : ∀ b, Nat.testBit 7 b = decide (b < 3) := fun b => by
    have : (7 : Nat) = 2 ^ 3 - 1 := rfl
    rw [this, Nat.testBit_two_pow_sub_one]
  have key : ∀ b, ((a &&& mkB i) >>> (3 * j) &&& 7).testBit b = (if j = i then 0 else a >>> (3 * j) &&& 7 : Nat).testBit b := by
    intro b
    by_cases hb : b < 3
    · by_cases e : j = i
      · rw [if_pos e]
        simp only [Nat.testBit_and, Nat.testBit_shiftRight, mk_bit i hi j hj b hb, h7]
        subst e
        simp
      · rw [if_neg e]
        have : Nat.beq j i = false := by
          cases h : Nat.beq j i with
          | false => rfl
          | true => exact absurd (Nat.eq_of_beq_eq_true h) e
        simp only [Nat.testBit_and, Nat.testBit_shiftRight, mk_bit i hi j hj b hb, h7, this]
        simp
    · by_cases e : j = i
      · simp [e, Nat.testBit_and, h7, hb]
      · simp [e, Nat.testBit_and, h7, hb]
  rw [Nat.eq_of_testBit_eq key]
  split <;> rfl
theorem wth_all {x i v : Int} (hx : 0 ≤ x) (hx' : x < 262144) (hi : 0 ≤ i) (hi' : i < 6) (hv : 0 ≤ v) (hv' : v < 8) : (0 ≤ wth x i v ∧ wth x i v < 262144) ∧ ∀ j, 0 ≤ j → j < 6 → dg (wth x i v) j = if j = i then v else dg x j := by
  obtain ⟨a, rfl⟩ := Int.eq_ofNat_of_zero_le hx
  obtain ⟨i, rfl⟩ := Int.eq_ofNat_of_zero_le hi
  have hle : a &&& mkB i ≤ a := Nat.and_le_left
  unfold wth
  rw [o_and_mk (by omega) (by omega)]
  have h8 : (8 : Int) ^ 6 = 262144 := by decide
  have hz : dg ((a &&& mkB i : Nat) : Int) (i : Int) = 0 := by rw [mk_dg (by omega) (by omega) (by omega), if_pos rfl]
  refine ⟨?_, fun j j0 j6 => ?_⟩
  · have := dg_or_rg (x := ((a &&& mkB i : Nat) : Int)) (v := v) (k := (i : Int)) (n := 6) (by omega) (by omega) (by omega) hv hv' hi (by omega)
    omega
  · rw [dg_or (n := 6) (by omega) (by omega) (by omega) hv hv' hi (by omega) j0 (by omega) hz]
    by_cases e : j = i
    · rw [if_pos e, if_pos e]
    · rw [if_neg e, if_neg e]
      obtain ⟨j, rfl⟩ := Int.eq_ofNat_of_zero_le j0
      rw [mk_dg (by omega) (by omega) (by omega), if_neg (by omega)]
section
variable {G : MG} {c c' : MC} {t T n m u q w x s ka ki z : Int} {g : Int → Int}
theorem IV.act (S : SH G c t z) (e : ∀ a j, KI a j → ¬ (a = 42 ∧ (j = 0 ∨ j = 2 ∨ j = 4)) → ¬ (43 ≤ a ∧ a ≤ 44) → a ≠ 64 → ¬ (66 ≤ a ∧ a ≤ 67) → ¬ (a = 62 ∧ (j = 20 ∨ j = 21)) → c' a j = c a j) (V' : TU G c' t) (t1 : c' 62 1 = c' 0 6) (t2 : c' 62 2 = -1) (t3 : c' 0 6 ≠ 4) : IV G c' := ⟨⟨t1, by rw [t2, if_neg t3]⟩, t, z, S.ka e, Or.inr V'⟩
variable (d : Nat) (P : Int → MM → Prop)
theorem l_slideAll {tt st : Int} (p0 : c 0 0 = tt) (ht : tt = 1 ∨ tt = 24) (p3 : c 0 2 = 42) (e3 : c tt 3 = m) (hm : m ≤ 6) : ∀ (j : Nat) (i v : Int), 0 ≤ i → i + j = m → P (bsA (fun p => decide (dg (c 42 0) p ≠ dg st p)) j i v) (G, c) → At (d + 3) mX10_slideAll 32 [mR 16 0, MU, mI st, mI v, mI i] [] (G, c) (QI P) := by
  intro j
  have hs : ∀ (Q : Int → MM → Prop) p, EvI (d + 2) mX10_slotOf [mR 16 0, mI p] (G, c) Q = Q (dg (c 42 0) p) (G, c) := fun Q p => evI_eq (ev_X10_slotOf (d + 1) _ G c 0 p (by decide) (by simp only [p3, q_X7_at]; simp)) Q
  induction j with
  | zero =>
    intro i v i0 hi hP
    apply wp_X10_slideAll_32
    rw [p0, e3]
    refine ⟨by omega, by omega, ?_⟩
    rw [if_neg (by omega)]
    exact hP
  | succ j ih =>
    intro i v i0 hi hP
    have wi : w32 (i + 1) = i + 1 := w32i (by omega) (by omega)
    apply wp_X10_slideAll_32
    rw [p0, e3]
    refine ⟨by omega, by omega, ?_⟩
    rw [if_pos (by omega)]
    simp only [hs, q_X7_at, wi]
    simp only [bsA, fo] at hP
    by_cases h : dg (c 42 0) i = dg st i
    · rw [if_pos h]
      rw [if_neg (by simpa using h)] at hP
      exact ih _ _ (by omega) (by omega) hP
    · rw [if_neg h]
      rw [if_pos (by simpa using h)] at hP
      exact ih _ _ (by omega) (by omega) hP
theorem f_mslides (M : MDs G c T) (hn : c T 1 = n) (hm : c T 3 = m) (hk : c 62 20 = ka) (k0 : 0 ≤ ka) (k16 : ka ≤ 16) (y : Int) (ho : One c y n) (hy : PM y n) (hv : ∀ p, 0 ≤ p → p < m → 0 ≤ c 64 p ∧ c 64 p < n)
    (hP : ∀ c', c' 62 20 = (if ka = 16 then 16 else ka + 1) → (∀ a p, 0 ≤ a → a < (if ka = 16 then 16 else ka + 1) → 0 ≤ p → p < 6 → c' 66 (6 * a + p) = if ka = 16 then (if a = 15 then c 64 p else c 66 (6 * (a + 1) + p)) else (if a = ka then c 64 p else c 66 (6 * a + p))) → (∀ p, 0 ≤ p → p < m → c' 64 p = dg y (c 64 p)) → (∀ a j, a ≠ 64 → a ≠ 66 → ¬ (a = 62 ∧ j = 20) → c' a j = c a j) → P (bs (fun p => decide (dg y (c 64 p) ≠ c 64 p)) m) (G, mtr c' 0)) : EvI (d + 2) mX12_slidesAll [mR 18 62] (G, c) P := by
  have hT := M.T; have b1 := M.b1; have b3 := M.b3
  refine ev_X12_slidesAll (d + 1) P G c 62 (by decide) (f_remembers d _ G c T M ka hk k0 k16 (fun c1 e1 e2 e3 => ?_))
  have hM : ∀ c', (∀ a j, a ≠ 64 → a ≠ 66 → ¬ (a = 62 ∧ j = 20) → c' a j = c a j) → MDs G c' T := fun c' h => M.kp (fun a j q => h a j (by unfold Kp at q; omega) (by unfold Kp at q; omega) (by unfold Kp at q; omega))
  have lp : ∀ (j : Nat) (i v : Int), 0 ≤ i → i + j = m → fo (fun p s => if decide (dg y (c 64 p) ≠ c 64 p) = true then o_or s (o_shl 1 p) else o_or s 0) j i v = bs (fun p => decide (dg y (c 64 p) ≠ c 64 p)) m → At (d + 2) mX12_slidesAll 8 [mR 18 62, mI v, mI i] [] (G, wr c1 64 0 i (fun p => dg y (c 64 p))) (QI P) := by
    intro j
    induction j with
    | zero =>
      intro i v i0 hi e
      have hc2 : ∀ a j, a ≠ 64 → a ≠ 66 → ¬ (a = 62 ∧ j = 20) → wr c1 64 0 i (fun p => dg y (c 64 p)) a j = c a j := fun a j h h1 h2 => by rw [wr_ne h]; exact e3 a j h1 h2
      have M' := hM _ hc2
      have x3 : wr c1 64 0 i (fun p => dg y (c 64 p)) T 3 = m := by rw [hc2 T 3 (by omega) (by omega) (by omega)]; exact hm
      apply wp_X12_slidesAll_8
      simp only [M'.p3, x3, q_mgood]
      refine ⟨by omega, by omega, ?_⟩
      rw [if_neg (by omega), show v = _ from e]
      refine hP _ (by rw [wr_ne (by decide)]; exact e1) (fun a p a0 a1 p0 p1 => by rw [wr_ne (by decide)]; exact e2 a p a0 a1 p0 p1) (fun p p0 p1 => by rw [wr_in p0 (by omega)]) hc2
    | succ j ih =>
      intro i v i0 hi e
      have hc2 : ∀ a j, a ≠ 64 → a ≠ 66 → ¬ (a = 62 ∧ j = 20) → wr c1 64 0 i (fun p => dg y (c 64 p)) a j = c a j := fun a j h h1 h2 => by rw [wr_ne h]; exact e3 a j h1 h2
      have M' := hM _ hc2
      have x3 : wr c1 64 0 i (fun p => dg y (c 64 p)) T 3 = m := by rw [hc2 T 3 (by omega) (by omega) (by omega)]; exact hm
      have x64 : wr c1 64 0 i (fun p => dg y (c 64 p)) 64 i = c 64 i := by rw [wr_out (by omega)]; exact e3 64 i (by decide) (by omega)
      have hvi := hv i i0 (by omega)
      have x73 : wr c1 64 0 i (fun p => dg y (c 64 p)) 73 (c 64 i) = dg y (c 64 i) := by rw [hc2 73 _ (by decide) (by decide) (by omega)]; exact ho _ hvi.1 hvi.2
      have wi : w32 (i + 1) = i + 1 := w32i (by omega) (by omega)
      simp only [fo] at e
      apply wp_X12_slidesAll_8
      simp only [M'.p3, x3, M'.p16, M'.p27, M.l64, M.l73, x64, x73, wi]
      refine ⟨by omega, by omega, ?_⟩
      rw [if_pos (by omega)]
      refine ⟨by omega, by omega, by omega, by omega, by omega, by omega, ?_⟩
      by_cases h : dg y (c 64 i) = c 64 i
      · rw [if_pos h]
        rw [if_neg (by simpa using h)] at e
        refine ⟨by omega, by omega, by omega, by omega, by omega, by omega, ?_⟩
        rintro _ rfl
        rw [wr_up i0 (by omega) rfl]
        exact ih _ _ (by omega) (by omega) e
      · rw [if_neg h]
        rw [if_pos (by simpa using h)] at e
        refine ⟨by omega, by omega, by omega, by omega, by omega, by omega, ?_⟩
        rintro _ rfl
        rw [wr_up i0 (by omega) rfl]
        exact ih _ _ (by omega) (by omega) e
  have hgo := lp m.toNat 0 0 (by omega) (by omega) (bsB_eq _ m.toNat 0 0 (by omega) (by omega) (by omega) (by simp))
  rwa [wr_zero (by omega)] at hgo
theorem tv_acted (V : TV G c t T n m u q w x s ka ki g) (nx : Int) (c' : MC) (ke : ∀ a j, KI a j → ¬ (a = 42 ∧ (j = 0 ∨ j = 2 ∨ j = 4)) → ¬ (43 ≤ a ∧ a ≤ 44) → a ≠ 64 → ¬ (66 ≤ a ∧ a ≤ 67) → ¬ (a = 62 ∧ (j = 20 ∨ j = 21)) → c' a j = c a j)
    (h42 : c' 42 0 = nx) (hnx : 0 ≤ nx ∧ nx < 262144) (sv : ∀ p, 0 ≤ p → p < m → dg nx p = c' 64 p ∧ 0 ≤ c' 64 p ∧ c' 64 p < n) (h2 : c' 42 2 = if ka = 16 then 16 else ka + 1) (h20 : c' 62 20 = if ka = 16 then 16 else ka + 1)
    (h43 : ∀ a, 0 ≤ a → a < (if ka = 16 then 16 else ka + 1) → c' 43 a = if ka = 16 then (if a = 15 then c 42 0 else c 43 (a + 1)) else (if a = ka then c 42 0 else c 43 a))
    (h66 : ∀ a p, 0 ≤ a → a < (if ka = 16 then 16 else ka + 1) → 0 ≤ p → p < 6 → c' 66 (6 * a + p) = if ka = 16 then (if a = 15 then c 64 p else c 66 (6 * (a + 1) + p)) else (if a = ka then c 64 p else c 66 (6 * a + p)))
    (h4 : c' 42 4 = c 42 4) (h21 : c' 62 21 = c 62 21) (h44 : ∀ a, c' 44 a = c 44 a) (h67 : ∀ a, c' 67 a = c 67 a) : TU G c' t := by
  have b3 := V.M.b3; have kb := V.kb
  rw [V.v3] at b3
  refine ⟨T, n, m, u, q, w, x, s, (if ka = 16 then 16 else ka + 1), ki, g, V.ka ke (by rw [h42]; exact hnx) (by rw [h42]; exact sv) ⟨h2, h20⟩ (by split <;> omega) (fun a a0 a1 => ?_) (fun a p a0 a1 p0 p1 => ?_) (by rw [h4, h21]; exact V.im) V.ib (fun a a0 a1 => by rw [h44]; exact V.ir a a0 a1) (fun a p a0 a1 p0 p1 => by rw [h44, h67]; exact V.iv a p a0 a1 p0 p1)⟩
  · rw [h43 a a0 a1]
    by_cases h : ka = 16
    · rw [if_pos h] at a1 ⊢
      by_cases e : a = 15
      · rw [if_pos e]; exact V.st
      · rw [if_neg e]; exact V.ar _ (by omega) (by omega)
    · rw [if_neg h] at a1 ⊢
      by_cases e : a = ka
      · rw [if_pos e]; exact V.st
      · rw [if_neg e]; exact V.ar _ (by omega) (by omega)
  · rw [h43 a a0 a1, h66 a p a0 a1 p0 (by omega)]
    by_cases h : ka = 16
    · rw [if_pos h] at a1
      simp only [if_pos h]
      by_cases e : a = 15
      · simp only [if_pos e]; exact V.sv p p0 p1
      · simp only [if_neg e]; exact V.av _ p (by omega) (by omega) p0 p1
    · rw [if_neg h] at a1
      simp only [if_neg h]
      by_cases e : a = ka
      · simp only [if_pos e]; exact V.sv p p0 p1
      · simp only [if_neg e]; exact V.av _ p (by omega) (by omega) p0 p1
end
theorem k_turn (d : Nat) (G : MG) (c : MC) (a : Int) (H : IV G c) : EvI (d + 40) mX10_turn [mR 16 0, mI a] (G, c) (fun r1 ν1 => EvI (d + 40) mX12_turn [mR 18 62, mI a] (ν1.1, ν1.2) (fun r2 ν2 => K2 G r1 r2 ν2)) := by
  obtain ⟨hr, t, z, S, V⟩ := H
  have H0 : IV0 G c := ⟨t, z, S, V⟩
  rcases V with V | ⟨T, n, m, u, q, w, x, s, ka, ki, g, V⟩
  · have I := S.ciN V
    have e1 := V.e1; have e3 := V.e3; have e4 := V.e4; have N := V.T
    have N1 : ∀ wy, up (up c 0 6 wy) 62 0 0 62 3 = -1 := fun wy => by rw [up_nj (by decide), up_na (by decide)]; exact N
    refine ev_X10_turn (d + 39) _ G c 0 a (by decide) ?_
    simp only [z_isTube _ _ _ _ t I e1, z_isPerson _ _ _ _ t I _ e3, z_isSlot _ _ _ _ t I _ e1, z_isTurn _ _ _ _ t I _ e4, z_areTwo _ _ _ _ t I _ _ e3, z_isPlace _ _ _ _ t I _ e1, ↓reduceIte, q_refused]
    refine ev_X12_turn (d + 39) _ G _ 62 a (by decide) ⟨by decide, ?_⟩
    rintro _ rfl
    simp only [q_nisSlot _ _ _ _ (N1 _), q_nisPerson _ _ _ _ (N1 _), q_nisTurn _ _ _ _ (N1 _), q_nareTwo _ _ _ _ (N1 _), q_nisPlace _ _ _ _ (N1 _), N1, ↓reduceIte, q_mrefused, Int.reduceNeg, Int.reduceLT, Int.reduceLE, true_and]
    exact ⟨rfl, rfl, IV.q H0 (by decide) (agr_0 _)⟩
  · have I := S.ciT V
    have M := V.M; have hT := M.T; have ht := V.t
    have v1 := V.v1; have v3 := V.v3; have v4 := V.v4; have e0 := V.e0; have e1 := V.e1; have e3 := V.e3; have e4 := V.e4; have e5 := V.e5
    have b0 := M.b0; have b1 := M.b1; have b3 := M.b3; have b4 := M.b4
    rw [v1] at b1; rw [v3] at b3; rw [v4] at b4
    have hnp : 0 < n := by omega
    have hTn : ¬ T < 0 := by omega
    have M1 : ∀ wy, MDs G (up (up c 0 6 wy) 62 0 0) T := fun wy => (M.ki ki_up7).agr (agr_0 _)
    have r64 : ∀ wy, up (up c 0 6 wy) 62 0 0 64 = c 64 := fun wy => by funext j; rw [up_na (by decide), up_na (by decide)]
    have rT : ∀ wy k, up (up c 0 6 wy) 62 0 0 T k = c T k := fun wy k => by rw [up_na (by omega), up_na (by omega)]
    have rTT : ∀ wy (a : Int), 0 ≤ a → up (up c 0 6 wy) 62 0 0 (T + a) = c (T + a) := fun wy a ha => by funext j; rw [up_na (by omega), up_na (by omega)]
    have rS : ∀ wy a b, sld (up (up c 0 6 wy) 62 0 0) T a b = sld c T a b := fun wy a b => sld_eq (fun a j q => by rw [up_na (by omega), up_na (by omega)]) hT
    have hS : ∀ a b, 0 ≤ a → a < u → 0 ≤ b → b < n → sld c T a b = dg (g a) b := fun a b h1 h2 h3 h4 => by unfold sld; rw [v4, if_pos h2]; exact V.tk a b h1 h2 h3 h4
    have V1 : ∀ wy, TV G (up (up c 0 6 wy) 62 0 0) t T n m u q w x s ka ki g := fun wy => (V.kp ki_up7).kp (ki_agr (agr_0 _))
    skip
    refine ev_X10_turn (d + 39) _ G c 0 a (by decide) ?_
    simp only [q_isTube _ _ _ _ t I, q_isPerson _ _ _ _ t I, q_isSlot _ _ _ _ t I, q_isTurn _ _ _ _ t I, q_areTwo _ _ _ _ t I, q_isPlace _ _ _ _ t I, e0, e1, e3, e4, hnp, ↓reduceIte]
    by_cases h1 : 0 ≤ a ∧ a < u
    · simp only [h1, and_self, ↓reduceIte, I.p0, I.H.p8, I.H.g3]
      (repeat (refine And.intro (by first | omega | (simp only [true_and, and_true, and_self]; omega) | (simp only [true_and, and_true, and_self])) ?_))
      have hY := V.gp a h1.1 h1.2
      rw [V.g a h1.1 h1.2]
      obtain ⟨Y, hYe⟩ : ∃ Y, Y = g a := ⟨_, rfl⟩
      rw [← hYe] at hY ⊢
      have hac := actM_all (c := c) (nx := thr (c 42 0) (Y) m) V.ac.1 V.kb.1 V.kb.2
      obtain ⟨ha1, ha2, ha3, ha4⟩ := hac
      refine ev_X10_slideAll (d + 38) _ G c 0 (Y) (by decide) ?_
      simp only [I.p0, I.p3, e3, q_X7_through _ _ _ _ _ _ m (show m ≤ 1000 by omega), q_act _ _ _ _ _ ka S.s1 S.l43 V.ac.1 V.kb.1 V.kb.2]
      (repeat (refine And.intro (by first | omega | (simp only [true_and, and_true, and_self]; omega) | (simp only [true_and, and_true, and_self])) ?_))
      have hnx := thr_all (a := c 42 0) (b := Y) (n := m) (by omega) (by omega)
      refine l_slideAll (m := m) (d + 36) _ (tt := t) (by rw [ha4 0 0 (by omega) (by decide)]; exact I.p0) ht (by rw [ha4 0 2 (by omega) (by decide)]; exact I.p3) (by rw [ha4 t 3 (by omega) (by omega)]; exact e3) (by omega) m.toNat 0 0 (by omega) (by omega) ?_
      simp only [q_fine]
      have M2 : MDs G (up (up (actM c (thr (c 42 0) (Y) m)) 0 6 0) 62 0 0) T := M.kp (fun a j k => by rw [agr_0 _ a j (by unfold Kp at k; unfold scr; omega), up_na (by unfold Kp at k; omega), ha4 a j (by unfold Kp at k; omega) (by unfold Kp at k; omega)])
      have r2 : ∀ a j : Int, 62 ≤ a → ¬ (a = 62 ∧ j = 0) → up (up (actM c (thr (c 42 0) (Y) m)) 0 6 0) 62 0 0 a j = c a j := fun a j h h' => by
        by_cases q : a = 62
        · rw [up_nj (by omega), up_na (by omega), ha4 a j (by omega) (by omega)]
        · rw [up_na q, up_na (by omega), ha4 a j (by omega) (by omega)]
      have n2 : up (up (actM c (thr (c 42 0) (Y) m)) 0 6 0) 62 0 0 T 1 = n := by rw [r2 T 1 (by omega) (by omega)]; exact v1
      have hS2 : ∀ b, 0 ≤ b → b < n → sld (up (up (actM c (thr (c 42 0) (Y) m)) 0 6 0) 62 0 0) T a b = dg (g a) b := fun b b0 b1 => by
        rw [sld_eq (c := c) (fun a j q => r2 a j (by omega) (by omega)) hT]; exact hS a b h1.1 h1.2 b0 b1
      refine ev_X12_turn (d + 39) _ G _ 62 a (by decide) ⟨by decide, ?_⟩
      rintro _ rfl
      simp only [q_misTurn _ _ _ _ T M2, r2 T 4 (by omega) (by omega), v4, h1, and_self, ↓reduceIte]
      refine ev_X12_layTurn (d + 38) _ G _ 62 a (by decide) ?_
      have lpA : ∀ (P1 : MM → Prop), (∀ c', (∀ x y, x ≠ 73 → c' x y = up (up (actM c (thr (c 42 0) Y m)) 0 6 0) 62 0 0 x y) → One c' (g a) n → P1 (G, c')) → At (d + 38 + 1) mX12_layTurn 2 [mR 18 62, mI a, mI 0] [] (G, up (up (actM c (thr (c 42 0) Y m)) 0 6 0) 62 0 0) (QV P1) := by
        intro P1 hk
        have lpT : ∀ (f : Nat) (b : Int), 0 ≤ b → b + f = n → (∀ c', (∀ x y, x ≠ 73 → c' x y = up (up (actM c (thr (c 42 0) (Y) m)) 0 6 0) 62 0 0 x y) → One c' (g a) n → P1 (G, c')) → At (d + 38 + 1) mX12_layTurn 2 [mR 18 62, mI a, mI b] [] (G, wr (up (up (actM c (thr (c 42 0) (Y) m)) 0 6 0) 62 0 0) 73 0 b (fun k => dg (g a) k)) (QV P1) := by
          intro f
          induction f with
          | zero =>
            intro b b0 hb hk
            have M3 : MDs G (wr (up (up (actM c (thr (c 42 0) (Y) m)) 0 6 0) 62 0 0) 73 0 b (fun k => dg (g a) k)) T := M2.kp (fun a j q => wr_ne (by unfold Kp at q; omega))
            have x1 : wr (up (up (actM c (thr (c 42 0) (Y) m)) 0 6 0) 62 0 0) 73 0 b (fun k => dg (g a) k) T 1 = n := by rw [wr_ne (by omega)]; exact n2
            apply wp_X12_layTurn_2
            simp only [M3.p3, x1]
            refine ⟨by omega, by omega, ?_⟩
            rw [if_neg (by omega)]
            exact hk _ (fun x y hx => wr_ne hx) (fun k k0 k1 => wr_in k0 (by omega))
          | succ f ih =>
            intro b b0 hb hk
            have M3 : MDs G (wr (up (up (actM c (thr (c 42 0) (Y) m)) 0 6 0) 62 0 0) 73 0 b (fun k => dg (g a) k)) T := M2.kp (fun a j q => wr_ne (by unfold Kp at q; omega))
            have x1 : wr (up (up (actM c (thr (c 42 0) (Y) m)) 0 6 0) 62 0 0) 73 0 b (fun k => dg (g a) k) T 1 = n := by rw [wr_ne (by omega)]; exact n2
            have wb : w32 (b + 1) = b + 1 := w32i (by omega) (by omega)
            apply wp_X12_layTurn_2
            simp only [M3.p3, x1, M3.p27, wb]
            refine ⟨by omega, by omega, ?_⟩
            rw [if_pos (by omega), q_slid _ _ _ _ T M3 a b h1.1 (by omega) b0 (by omega)]
            simp only [M.l73]
            refine ⟨by omega, by omega, ?_⟩
            rintro _ rfl
            rw [sld_eq (c := up (up (actM c (thr (c 42 0) (Y) m)) 0 6 0) 62 0 0) (c' := wr (up (up (actM c (thr (c 42 0) (Y) m)) 0 6 0) 62 0 0) 73 0 b (fun k => dg (g a) k)) (fun a j q => wr_ne (by omega)) hT, hS2 b b0 (by omega), wr_up b0 (by omega) rfl]
            exact ih (b + 1) (by omega) (by omega) hk
        have hgo := lpT n.toNat 0 (by omega) (by omega) hk
        rwa [wr_zero (by omega)] at hgo
      refine lpA _ (fun c3 h3k0 ho3 => ?_)
      have h3k : ∀ x y, x ≠ 73 → x ≠ 74 → c3 x y = up (up (actM c (thr (c 42 0) Y m)) 0 6 0) 62 0 0 x y := fun x y h _ => h3k0 x y h
      have h364 : ∀ p, c3 64 p = c 64 p := fun p => by rw [h3k0 64 p (by decide)]; exact r2 64 p (by omega) (by omega)
      have h366 : ∀ p, c3 66 p = c 66 p := fun p => by rw [h3k0 66 p (by decide)]; exact r2 66 p (by omega) (by omega)
      have M3 : MDs G c3 T := M2.kp (fun a j q => h3k0 a j (by unfold Kp at q; omega))
      dsimp only
      refine f_mslides (n := n) (m := m) (ka := ka) (d + 37) _ M3 (by rw [h3k0 T 1 (by omega)]; exact n2) (by rw [h3k0 T 3 (by omega), r2 T 3 (by omega) (by omega)]; exact v3) (by rw [h3k0 62 20 (by decide), r2 62 20 (by omega) (by omega)]; exact V.ac.2) V.kb.1 V.kb.2 Y (by rw [hYe]; exact ho3) hY (fun p p0 p1 => by rw [h364]; exact (V.sv p p0 p1).2) (fun c4 g1 g2 g3 f4 => ?_)
      have hy64 : (8 : Int) ^ m.toNat ≤ 262144 := by
        have : m = 1 ∨ m = 2 ∨ m = 3 ∨ m = 4 ∨ m = 5 ∨ m = 6 := by omega
        rcases this with rfl | rfl | rfl | rfl | rfl | rfl <;> decide
      have hbs : bsA (fun p => decide (dg (actM c (thr (c 42 0) (Y) m) 42 0) p ≠ dg (c 42 0) p)) m.toNat 0 0 = bs (fun p => decide (dg (Y) (c3 64 p) ≠ c3 64 p)) m := by
        apply bs_congr
        intro p p0 p1
        rw [ha1, hnx.2 p p0 p1, (V.sv p p0 p1).1, h364 p]
      have h4k : ∀ a j, ¬ (a = 42 ∧ (j = 0 ∨ j = 2)) → a ≠ 43 → ¬ (a = 0 ∧ j = 6) → a ≠ 64 → a ≠ 66 → ¬ (a = 62 ∧ (j = 20 ∨ j = 0 ∨ j = 1 ∨ j = 2)) → a ≠ 73 → a ≠ 74 → mtr c4 0 a j = c a j := fun a j q1 q2 q3 q4 q5 q6 q7 q8 => by
        have hm : mtr c4 0 a j = c4 a j := by
          unfold mtr
          by_cases e : a = 62
          · rw [up_nj (by omega), up_nj (by omega)]
          · rw [up_na e, up_na e]
        rw [hm, f4 a j q4 q5 (by omega), h3k a j q7 q8]
        by_cases e : a = 62
        · rw [up_nj (by omega), up_na (by omega), ha4 a j (by omega) (by omega)]
        · rw [up_na e]
          by_cases e0 : a = 0
          · rw [up_nj (by omega), ha4 a j (by omega) (by omega)]
          · rw [up_na e0, ha4 a j (by omega) (by omega)]
      have hmt : ∀ a j, a ≠ 62 → mtr c4 0 a j = c4 a j := fun a j h => by unfold mtr; rw [up_na h, up_na h]
      have h20 : mtr c4 0 62 20 = if ka = 16 then 16 else ka + 1 := by unfold mtr; rw [up_nj (by decide), up_nj (by decide)]; exact g1
      have c42 : ∀ j, mtr c4 0 42 j = actM c (thr (c 42 0) (Y) m) 42 j := fun j => by rw [hmt 42 j (by decide), f4 42 j (by decide) (by decide) (by omega), h3k 42 j (by decide) (by decide), up_na (by decide), up_na (by decide)]
      have c43 : ∀ j, mtr c4 0 43 j = actM c (thr (c 42 0) (Y) m) 43 j := fun j => by rw [hmt 43 j (by decide), f4 43 j (by decide) (by decide) (by omega), h3k 43 j (by decide) (by decide), up_na (by decide), up_na (by decide)]
      have c07 : mtr c4 0 0 6 = 0 := by rw [hmt 0 6 (by decide), f4 0 6 (by decide) (by decide) (by omega), h3k 0 6 (by decide) (by decide), up_na (by decide), up_eq]
      have hTU : TU G (mtr c4 0) t := tv_acted V (thr (c 42 0) (Y) m) (mtr c4 0) (fun a j q1 q2 q3 q4 q5 q6 => h4k a j (by omega) (by omega) (by unfold KI at q1; omega) q4 (by omega) (by unfold KI scr at q1; omega) (by unfold KI scr at q1; omega) (by unfold KI scr at q1; omega)) (by rw [c42]; exact ha1) ⟨hnx.1.1, by omega⟩ (fun p p0 p1 => by
          rw [hmt 64 p (by decide), g3 p p0 p1, h364 p, hnx.2 p p0 p1, (V.sv p p0 p1).1]
          exact ⟨rfl, hY.rg _ (V.sv p p0 p1).2.1 (V.sv p p0 p1).2.2⟩) (by rw [c42]; exact ha2) h20 (fun a a0 a1 => by rw [c43]; exact ha3 a a0 a1) (fun a p a0 a1 p0 p1 => by rw [hmt 66 _ (by decide), g2 a p a0 a1 p0 p1]; simp only [h364, h366]) (by rw [c42]; exact ha4 42 4 (by omega) (by decide)) (h4k 62 21 (by omega) (by omega) (by omega) (by omega) (by omega) (by omega) (by omega) (by omega)) (fun a => h4k 44 a (by omega) (by omega) (by omega) (by omega) (by omega) (by omega) (by omega) (by omega)) (fun a => h4k 67 a (by omega) (by omega) (by omega) (by omega) (by omega) (by omega) (by omega) (by omega))
      have hIV : IV G (mtr c4 0) := IV.act S (fun a j q1 q2 q3 q4 q5 q6 => h4k a j (by omega) (by omega) (by unfold KI at q1; omega) q4 (by omega) (by unfold KI scr at q1; omega) (by unfold KI scr at q1; omega) (by unfold KI scr at q1; omega)) hTU (by rw [mtr_t, c07]) (mtr_w _ _) (by rw [c07]; decide)
      exact ⟨hbs, rfl, hIV⟩
    · simp only [h1, and_self, ↓reduceIte, q_refused]
      refine ev_X12_turn (d + 39) _ G _ 62 a (by decide) ⟨by decide, ?_⟩
      rintro _ rfl
      simp only [q_misSlot _ _ _ _ T (M1 _), q_misPerson _ _ _ _ T (M1 _), q_misTurn _ _ _ _ T (M1 _), q_mareTwo _ _ _ _ T (M1 _), q_misPlace _ _ _ _ T (M1 _), (M1 _).p3, hTn, rT, v1, v3, v4, ↓reduceIte, Int.reduceLE, true_and, h1, and_self, ↓reduceIte, q_mrefused]
      exact ⟨rfl, rfl, IV.q H0 (by decide) (agr_0 _)⟩
theorem k_turnBack (d : Nat) (G : MG) (c : MC) (a : Int) (H : IV G c) : EvI (d + 40) mX10_turnBack [mR 16 0, mI a] (G, c) (fun r1 ν1 => EvI (d + 40) mX12_turnBack [mR 18 62, mI a] (ν1.1, ν1.2) (fun r2 ν2 => K2 G r1 r2 ν2)) := by
  obtain ⟨hr, t, z, S, V⟩ := H
  have H0 : IV0 G c := ⟨t, z, S, V⟩
  rcases V with V | ⟨T, n, m, u, q, w, x, s, ka, ki, g, V⟩
  · have I := S.ciN V
    have e1 := V.e1; have e3 := V.e3; have e4 := V.e4; have N := V.T
    have N1 : ∀ wy, up (up c 0 6 wy) 62 0 0 62 3 = -1 := fun wy => by rw [up_nj (by decide), up_na (by decide)]; exact N
    refine ev_X10_turnBack (d + 39) _ G c 0 a (by decide) ?_
    simp only [z_isTube _ _ _ _ t I e1, z_isPerson _ _ _ _ t I _ e3, z_isSlot _ _ _ _ t I _ e1, z_isTurn _ _ _ _ t I _ e4, z_areTwo _ _ _ _ t I _ _ e3, z_isPlace _ _ _ _ t I _ e1, ↓reduceIte, q_refused]
    refine ev_X12_turnBack (d + 39) _ G _ 62 a (by decide) ⟨by decide, ?_⟩
    rintro _ rfl
    simp only [q_nisSlot _ _ _ _ (N1 _), q_nisPerson _ _ _ _ (N1 _), q_nisTurn _ _ _ _ (N1 _), q_nareTwo _ _ _ _ (N1 _), q_nisPlace _ _ _ _ (N1 _), N1, ↓reduceIte, q_mrefused, Int.reduceNeg, Int.reduceLT, Int.reduceLE, true_and]
    exact ⟨rfl, rfl, IV.q H0 (by decide) (agr_0 _)⟩
  · have I := S.ciT V
    have M := V.M; have hT := M.T; have ht := V.t
    have v1 := V.v1; have v3 := V.v3; have v4 := V.v4; have e0 := V.e0; have e1 := V.e1; have e3 := V.e3; have e4 := V.e4; have e5 := V.e5
    have b0 := M.b0; have b1 := M.b1; have b3 := M.b3; have b4 := M.b4
    rw [v1] at b1; rw [v3] at b3; rw [v4] at b4
    have hnp : 0 < n := by omega
    have hTn : ¬ T < 0 := by omega
    have M1 : ∀ wy, MDs G (up (up c 0 6 wy) 62 0 0) T := fun wy => (M.ki ki_up7).agr (agr_0 _)
    have r64 : ∀ wy, up (up c 0 6 wy) 62 0 0 64 = c 64 := fun wy => by funext j; rw [up_na (by decide), up_na (by decide)]
    have rT : ∀ wy k, up (up c 0 6 wy) 62 0 0 T k = c T k := fun wy k => by rw [up_na (by omega), up_na (by omega)]
    have rTT : ∀ wy (a : Int), 0 ≤ a → up (up c 0 6 wy) 62 0 0 (T + a) = c (T + a) := fun wy a ha => by funext j; rw [up_na (by omega), up_na (by omega)]
    have rS : ∀ wy a b, sld (up (up c 0 6 wy) 62 0 0) T a b = sld c T a b := fun wy a b => sld_eq (fun a j q => by rw [up_na (by omega), up_na (by omega)]) hT
    have hS : ∀ a b, 0 ≤ a → a < u → 0 ≤ b → b < n → sld c T a b = dg (g a) b := fun a b h1 h2 h3 h4 => by unfold sld; rw [v4, if_pos h2]; exact V.tk a b h1 h2 h3 h4
    have V1 : ∀ wy, TV G (up (up c 0 6 wy) 62 0 0) t T n m u q w x s ka ki g := fun wy => (V.kp ki_up7).kp (ki_agr (agr_0 _))
    skip
    refine ev_X10_turnBack (d + 39) _ G c 0 a (by decide) ?_
    simp only [q_isTube _ _ _ _ t I, q_isPerson _ _ _ _ t I, q_isSlot _ _ _ _ t I, q_isTurn _ _ _ _ t I, q_areTwo _ _ _ _ t I, q_isPlace _ _ _ _ t I, e0, e1, e3, e4, hnp, ↓reduceIte]
    by_cases h1 : 0 ≤ a ∧ a < u
    · simp only [h1, and_self, ↓reduceIte, I.p0, I.H.p8, I.H.g3, e1]
      (repeat (refine And.intro (by first | omega | (simp only [true_and, and_true, and_self]; omega) | (simp only [true_and, and_true, and_self])) ?_))
      have hY := inv_pm b1.1 b1.2 (V.gp a h1.1 h1.2)
      rw [V.g a h1.1 h1.2, q_X7_inverse _ _ _ _ _ n (show n ≤ 1000 by omega)]
      obtain ⟨Y, hYe⟩ : ∃ Y, Y = inv6 (g a) n := ⟨_, rfl⟩
      rw [← hYe] at hY ⊢
      have hac := actM_all (c := c) (nx := thr (c 42 0) (Y) m) V.ac.1 V.kb.1 V.kb.2
      obtain ⟨ha1, ha2, ha3, ha4⟩ := hac
      refine ev_X10_slideAll (d + 38) _ G c 0 (Y) (by decide) ?_
      simp only [I.p0, I.p3, e3, q_X7_through _ _ _ _ _ _ m (show m ≤ 1000 by omega), q_act _ _ _ _ _ ka S.s1 S.l43 V.ac.1 V.kb.1 V.kb.2]
      (repeat (refine And.intro (by first | omega | (simp only [true_and, and_true, and_self]; omega) | (simp only [true_and, and_true, and_self])) ?_))
      have hnx := thr_all (a := c 42 0) (b := Y) (n := m) (by omega) (by omega)
      refine l_slideAll (m := m) (d + 36) _ (tt := t) (by rw [ha4 0 0 (by omega) (by decide)]; exact I.p0) ht (by rw [ha4 0 2 (by omega) (by decide)]; exact I.p3) (by rw [ha4 t 3 (by omega) (by omega)]; exact e3) (by omega) m.toNat 0 0 (by omega) (by omega) ?_
      simp only [q_fine]
      have M2 : MDs G (up (up (actM c (thr (c 42 0) (Y) m)) 0 6 0) 62 0 0) T := M.kp (fun a j k => by rw [agr_0 _ a j (by unfold Kp at k; unfold scr; omega), up_na (by unfold Kp at k; omega), ha4 a j (by unfold Kp at k; omega) (by unfold Kp at k; omega)])
      have r2 : ∀ a j : Int, 62 ≤ a → ¬ (a = 62 ∧ j = 0) → up (up (actM c (thr (c 42 0) (Y) m)) 0 6 0) 62 0 0 a j = c a j := fun a j h h' => by
        by_cases q : a = 62
        · rw [up_nj (by omega), up_na (by omega), ha4 a j (by omega) (by omega)]
        · rw [up_na q, up_na (by omega), ha4 a j (by omega) (by omega)]
      have n2 : up (up (actM c (thr (c 42 0) (Y) m)) 0 6 0) 62 0 0 T 1 = n := by rw [r2 T 1 (by omega) (by omega)]; exact v1
      have hS2 : ∀ b, 0 ≤ b → b < n → sld (up (up (actM c (thr (c 42 0) (Y) m)) 0 6 0) 62 0 0) T a b = dg (g a) b := fun b b0 b1 => by
        rw [sld_eq (c := c) (fun a j q => r2 a j (by omega) (by omega)) hT]; exact hS a b h1.1 h1.2 b0 b1
      refine ev_X12_turnBack (d + 39) _ G _ 62 a (by decide) ⟨by decide, ?_⟩
      rintro _ rfl
      simp only [q_misTurn _ _ _ _ T M2, r2 T 4 (by omega) (by omega), v4, h1, and_self, ↓reduceIte]
      refine ev_X12_layTurn (d + 38) _ G _ 62 a (by decide) ?_
      have lpA : ∀ (P1 : MM → Prop), (∀ c', (∀ x y, x ≠ 73 → c' x y = up (up (actM c (thr (c 42 0) Y m)) 0 6 0) 62 0 0 x y) → One c' (g a) n → P1 (G, c')) → At (d + 38 + 1) mX12_layTurn 2 [mR 18 62, mI a, mI 0] [] (G, up (up (actM c (thr (c 42 0) Y m)) 0 6 0) 62 0 0) (QV P1) := by
        intro P1 hk
        have lpT : ∀ (f : Nat) (b : Int), 0 ≤ b → b + f = n → (∀ c', (∀ x y, x ≠ 73 → c' x y = up (up (actM c (thr (c 42 0) (Y) m)) 0 6 0) 62 0 0 x y) → One c' (g a) n → P1 (G, c')) → At (d + 38 + 1) mX12_layTurn 2 [mR 18 62, mI a, mI b] [] (G, wr (up (up (actM c (thr (c 42 0) (Y) m)) 0 6 0) 62 0 0) 73 0 b (fun k => dg (g a) k)) (QV P1) := by
          intro f
          induction f with
          | zero =>
            intro b b0 hb hk
            have M3 : MDs G (wr (up (up (actM c (thr (c 42 0) (Y) m)) 0 6 0) 62 0 0) 73 0 b (fun k => dg (g a) k)) T := M2.kp (fun a j q => wr_ne (by unfold Kp at q; omega))
            have x1 : wr (up (up (actM c (thr (c 42 0) (Y) m)) 0 6 0) 62 0 0) 73 0 b (fun k => dg (g a) k) T 1 = n := by rw [wr_ne (by omega)]; exact n2
            apply wp_X12_layTurn_2
            simp only [M3.p3, x1]
            refine ⟨by omega, by omega, ?_⟩
            rw [if_neg (by omega)]
            exact hk _ (fun x y hx => wr_ne hx) (fun k k0 k1 => wr_in k0 (by omega))
          | succ f ih =>
            intro b b0 hb hk
            have M3 : MDs G (wr (up (up (actM c (thr (c 42 0) (Y) m)) 0 6 0) 62 0 0) 73 0 b (fun k => dg (g a) k)) T := M2.kp (fun a j q => wr_ne (by unfold Kp at q; omega))
            have x1 : wr (up (up (actM c (thr (c 42 0) (Y) m)) 0 6 0) 62 0 0) 73 0 b (fun k => dg (g a) k) T 1 = n := by rw [wr_ne (by omega)]; exact n2
            have wb : w32 (b + 1) = b + 1 := w32i (by omega) (by omega)
            apply wp_X12_layTurn_2
            simp only [M3.p3, x1, M3.p27, wb]
            refine ⟨by omega, by omega, ?_⟩
            rw [if_pos (by omega), q_slid _ _ _ _ T M3 a b h1.1 (by omega) b0 (by omega)]
            simp only [M.l73]
            refine ⟨by omega, by omega, ?_⟩
            rintro _ rfl
            rw [sld_eq (c := up (up (actM c (thr (c 42 0) (Y) m)) 0 6 0) 62 0 0) (c' := wr (up (up (actM c (thr (c 42 0) (Y) m)) 0 6 0) 62 0 0) 73 0 b (fun k => dg (g a) k)) (fun a j q => wr_ne (by omega)) hT, hS2 b b0 (by omega), wr_up b0 (by omega) rfl]
            exact ih (b + 1) (by omega) (by omega) hk
        have hgo := lpT n.toNat 0 (by omega) (by omega) hk
        rwa [wr_zero (by omega)] at hgo
      refine lpA _ (fun c2 h2k0 ho2 => ?_)
      have M22 : MDs G c2 T := M2.kp (fun a j q => h2k0 a j (by unfold Kp at q; omega))
      have n22 : c2 T 1 = n := by rw [h2k0 T 1 (by omega)]; exact n2
      dsimp only
      refine f_inverts2 (d + 38) _ G c2 n T M22 n22 (g a) ho2 (V.gp a h1.1 h1.2) (fun c3 h33 ho3 => ?_)
      have h3k : ∀ x y, x ≠ 73 → x ≠ 74 → c3 x y = up (up (actM c (thr (c 42 0) Y m)) 0 6 0) 62 0 0 x y := fun x y h h' => by rw [h33 x y h h']; exact h2k0 x y h
      have h364 : ∀ p, c3 64 p = c 64 p := fun p => by rw [h3k 64 p (by decide) (by decide)]; exact r2 64 p (by omega) (by omega)
      have h366 : ∀ p, c3 66 p = c 66 p := fun p => by rw [h3k 66 p (by decide) (by decide)]; exact r2 66 p (by omega) (by omega)
      have M3 : MDs G c3 T := M2.kp (fun a j q => h3k a j (by unfold Kp at q; omega) (by unfold Kp at q; omega))
      dsimp only
      refine f_mslides (n := n) (m := m) (ka := ka) (d + 37) _ M3 (by rw [h3k T 1 (by omega) (by omega)]; exact n2) (by rw [h3k T 3 (by omega) (by omega), r2 T 3 (by omega) (by omega)]; exact v3) (by rw [h3k 62 20 (by decide) (by decide), r2 62 20 (by omega) (by omega)]; exact V.ac.2) V.kb.1 V.kb.2 Y (by rw [hYe]; exact ho3) hY (fun p p0 p1 => by rw [h364]; exact (V.sv p p0 p1).2) (fun c4 g1 g2 g3 f4 => ?_)
      have hy64 : (8 : Int) ^ m.toNat ≤ 262144 := by
        have : m = 1 ∨ m = 2 ∨ m = 3 ∨ m = 4 ∨ m = 5 ∨ m = 6 := by omega
        rcases this with rfl | rfl | rfl | rfl | rfl | rfl <;> decide
      have hbs : bsA (fun p => decide (dg (actM c (thr (c 42 0) (Y) m) 42 0) p ≠ dg (c 42 0) p)) m.toNat 0 0 = bs (fun p => decide (dg (Y) (c3 64 p) ≠ c3 64 p)) m := by
        apply bs_congr
        intro p p0 p1
        rw [ha1, hnx.2 p p0 p1, (V.sv p p0 p1).1, h364 p]
      have h4k : ∀ a j, ¬ (a = 42 ∧ (j = 0 ∨ j = 2)) → a ≠ 43 → ¬ (a = 0 ∧ j = 6) → a ≠ 64 → a ≠ 66 → ¬ (a = 62 ∧ (j = 20 ∨ j = 0 ∨ j = 1 ∨ j = 2)) → a ≠ 73 → a ≠ 74 → mtr c4 0 a j = c a j := fun a j q1 q2 q3 q4 q5 q6 q7 q8 => by
        have hm : mtr c4 0 a j = c4 a j := by
          unfold mtr
          by_cases e : a = 62
          · rw [up_nj (by omega), up_nj (by omega)]
          · rw [up_na e, up_na e]
        rw [hm, f4 a j q4 q5 (by omega), h3k a j q7 q8]
        by_cases e : a = 62
        · rw [up_nj (by omega), up_na (by omega), ha4 a j (by omega) (by omega)]
        · rw [up_na e]
          by_cases e0 : a = 0
          · rw [up_nj (by omega), ha4 a j (by omega) (by omega)]
          · rw [up_na e0, ha4 a j (by omega) (by omega)]
      have hmt : ∀ a j, a ≠ 62 → mtr c4 0 a j = c4 a j := fun a j h => by unfold mtr; rw [up_na h, up_na h]
      have h20 : mtr c4 0 62 20 = if ka = 16 then 16 else ka + 1 := by unfold mtr; rw [up_nj (by decide), up_nj (by decide)]; exact g1
      have c42 : ∀ j, mtr c4 0 42 j = actM c (thr (c 42 0) (Y) m) 42 j := fun j => by rw [hmt 42 j (by decide), f4 42 j (by decide) (by decide) (by omega), h3k 42 j (by decide) (by decide), up_na (by decide), up_na (by decide)]
      have c43 : ∀ j, mtr c4 0 43 j = actM c (thr (c 42 0) (Y) m) 43 j := fun j => by rw [hmt 43 j (by decide), f4 43 j (by decide) (by decide) (by omega), h3k 43 j (by decide) (by decide), up_na (by decide), up_na (by decide)]
      have c07 : mtr c4 0 0 6 = 0 := by rw [hmt 0 6 (by decide), f4 0 6 (by decide) (by decide) (by omega), h3k 0 6 (by decide) (by decide), up_na (by decide), up_eq]
      have hTU : TU G (mtr c4 0) t := tv_acted V (thr (c 42 0) (Y) m) (mtr c4 0) (fun a j q1 q2 q3 q4 q5 q6 => h4k a j (by omega) (by omega) (by unfold KI at q1; omega) q4 (by omega) (by unfold KI scr at q1; omega) (by unfold KI scr at q1; omega) (by unfold KI scr at q1; omega)) (by rw [c42]; exact ha1) ⟨hnx.1.1, by omega⟩ (fun p p0 p1 => by
          rw [hmt 64 p (by decide), g3 p p0 p1, h364 p, hnx.2 p p0 p1, (V.sv p p0 p1).1]
          exact ⟨rfl, hY.rg _ (V.sv p p0 p1).2.1 (V.sv p p0 p1).2.2⟩) (by rw [c42]; exact ha2) h20 (fun a a0 a1 => by rw [c43]; exact ha3 a a0 a1) (fun a p a0 a1 p0 p1 => by rw [hmt 66 _ (by decide), g2 a p a0 a1 p0 p1]; simp only [h364, h366]) (by rw [c42]; exact ha4 42 4 (by omega) (by decide)) (h4k 62 21 (by omega) (by omega) (by omega) (by omega) (by omega) (by omega) (by omega) (by omega)) (fun a => h4k 44 a (by omega) (by omega) (by omega) (by omega) (by omega) (by omega) (by omega) (by omega)) (fun a => h4k 67 a (by omega) (by omega) (by omega) (by omega) (by omega) (by omega) (by omega) (by omega))
      have hIV : IV G (mtr c4 0) := IV.act S (fun a j q1 q2 q3 q4 q5 q6 => h4k a j (by omega) (by omega) (by unfold KI at q1; omega) q4 (by omega) (by unfold KI scr at q1; omega) (by unfold KI scr at q1; omega) (by unfold KI scr at q1; omega)) hTU (by rw [mtr_t, c07]) (mtr_w _ _) (by rw [c07]; decide)
      exact ⟨hbs, rfl, hIV⟩
    · simp only [h1, and_self, ↓reduceIte, q_refused]
      refine ev_X12_turnBack (d + 39) _ G _ 62 a (by decide) ⟨by decide, ?_⟩
      rintro _ rfl
      simp only [q_misSlot _ _ _ _ T (M1 _), q_misPerson _ _ _ _ T (M1 _), q_misTurn _ _ _ _ T (M1 _), q_mareTwo _ _ _ _ T (M1 _), q_misPlace _ _ _ _ T (M1 _), (M1 _).p3, hTn, rT, v1, v3, v4, ↓reduceIte, Int.reduceLE, true_and, h1, and_self, ↓reduceIte, q_mrefused]
      exact ⟨rfl, rfl, IV.q H0 (by decide) (agr_0 _)⟩
