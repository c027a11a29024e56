def nd (l x y : Int) : Int := if l - (if x - y < 0 then y - x else x - y) < (if x - y < 0 then y - x else x - y) then l - (if x - y < 0 then y - x else x - y) else (if x - y < 0 then y - x else x - y)
/-- i is one of the l places, and shows v -/
def Mch (n l v i : Int) : Prop := 0 ≤ i ∧ i < l ∧ ssl n i = v
def NMn (n l a b e r : Int) : Prop := (∀ i j, Mch n l a i → Mch n l b j → r ≤ nd l i j) ∧ (r = e ∨ ∃ i j, Mch n l a i ∧ Mch n l b j ∧ r = nd l i j)
theorem nd_le {l x y : Int} (x0 : 0 ≤ x) (x1 : x < l) (y0 : 0 ≤ y) (y1 : y < l) : 0 ≤ nd l x y ∧ nd l x y < l := by
  unfold nd
  (repeat' split) <;> omega
theorem NMn.eq {S n a b r r' : Int} (s0 : 2 ≤ S) (s9 : S ≤ 9) (n2 : 2 ≤ n) (n6 : n ≤ 6) (a0 : 0 ≤ a) (a1 : a < n) (b0 : 0 ≤ b) (b1 : b < n) (h : NMn n (2 * S * n) a b (2 * S * n) r) (h' : NMn n (2 * S * n) a b 9999 r') : r = r' := by
  have hl := pl_le s0 s9 n2 n6
  obtain ⟨p1, p2, _, p3⟩ := plc_of n2 n6 (Int.le_refl 0) (by omega) a0 a1
  obtain ⟨q1, q2, _, q3⟩ := plc_of n2 n6 (Int.le_refl 0) (by omega) b0 b1
  have hnl : n ≤ 2 * S * n := by
    have hn : n = 2 ∨ n = 3 ∨ n = 4 ∨ n = 5 ∨ n = 6 := by omega
    rcases hn with rfl | rfl | rfl | rfl | rfl <;> omega
  have m1 : Mch n (2 * S * n) a (plc n 0 a) := ⟨by omega, by omega, p3⟩
  have m2 : Mch n (2 * S * n) b (plc n 0 b) := ⟨by omega, by omega, q3⟩
  have hd := nd_le m1.1 m1.2.1 m2.1 m2.2.1
  have e1 := h.1 _ _ m1 m2
  have e2 := h'.1 _ _ m1 m2
  rcases h.2 with f | ⟨i, j, mi, mj, f⟩
  · omega
  · have g1 := h'.1 _ _ mi mj
    rcases h'.2 with f' | ⟨i', j', mi', mj', f'⟩
    · omega
    · have g2 := h.1 _ _ mi' mj'
      omega
section
variable {G : MG} {c : MC} {t T n m : Int} (d : Nat) (P : Int → MM → Prop)
/-- the class: sectors i, k of the two -/
def NC (n l a b i k r : Int) : Prop := (∀ x y, Mch n l a x → Mch n l b y → (x / n < i ∨ (x / n = i ∧ y / n < k)) → r ≤ nd l x y) ∧ (r = l ∨ ∃ x y, Mch n l a x ∧ Mch n l b y ∧ r = nd l x y)
theorem mch_div {S n v i : Int} (s0 : 2 ≤ S) (s9 : S ≤ 9) (n2 : 2 ≤ n) (n6 : n ≤ 6) (h : Mch n (2 * S * n) v i) : 0 ≤ i / n ∧ i / n < 2 * S ∧ i = plc n (i / n) v := by
  have hl := pl_le s0 s9 n2 n6
  exact ⟨Int.ediv_nonneg h.1 (by omega), Int.ediv_lt_of_lt_mul (by omega) h.2.1, ssl_plc n2 n6 h.1 (by have := h.2.1; omega) h.2.2⟩
theorem mch_plc {S n v k : Int} (s0 : 2 ≤ S) (s9 : S ≤ 9) (n2 : 2 ≤ n) (n6 : n ≤ 6) (v0 : 0 ≤ v) (v1 : v < n) (k0 : 0 ≤ k) (k1 : k < 2 * S) : Mch n (2 * S * n) v (plc n k v) := by
  obtain ⟨p1, p2, _, p3⟩ := plc_of n2 n6 k0 (by omega) v0 v1
  have h1 : 0 ≤ k * n := Int.mul_nonneg k0 (by omega)
  have h2 : (k + 1) * n ≤ 2 * S * n := Int.mul_le_mul_of_nonneg_right (by omega) (by omega)
  exact ⟨by omega, by omega, p3⟩
theorem NC.step {S n a b i k r r' : Int} (s0 : 2 ≤ S) (s9 : S ≤ 9) (n2 : 2 ≤ n) (n6 : n ≤ 6) (a0 : 0 ≤ a) (a1 : a < n) (b0 : 0 ≤ b) (b1 : b < n) (i0 : 0 ≤ i) (i1 : i < 2 * S) (k0 : 0 ≤ k) (k1 : k < 2 * S) (h : NC n (2 * S * n) a b i k r) (hr : r' = if nd (2 * S * n) (plc n i a) (plc n k b) < r then nd (2 * S * n) (plc n i a) (plc n k b) else r) : NC n (2 * S * n) a b i (k + 1) r' := by
  have m1 := mch_plc s0 s9 n2 n6 a0 a1 i0 i1
  have m2 := mch_plc s0 s9 n2 n6 b0 b1 k0 k1
  constructor
  · intro x y hx hy ho
    obtain ⟨x0, x1, x2⟩ := mch_div s0 s9 n2 n6 hx
    obtain ⟨y0, y1, y2⟩ := mch_div s0 s9 n2 n6 hy
    by_cases hc : x / n = i ∧ y / n = k
    · rw [hc.1] at x2
      rw [hc.2] at y2
      rw [x2, y2, hr]
      split <;> omega
    · have := h.1 x y hx hy (by omega)
      rw [hr]
      split <;> omega
  · rw [hr]
    split
    · exact Or.inr ⟨_, _, m1, m2, rfl⟩
    · exact h.2
theorem l_cnear (I : CI G c t) {a b S : Int} (hS : c t 0 = S) (hn : c t 1 = n) (s0 : 2 ≤ S) (s9 : S ≤ 9) (n2 : 2 ≤ n) (n6 : n ≤ 6) (ha : 0 ≤ dg (c 42 0) a ∧ dg (c 42 0) a < n) (hb : 0 ≤ dg (c 42 0) b ∧ dg (c 42 0) b < n) {i : Int} (i0 : 0 ≤ i) (i1 : i < 2 * S) (hk : ∀ r, 0 ≤ r → r < 1000 → NC n (2 * S * n) (dg (c 42 0) a) (dg (c 42 0) b) i (2 * S) r → At (d + 3) mX10_near 23 [mR 16 0, mI a, mI b, mI r, mI (i + 1), MU, MU] [] (G, c) (QI P)) : ∀ (j : Nat) (k r : Int), 0 ≤ k → k + j = 2 * S → 0 ≤ r → r < 1000 → NC n (2 * S * n) (dg (c 42 0) a) (dg (c 42 0) b) i k r → At (d + 3) mX10_near 35 [mR 16 0, mI a, mI b, mI r, mI i, mI k, MU] [] (G, c) (QI P) := by
  intro j
  have hl := pl_le s0 s9 n2 n6
  induction j with
  | zero =>
    intro k r k0 hj r0 r1 hN
    apply wp_X10_near_35
    simp only [q_sectors _ _ _ _ t I, hS]
    rw [if_neg (by omega), w32i (by omega) (by omega)]
    rw [show k = 2 * S by omega] at hN
    exact hk r r0 r1 hN
  | succ j ih =>
    intro k r k0 hj r0 r1 hN
    have wk : w32 (k + 1) = k + 1 := w32i (by omega) (by omega)
    obtain ⟨m10, m11, _⟩ := mch_plc s0 s9 n2 n6 ha.1 ha.2 i0 i1
    obtain ⟨m20, m21, _⟩ := mch_plc s0 s9 n2 n6 hb.1 hb.2 k0 (show k < 2 * S by omega)
    have f1 : (if i % 2 = 0 then i * n + dg (c 42 0) a else i * n + (n - 1 - dg (c 42 0) a)) = plc n i (dg (c 42 0) a) := rfl
    have f2 : (if k % 2 = 0 then k * n + dg (c 42 0) b else k * n + (n - 1 - dg (c 42 0) b)) = plc n k (dg (c 42 0) b) := rfl
    apply wp_X10_near_35
    simp only [q_sectors _ _ _ _ t I, hS, q_slotOf _ _ _ _ t I, q_placeIn _ _ _ _ t I i _ i0 (by omega) ha.1 (by omega), q_placeIn _ _ _ _ t I k _ k0 (by omega) hb.1 (by omega), hn, f1, f2, q_J9_abs, q_J9_min, q_places _ _ _ _ t I, wk]
    rw [if_pos (by omega)]
    generalize hx : plc n i (dg (c 42 0) a) = x at *
    generalize hy : plc n k (dg (c 42 0) b) = y at *
    have hst := hN.step s0 s9 n2 n6 ha.1 ha.2 hb.1 hb.2 i0 i1 k0 (by omega) rfl
    rw [hx, hy] at hst
    have w1 : w32 (x - y) = x - y := w32i (by omega) (by omega)
    have w2 : w32 (0 - (x - y)) = y - x := by rw [w32i (by omega) (by omega)]; omega
    have w3 : w32 (2 * S * n - (if x - y < 0 then y - x else x - y)) = 2 * S * n - (if x - y < 0 then y - x else x - y) := w32i (by split <;> omega) (by split <;> omega)
    rw [w1, w2, w3]
    have hd := nd_le (l := 2 * S * n) m10 m11 m20 m21
    have e : (if 2 * S * n - (if x - y < 0 then y - x else x - y) < (if x - y < 0 then y - x else x - y) then 2 * S * n - (if x - y < 0 then y - x else x - y) else (if x - y < 0 then y - x else x - y)) = nd (2 * S * n) x y := rfl
    rw [e]
    exact ih (k + 1) _ (by omega) (by omega) (by split <;> omega) (by split <;> omega) hst
theorem l_cnear2 (I : CI G c t) {a b S : Int} (hS : c t 0 = S) (hn : c t 1 = n) (s0 : 2 ≤ S) (s9 : S ≤ 9) (n2 : 2 ≤ n) (n6 : n ≤ 6) (ha : 0 ≤ dg (c 42 0) a ∧ dg (c 42 0) a < n) (hb : 0 ≤ dg (c 42 0) b ∧ dg (c 42 0) b < n) (hP : ∀ r, NMn n (2 * S * n) (dg (c 42 0) a) (dg (c 42 0) b) (2 * S * n) r → P r (G, up c 0 6 0)) : ∀ (j : Nat) (i r : Int), 0 ≤ i → i + j = 2 * S → 0 ≤ r → r < 1000 → NC n (2 * S * n) (dg (c 42 0) a) (dg (c 42 0) b) i 0 r → At (d + 3) mX10_near 23 [mR 16 0, mI a, mI b, mI r, mI i, MU, MU] [] (G, c) (QI P) := by
  intro j
  induction j with
  | zero =>
    intro i r i0 hj r0 r1 hN
    apply wp_X10_near_23
    simp only [q_sectors _ _ _ _ t I, hS, q_fine]
    rw [if_neg (by omega)]
    refine hP r ⟨fun x y hx hy => hN.1 x y hx hy ?_, hN.2⟩
    have := mch_div s0 s9 n2 n6 hx
    omega
  | succ j ih =>
    intro i r i0 hj r0 r1 hN
    apply wp_X10_near_23
    simp only [q_sectors _ _ _ _ t I, hS]
    rw [if_pos (by omega)]
    refine l_cnear d P I hS hn s0 s9 n2 n6 ha hb i0 (by omega) (fun r' r0' r1' hN' => ih (i + 1) r' (by omega) (by omega) r0' r1' ⟨fun x y hx hy ho => hN'.1 x y hx hy ?_, hN'.2⟩) (2 * S).toNat 0 r (by omega) (by omega) r0 r1 hN
    have h1 := mch_div s0 s9 n2 n6 hx
    have h2 := mch_div s0 s9 n2 n6 hy
    omega
/-- the reference: places i, k of the two -/
def NR (n l a b i k r : Int) : Prop := (∀ x y, Mch n l a x → Mch n l b y → (x < i ∨ (x = i ∧ y < k)) → r ≤ nd l x y) ∧ (r = 9999 ∨ ∃ x y, Mch n l a x ∧ Mch n l b y ∧ r = nd l x y)
theorem l_mnear (M : MDs G c T) {a b S l : Int} (hS : c T 0 = S) (hn : c T 1 = n) (s0 : 2 ≤ S) (s9 : S ≤ 9) (n2 : 2 ≤ n) (n6 : n ≤ 6) (hl : 2 * S * n = l) (a0 : 0 ≤ a) (a6 : a < 6) (b0 : 0 ≤ b) (b6 : b < 6) {i : Int} (i0 : 0 ≤ i) (i1 : i < l) (hk : ∀ r, 0 ≤ r → r < 10000 → NR n l (c 64 a) (c 64 b) i l r → At (d + 2) mX12_near 27 [mR 18 62, mI a, mI b, mI r, mI (i + 1), MU, MU] [] (G, c) (QI P)) : ∀ (j : Nat) (k r : Int), 0 ≤ k → k + j = l → 0 ≤ r → r < 10000 → NR n l (c 64 a) (c 64 b) i k r → At (d + 2) mX12_near 39 [mR 18 62, mI a, mI b, mI r, mI i, mI k, MU] [] (G, c) (QI P) := by
  intro j
  have hpl := pl_le s0 s9 n2 n6
  rw [hl] at hpl
  induction j with
  | zero =>
    intro k r k0 hj r0 r1 hN
    apply wp_X12_near_39
    simp only [q_mplaces _ _ _ _ T M, hS, hn, hl]
    rw [if_neg (by omega), w32i (by omega) (by omega)]
    rw [show k = l by omega] at hN
    exact hk r r0 r1 hN
  | succ j ih =>
    intro k r k0 hj r0 r1 hN
    have wk : w32 (k + 1) = k + 1 := w32i (by omega) (by omega)
    have wi : w32 (i + 1) = i + 1 := w32i (by omega) (by omega)
    apply wp_X12_near_39
    have w1 : w32 (k - i) = k - i := w32i (by omega) (by omega)
    have w2 : w32 (k - i + l) = k - i + l := w32i (by omega) (by omega)
    have w3 : o_rem (k - i + l) l = if k < i then k - i + l else k - i := by
      rw [o_rem_of (by omega) (by omega) (by omega) (by omega)]
      split
      · exact Int.emod_eq_of_lt (by omega) (by omega)
      · rw [Int.add_emod_right]; exact Int.emod_eq_of_lt (by omega) (by omega)
    simp only [q_mplaces _ _ _ _ T M, hS, hn, hl, q_seenSlot _ _ _ _ T M, M.p16, M.l64, wi, w1, w2, w3]
    rw [if_pos (by omega)]
    refine ⟨by omega, ⟨by omega, by omega, by omega⟩, ?_⟩
    by_cases hi : ssl n i = c 64 a
    · rw [if_pos hi]
      refine ⟨by omega, by omega, ⟨by omega, by omega, by omega⟩, ?_⟩
      have mi : Mch n l (c 64 a) i := ⟨i0, i1, hi⟩
      generalize hdi : (if k < i then k - i + l else k - i) = di
      have hdr : 0 ≤ di ∧ di < l := by rw [← hdi]; split <;> omega
      have w4 : w32 (l - di) = l - di := w32i (by omega) (by omega)
      by_cases hk2 : ssl n k = c 64 b
      · rw [if_pos hk2]
        have mk : Mch n l (c 64 b) k := ⟨k0, by omega, hk2⟩
        have hnd : nd l i k = if l - di < di then l - di else di := by rw [← hdi]; unfold nd; (repeat' split) <;> omega
        have key : ∀ r2, r2 = (if di < r then di else r) → At (d + 2) mX12_near 104 [mR 18 62, mI a, mI b, mI r2, mI i, mI k, mI di] [] (G, c) (QI P) := by
          intro r2 hr2
          apply wp_X12_near_104
          simp only [q_mplaces _ _ _ _ T M, hS, hn, hl, q_seenSlot _ _ _ _ T M, M.p16, M.l64, wk, w4, hk2, ↓reduceIte]
          refine ⟨by omega, ⟨by omega, by omega, by omega⟩, ?_⟩
          have hst : ∀ r3, r3 = (if l - di < r2 then l - di else r2) → NR n l (c 64 a) (c 64 b) i (k + 1) r3 := by
            intro r3 hr3
            have e3 : r3 = if nd l i k < r then nd l i k else r := by rw [hr3, hr2, hnd]; (repeat' split) <;> omega
            constructor
            · intro x y hx hy ho
              by_cases hxy : x = i ∧ y = k
              · rw [hxy.1, hxy.2, e3]; split <;> omega
              · have := hN.1 x y hx hy (by omega)
                rw [e3]; split <;> omega
            · rw [e3]
              split
              · exact Or.inr ⟨_, _, mi, mk, rfl⟩
              · exact hN.2
          by_cases h4 : l - di < r2
          · rw [if_pos h4]
            exact ih (k + 1) _ (by omega) (by omega) (by omega) (by omega) (hst _ (by rw [if_pos h4]))
          · rw [if_neg h4]
            exact ih (k + 1) _ (by omega) (by omega) (by rw [hr2]; split <;> omega) (by rw [hr2]; split <;> omega) (hst _ (by rw [if_neg h4]))
        by_cases h3 : di < r
        · rw [if_pos h3]
          exact key _ (by rw [if_pos h3])
        · rw [if_neg h3]
          exact key _ (by rw [if_neg h3])
      · rw [if_neg hk2]
        apply wp_X12_near_104
        simp only [q_mplaces _ _ _ _ T M, hS, hn, hl, q_seenSlot _ _ _ _ T M, M.p16, M.l64, wk, hk2, ↓reduceIte]
        refine ⟨by omega, ⟨by omega, by omega, by omega⟩, ?_⟩
        refine ih (k + 1) _ (by omega) (by omega) r0 r1 ⟨fun x y hx hy ho => hN.1 x y hx hy ?_, hN.2⟩
        have : y ≠ k := fun e => hk2 (by rw [← e]; exact hy.2.2)
        omega
    · rw [if_neg hi]
      refine hk r r0 r1 ⟨fun x y hx hy ho => hN.1 x y hx hy ?_, hN.2⟩
      have : x ≠ i := fun e => hi (by rw [← e]; exact hx.2.2)
      omega
theorem l_mnear2 (M : MDs G c T) {a b S l : Int} (hS : c T 0 = S) (hn : c T 1 = n) (s0 : 2 ≤ S) (s9 : S ≤ 9) (n2 : 2 ≤ n) (n6 : n ≤ 6) (hl : 2 * S * n = l) (a0 : 0 ≤ a) (a6 : a < 6) (b0 : 0 ≤ b) (b6 : b < 6) (hP : ∀ r, NMn n l (c 64 a) (c 64 b) 9999 r → P r (G, mtr c 0)) : ∀ (j : Nat) (i r : Int), 0 ≤ i → i + j = l → 0 ≤ r → r < 10000 → NR n l (c 64 a) (c 64 b) i 0 r → At (d + 2) mX12_near 27 [mR 18 62, mI a, mI b, mI r, mI i, MU, MU] [] (G, c) (QI P) := by
  intro j
  have hpl := pl_le s0 s9 n2 n6
  rw [hl] at hpl
  induction j with
  | zero =>
    intro i r i0 hj r0 r1 hN
    apply wp_X12_near_27
    simp only [q_mplaces _ _ _ _ T M, hS, hn, hl, q_mgood]
    rw [if_neg (by omega)]
    exact hP r ⟨fun x y hx hy => hN.1 x y hx hy (Or.inl (by have := hx.2.1; omega)), hN.2⟩
  | succ j ih =>
    intro i r i0 hj r0 r1 hN
    apply wp_X12_near_27
    simp only [q_mplaces _ _ _ _ T M, hS, hn, hl]
    rw [if_pos (by omega)]
    refine l_mnear d P M hS hn s0 s9 n2 n6 hl a0 a6 b0 b6 i0 (by omega) (fun r' r0' r1' hN' => ih (i + 1) r' (by omega) (by omega) r0' r1' ⟨fun x y hx hy ho => hN'.1 x y hx hy ?_, hN'.2⟩) l.toNat 0 r (by omega) (by omega) r0 r1 hN
    have h1 := hy.2.1
    have h2 := hy.1
    omega
end
theorem k_near (d : Nat) (G : MG) (c : MC) (a b : Int) (H : IV G c) : EvI (d + 40) mX10_near [mR 16 0, mI a, mI b] (G, c) (fun r1 ν1 => EvI (d + 40) mX12_near [mR 18 62, mI a, mI b] (ν1.1, ν1.2) (fun r2 ν2 => K2 G r1 r2 ν2)) := by
  obtain ⟨hr, t, z, S, V⟩ := H
  have H0 : IV0 G c := ⟨t, z, S, V⟩
  rcases V with V | ⟨T, n, m, u, q, w, x, s, ka, ki, g, V⟩
  · have I := S.ciN V
    have e1 := V.e1; have e3 := V.e3; have e4 := V.e4; have N := V.T
    have N1 : ∀ wy, up (up c 0 6 wy) 62 0 0 62 3 = -1 := fun wy => by rw [up_nj (by decide), up_na (by decide)]; exact N
    refine ev_X10_near (d + 39) _ G c 0 a b (by decide) ?_
    simp only [z_isTube _ _ _ _ t I e1, z_isPerson _ _ _ _ t I _ e3, z_isSlot _ _ _ _ t I _ e1, z_isTurn _ _ _ _ t I _ e4, z_areTwo _ _ _ _ t I _ _ e3, z_isPlace _ _ _ _ t I _ e1, ↓reduceIte, q_refused]
    refine ev_X12_near (d + 39) _ G _ 62 a b (by decide) ⟨by decide, ?_⟩
    rintro _ rfl
    simp only [q_nisSlot _ _ _ _ (N1 _), q_nisPerson _ _ _ _ (N1 _), q_nisTurn _ _ _ _ (N1 _), q_nareTwo _ _ _ _ (N1 _), q_nisPlace _ _ _ _ (N1 _), N1, ↓reduceIte, q_mrefused, Int.reduceNeg, Int.reduceLT, Int.reduceLE, true_and]
    exact ⟨rfl, rfl, IV.q H0 (by decide) (agr_0 _)⟩
  · have I := S.ciT V
    have M := V.M; have hT := M.T; have ht := V.t
    have v1 := V.v1; have v3 := V.v3; have v4 := V.v4; have e0 := V.e0; have e1 := V.e1; have e3 := V.e3; have e4 := V.e4; have e5 := V.e5
    have b0 := M.b0; have b1 := M.b1; have b3 := M.b3; have b4 := M.b4
    rw [v1] at b1; rw [v3] at b3; rw [v4] at b4
    have hnp : 0 < n := by omega
    have hTn : ¬ T < 0 := by omega
    have M1 : ∀ wy, MDs G (up (up c 0 6 wy) 62 0 0) T := fun wy => (M.ki ki_up7).agr (agr_0 _)
    have r64 : ∀ wy, up (up c 0 6 wy) 62 0 0 64 = c 64 := fun wy => by funext j; rw [up_na (by decide), up_na (by decide)]
    have rT : ∀ wy k, up (up c 0 6 wy) 62 0 0 T k = c T k := fun wy k => by rw [up_na (by omega), up_na (by omega)]
    have rTT : ∀ wy (a : Int), 0 ≤ a → up (up c 0 6 wy) 62 0 0 (T + a) = c (T + a) := fun wy a ha => by funext j; rw [up_na (by omega), up_na (by omega)]
    have rS : ∀ wy a b, sld (up (up c 0 6 wy) 62 0 0) T a b = sld c T a b := fun wy a b => sld_eq (fun a j q => by rw [up_na (by omega), up_na (by omega)]) hT
    have hS : ∀ a b, 0 ≤ a → a < u → 0 ≤ b → b < n → sld c T a b = dg (g a) b := fun a b h1 h2 h3 h4 => by unfold sld; rw [v4, if_pos h2]; exact V.tk a b h1 h2 h3 h4
    have V1 : ∀ wy, TV G (up (up c 0 6 wy) 62 0 0) t T n m u q w x s ka ki g := fun wy => (V.kp ki_up7).kp (ki_agr (agr_0 _))
    skip
    refine ev_X10_near (d + 39) _ G c 0 a b (by decide) ?_
    simp only [q_isTube _ _ _ _ t I, q_isPerson _ _ _ _ t I, q_isSlot _ _ _ _ t I, q_isTurn _ _ _ _ t I, q_areTwo _ _ _ _ t I, q_isPlace _ _ _ _ t I, e0, e1, e3, e4, hnp, ↓reduceIte]
    by_cases h1 : (0 ≤ a ∧ a < m) ∧ (0 ≤ b ∧ b < m) ∧ a ≠ b
    · have va := V.sv a h1.1.1 h1.1.2
      have vb := V.sv b h1.2.1.1 h1.2.1.2
      have hs2 : 2 ≤ c T 0 ∧ c T 0 ≤ 9 := by omega
      have hpl := pl_le hs2.1 hs2.2 (show 2 ≤ n by omega) (show n ≤ 6 by omega)
      simp only [h1, and_self, ↓reduceIte, q_places _ _ _ _ t I, e0, e1, ne_eq, not_false_eq_true]
      refine l_cnear2 (n := n) (d + 37) _ I e0 e1 hs2.1 hs2.2 (by omega) (by omega) (by rw [va.1]; exact va.2) (by rw [vb.1]; exact vb.2) (fun r hr => ?_) (2 * c T 0).toNat 0 (2 * c T 0 * n) (by omega) (by omega) (by omega) (by omega) ⟨fun x y hx hy ho => ?_, Or.inl rfl⟩
      · refine ev_X12_near (d + 39) _ G _ 62 a b (by decide) ⟨by decide, ?_⟩
        rintro _ rfl
        simp only [q_misSlot _ _ _ _ T (M1 _), q_misPerson _ _ _ _ T (M1 _), q_misTurn _ _ _ _ T (M1 _), q_mareTwo _ _ _ _ T (M1 _), q_misPlace _ _ _ _ T (M1 _), (M1 _).p3, hTn, rT, v1, v3, v4, ↓reduceIte, Int.reduceLE, true_and, h1, and_self, ↓reduceIte, ne_eq, not_false_eq_true]
        refine l_mnear2 (n := n) (d + 38) _ (M1 _) (rT _ _) (by rw [rT]; exact v1) hs2.1 hs2.2 (by omega) (by omega) rfl (by omega) (by omega) (by omega) (by omega) (fun r' hr' => ?_) (2 * c T 0 * n).toNat 0 9999 (by omega) (by omega) (by omega) (by omega) ⟨fun x y hx hy ho => ?_, Or.inl rfl⟩
        · rw [r64] at hr'
          rw [va.1, vb.1] at hr
          have he := hr.eq hs2.1 hs2.2 (by omega) (by omega) va.2.1 va.2.2 vb.2.1 vb.2.2 hr'
          subst he
          exact ⟨rfl, rfl, IV.q H0 (by decide) (agr_0 _)⟩
        · have := hx.1; have := hy.1; omega
      · have := mch_div hs2.1 hs2.2 (by omega) (by omega) hx
        have := mch_div hs2.1 hs2.2 (by omega) (by omega) hy
        omega
    · simp only [h1, and_self, ↓reduceIte, q_refused]
      refine ev_X12_near (d + 39) _ G _ 62 a b (by decide) ⟨by decide, ?_⟩
      rintro _ rfl
      simp only [q_misSlot _ _ _ _ T (M1 _), q_misPerson _ _ _ _ T (M1 _), q_misTurn _ _ _ _ T (M1 _), q_mareTwo _ _ _ _ T (M1 _), q_misPlace _ _ _ _ T (M1 _), (M1 _).p3, hTn, rT, v1, v3, v4, ↓reduceIte, Int.reduceLE, true_and, h1, and_self, ↓reduceIte, q_mrefused]
      exact ⟨rfl, rfl, IV.q H0 (by decide) (agr_0 _)⟩
