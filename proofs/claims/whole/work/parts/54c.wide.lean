/-! the reference's shakes, of all ways -/
def rto (n : Int) (g : Int → Int) (S : MC) (i t : Int) : Int := S 5 (rnk (thr (S 1 i) (g t) n) n)
section
variable (d : Nat) (P : Int → MM → Prop) (P0 : MM → Prop) {G : MG} {c : MC} {t T n m u q w x s ka ki z : Int} {g : Int → Int}
theorem rto_all (V : TV G c t T n m u q w x s ka ki g) {i y : Int} (i0 : 0 ≤ i) (i1 : i < bfs n g u 0 0) (y0 : 0 ≤ y) (y1 : y < u) : PM (bfs n g u 1 i) n ∧ PM (thr (bfs n g u 1 i) (g y) n) n ∧ (0 ≤ rto n g (bfs n g u) i y ∧ rto n g (bfs n g u) i y < bfs n g u 0 0) ∧ bfs n g u 1 (rto n g (bfs n g u) i y) = thr (bfs n g u 1 i) (g y) n := by
  obtain ⟨B, w1, s0, Cl⟩ := tv_bfs V
  have b1 := V.M.b1; rw [V.v1] at b1
  have hp := (B.2.1 i i0 i1).1
  have ht := thr_pm (by omega) (by omega) hp (V.gp y y0 y1)
  have hin : In n (bfs n g u) (thr (bfs n g u 1 i) (g y) n) := ⟨ht, Cl i y i0 i1 y0 y1⟩
  obtain ⟨a1, a2, a3⟩ := hin.at b1.1 b1.2 B
  exact ⟨hp, ht, ⟨a1, a2⟩, a3⟩
def phi (S : MC) (k l i : Int) : Int := 8 * dg (S 1 i) k + dg (S 1 i) l
theorem wk_phi (V : TV G c t T n m u q w x s ka ki g) {k l : Int} (k0 : 0 ≤ k) (k1 : k < n) (l0 : 0 ≤ l) (l1 : l < n) (r : Int) (j : Nat) (F F' : Int → Int) (h : ∀ i, 0 ≤ i → i < bfs n g u 0 0 → F i = F' (phi (bfs n g u) k l i)) : wkF (rto n g (bfs n g u)) u r j F 0 = wkF (sto g) u r j F' (8 * k + l) := by
  obtain ⟨B, w1, s0, Cl⟩ := tv_bfs V
  have b1 := V.M.b1; rw [V.v1] at b1
  have hs := (sam_all (n := n) (by omega) b1.2).2.1
  have e : 8 * k + l = phi (bfs n g u) k l 0 := by unfold phi; rw [s0, hs k k0 k1, hs l l0 l1]
  rw [e]
  refine wk_in (f := phi (bfs n g u) k l) (N := bfs n g u 0 0) (fun i y i0 i1 y0 y1 => ?_) j F F' h 0 (by omega) (by omega)
  obtain ⟨hp, ht, hr, he⟩ := rto_all V i0 i1 y0 y1
  refine ⟨hr, ?_⟩
  have hd := (thr_all (a := bfs n g u 1 i) (b := g y) (n := n) (by omega) (by omega)).2
  have d1 := hp.rg k k0 k1
  have d2 := hp.rg l l0 l1
  unfold phi sto
  rw [he, hd k k0 k1, hd l l0 l1]
  rw [show (8 * dg (bfs n g u 1 i) k + dg (bfs n g u 1 i) l) / 8 = dg (bfs n g u 1 i) k by omega, show (8 * dg (bfs n g u 1 i) k + dg (bfs n g u 1 i) l) % 8 = dg (bfs n g u 1 i) l by omega]
theorem l_so15 (V : TV G c t T n m u q w x s ka ki g) (i y : Int) (i0 : 0 ≤ i) (i1 : i < bfs n g u 0 0) (y0 : 0 ≤ y) (y1 : y < u) (hP : ∀ c', Agr c c' → (∀ a j, a ≠ 73 → c' a j = c a j) → One c' (thr (bfs n g u 1 i) (g y) n) n → At (d + 2) mX12_spreads 15 [mR 18 62, mI i, mI y, mI n] [] (G, c') (QV P0)) : ∀ (j : Nat) (k : Int) (c0 : MC), 0 ≤ k → k + j = n → Agr c c0 → (∀ a j, a ≠ 73 → c0 a j = c a j) → (∀ p, 0 ≤ p → p < k → c0 73 p = dg (thr (bfs n g u 1 i) (g y) n) p) → At (d + 2) mX12_spreads 15 [mR 18 62, mI i, mI y, mI k] [] (G, c0) (QV P0) := by
  obtain ⟨hp, htp, hr, he⟩ := rto_all V i0 i1 y0 y1
  have b1 := V.M.b1; rw [V.v1] at b1
  have b4 := V.M.b4; rw [V.v4] at b4
  have hT := V.M.T
  have hw := (tv_bfs V).1.w
  have hd := (thr_all (a := bfs n g u 1 i) (b := g y) (n := n) (by omega) (by omega)).2
  intro j
  induction j with
  | zero =>
    intro k c0 k0 hk A hf h73
    rw [show k = n by omega]
    exact hP c0 A hf (fun p a b => h73 p a (by omega))
  | succ j ih =>
    intro k c0 k0 hk A hf h73
    have wk : w32 (k + 1) = k + 1 := w32i (by omega) (by omega)
    have V0 := V.kp (ki_agr A)
    have M0 := V0.M
    have dk := hp.rg k k0 (by omega)
    apply wp_X12_spreads_15
    simp only [M0.p3, V0.v1]
    rw [if_pos (by omega), q_comes _ _ _ _ T M0 i k i0 (by omega) k0 (by omega), V0.B.e i k i0 i1 k0 (by omega)]
    dsimp only
    rw [q_slid _ _ _ _ T M0 y _ y0 (by omega) dk.1 (by omega)]
    have es : sld c0 T y (dg (bfs n g u 1 i) k) = dg (thr (bfs n g u 1 i) (g y) n) k := by
      unfold sld
      rw [V0.v4, if_pos y1, V0.tk y _ y0 y1 dk.1 dk.2, hd k k0 (by omega)]
    simp only [M0.p27, V.M.l73, es, wk]
    refine ⟨by decide, by omega, by decide, ⟨by decide, k0, by omega⟩, ?_⟩
    rintro _ rfl
    refine ih _ _ (by omega) (by omega) (A.u (by unfold scr; omega)) (fun a j h => by rw [up_na h]; exact hf a j h) (fun p a b => ?_)
    by_cases e : p = k
    · rw [e, up_eq]
    · rw [up_nj e]; exact h73 p a (by omega)
theorem l_so2 (V : TV G c t T n m u q w x s ka ki g) (wt : Int → Int) (w0 : ∀ k, 0 ≤ k → k < bfs n g u 0 0 → 0 ≤ wt k) (tot : Int) (wT : sm wt (bfs n g u 0 0) = tot) (T1 : tot ≤ 8100000000) (i : Int) (i0 : 0 ≤ i) (i1 : i < bfs n g u 0 0) (hP : ∀ c', Agr c c' → (∀ k, 0 ≤ k → k < bfs n g u 0 0 → c' 77 k = wt k) → Sct (bfs n g u 0 0) u (c T 2) (rto n g (bfs n g u)) wt (c' 78) i u → c' 62 38 = c 62 38 → P0 (G, c')) : ∀ (j : Nat) (y : Int) (c0 : MC), 0 ≤ y → y + j = u → Agr c c0 → (∀ k, 0 ≤ k → k < bfs n g u 0 0 → c0 77 k = wt k) → Sct (bfs n g u 0 0) u (c T 2) (rto n g (bfs n g u)) wt (c0 78) i y → c0 62 38 = c 62 38 → At (d + 2) mX12_spreads 2 [mR 18 62, mI i, mI y, MU] [] (G, c0) (QV P0) := by
  have b1 := V.M.b1; rw [V.v1] at b1
  have b4 := V.M.b4; rw [V.v4] at b4
  have b2 := V.M.b2
  have hT := V.M.T
  have hw := (tv_bfs V).1.w
  intro j
  induction j with
  | zero =>
    intro y c0 y0 hy A h77 h78 h38
    have V0 := V.kp (ki_agr A)
    apply wp_X12_spreads_2
    simp only [V0.M.p3, V0.v4]
    rw [if_neg (by omega)]
    rw [show y = u by omega] at h78
    exact ⟨by decide, by omega, hP c0 A h77 h78 h38⟩
  | succ j ih =>
    intro y c0 y0 hy A h77 h78 h38
    have wy : w32 (y + 1) = y + 1 := w32i (by omega) (by omega)
    have V0 := V.kp (ki_agr A)
    obtain ⟨hp, htp, hr, he⟩ := rto_all V i0 i1 y0 (by omega)
    obtain ⟨hb, hb2⟩ := h78.bd (by omega) (by omega) b2.1 b2.2 w0 wT T1 i0 i1 y0 (by omega)
    have hb1 := hb _ hr.1 hr.2
    obtain ⟨k0, k1⟩ := rnk_rg b1.1 b1.2 htp
    apply wp_X12_spreads_2
    simp only [V0.M.p3, V0.v4]
    rw [if_pos (by omega)]
    refine ⟨by decide, by omega, ?_⟩
    refine l_so15 d P0 V0 i y i0 i1 y0 (by omega) (fun c' A' hf ho => ?_) n.toNat 0 c0 (by decide) (by omega) Agr.rf (fun _ _ _ => rfl) (fun p a b => by omega)
    have V' := V0.kp (ki_agr A')
    have M' := V'.M
    have e2 : c' T 2 = c T 2 := by rw [hf T 2 (by omega), A T 2 (by unfold scr; omega)]
    apply wp_X12_spreads_15
    simp only [M'.p3, V'.v1]
    rw [if_neg (by omega), q_ranked _ _ _ _ T M' (thr (bfs n g u 1 i) (g y) n) (by rw [V'.v1]; exact ho) (by rw [V'.v1]; exact htp), V'.v1]
    simp only [M'.p23, M'.p36, M'.p37, M'.p3, V.M.l69, V.M.l77, V.M.l78, V'.B.x _ k0 k1, hf 77 _ (by decide), hf 78 _ (by decide), h77 i i0 i1, e2, wy]
    simp only [← show rto n g (bfs n g u) i y = bfs n g u 5 (rnk (thr (bfs n g u 1 i) (g y) n) n) from rfl, w64i (show -9223372036854775808 ≤ wt i * c T 2 by omega) (show wt i * c T 2 < 9223372036854775808 by omega), w64i (show -9223372036854775808 ≤ c0 78 (rto n g (bfs n g u) i y) + wt i * c T 2 by omega) (show c0 78 (rto n g (bfs n g u) i y) + wt i * c T 2 < 9223372036854775808 by omega)]
    refine ⟨by decide, by omega, by decide, by decide, ⟨by decide, k0, k1⟩, ⟨by decide, by omega, by omega⟩, by decide, ⟨by decide, by omega, by omega⟩, by decide, by omega, ⟨by decide, by omega, by omega⟩, ?_⟩
    rintro _ rfl
    refine ih _ _ (by omega) (by omega) ((A.tr A').u (by unfold scr; omega)) (fun k a b => ?_) (h78.step y0 b2.1 (w0 i i0 i1) hr.1 hr.2 up_eq (fun k hk => ?_)) ?_
    · rw [up_na (by decide), hf 77 _ (by decide)]; exact h77 k a b
    · rw [up_nj hk, hf 78 _ (by decide)]
    · rw [up_na (by decide), hf 62 _ (by decide)]; exact h38
theorem l_so115 (V : TV G c t T n m u q w x s ka ki g) (nn sp : Int) (wt : Int → Int) (w0 : ∀ k, 0 ≤ k → k < bfs n g u 0 0 → 0 ≤ wt k) (tot : Int) (wT : sm wt (bfs n g u 0 0) = tot) (T1 : tot ≤ 8100000000) (hP : ∀ c', Agr c c' → Sct (bfs n g u 0 0) u (c T 2) (rto n g (bfs n g u)) wt (c' 78) (bfs n g u 0 0) 0 → c' 62 38 = c 62 38 → At (d + 3) mX12_spreadsOut 147 [mR 18 62, mI nn, mI sp, mI 0] [] (G, c') (QV P0)) : ∀ (j : Nat) (i : Int) (c0 : MC), 0 ≤ i → i + j = bfs n g u 0 0 → Agr c c0 → (∀ k, 0 ≤ k → k < bfs n g u 0 0 → c0 77 k = wt k) → Sct (bfs n g u 0 0) u (c T 2) (rto n g (bfs n g u)) wt (c0 78) i 0 → c0 62 38 = c 62 38 → At (d + 3) mX12_spreadsOut 115 [mR 18 62, mI nn, mI sp, mI i] [] (G, c0) (QV P0) := by
  have b4 := V.M.b4; rw [V.v4] at b4
  have hT := V.M.T
  have hw := (tv_bfs V).1.w
  intro j
  induction j with
  | zero =>
    intro i c0 i0 hi A h77 h78 h38
    have V0 := V.kp (ki_agr A)
    apply wp_X12_spreadsOut_115
    simp only [V0.B.w]
    rw [if_neg (by omega)]
    rw [show i = bfs n g u 0 0 by omega] at h78
    exact ⟨by decide, hP c0 A h78 h38⟩
  | succ j ih =>
    intro i c0 i0 hi A h77 h78 h38
    have V0 := V.kp (ki_agr A)
    have wi : w32 (i + 1) = i + 1 := w32i (by omega) (by omega)
    have hwi := w0 i i0 (by omega)
    have hlc : (0 : Int) < o_lcmp (wt i) 0 ↔ wt i ≠ 0 := by
      unfold o_lcmp
      rw [if_neg (by omega)]
      split
      · simp_all
      · constructor
        · intro _; assumption
        · intro _; decide
    apply wp_X12_spreadsOut_115
    simp only [V0.B.w, V0.M.p36, V.M.l77, h77 i i0 (by omega), wi, hlc]
    rw [if_pos (by omega)]
    refine ⟨by decide, by decide, ⟨by decide, i0, by omega⟩, ?_⟩
    by_cases e : wt i = 0
    · rw [if_neg (by simp [e])]
      exact ih _ _ (by omega) (by omega) A h77 (h78.skip i0 e) h38
    · rw [if_pos e]
      refine ev_X12_spreads (d + 1) _ G c0 62 i (by decide) ?_
      refine l_so2 d _ V wt w0 tot wT T1 i i0 (by omega) (fun c' A' h77' h78' h38' => ?_) u.toNat 0 c0 (by decide) (by omega) A h77 h78 h38
      exact ih _ _ (by omega) (by omega) A' h77' (h78'.next i0) h38'
theorem l_so66 (V : TV G c t T n m u q w x s ka ki g) (nn sp : Int) (wt : Int → Int) (w0 : ∀ k, 0 ≤ k → k < bfs n g u 0 0 → 0 ≤ wt k ∧ wt k ≤ 8100000000) (hP : ∀ c', Agr c c' → (∀ k, 0 ≤ k → k < bfs n g u 0 0 → c' 77 k = wt k) → (∀ k, 0 ≤ k → k < bfs n g u 0 0 → c' 78 k = wt k * ((100 - c T 2) * u)) → c' 62 38 = c 62 38 → At (d + 3) mX12_spreadsOut 115 [mR 18 62, mI nn, mI sp, mI 0] [] (G, c') (QV P0)) : ∀ (j : Nat) (i : Int) (c0 : MC), 0 ≤ i → i + j = bfs n g u 0 0 → Agr c c0 → (∀ k, 0 ≤ k → k < bfs n g u 0 0 → c0 77 k = wt k) → (∀ k, 0 ≤ k → k < i → c0 78 k = wt k * ((100 - c T 2) * u)) → c0 62 38 = c 62 38 → At (d + 3) mX12_spreadsOut 66 [mR 18 62, mI nn, mI sp, mI i] [] (G, c0) (QV P0) := by
  have b4 := V.M.b4; rw [V.v4] at b4
  have b2 := V.M.b2
  have hT := V.M.T
  have hw := (tv_bfs V).1.w
  intro j
  induction j with
  | zero =>
    intro i c0 i0 hi A h77 h78 h38
    have V0 := V.kp (ki_agr A)
    apply wp_X12_spreadsOut_66
    simp only [V0.B.w]
    rw [if_neg (by omega)]
    exact ⟨by decide, hP c0 A h77 (fun k a b => h78 k a (by omega)) h38⟩
  | succ j ih =>
    intro i c0 i0 hi A h77 h78 h38
    have V0 := V.kp (ki_agr A)
    have wi : w32 (i + 1) = i + 1 := w32i (by omega) (by omega)
    have hwi := w0 i i0 (by omega)
    have e2 : c0 T 2 = c T 2 := A T 2 (by unfold scr; omega)
    have hb := ml2 (a := wt i) (b := 100 - c T 2) (A := 8100000000) (B := 100) hwi.1 hwi.2 (by omega) (by omega)
    have hb' := ml2 (a := wt i * (100 - c T 2)) (b := u) (A := 8100000000 * 100) (B := 3) hb.1 hb.2 (by omega) (by omega)
    apply wp_X12_spreadsOut_66
    simp only [V0.B.w, V0.M.p36, V0.M.p37, V0.M.p3, V0.v4, V.M.l77, V.M.l78, h77 i i0 (by omega), wi, e2, w32i (show -2147483648 ≤ 100 - c T 2 by omega) (show 100 - c T 2 < 2147483648 by omega), w64i (show -9223372036854775808 ≤ wt i * (100 - c T 2) by omega) (show wt i * (100 - c T 2) < 9223372036854775808 by omega), w64i (show -9223372036854775808 ≤ wt i * (100 - c T 2) * u by omega) (show wt i * (100 - c T 2) * u < 9223372036854775808 by omega)]
    rw [if_pos (by omega)]
    refine ⟨by decide, by decide, by decide, ⟨by decide, i0, by omega⟩, by decide, by omega, by decide, by omega, ⟨by decide, i0, by omega⟩, ?_⟩
    rintro _ rfl
    refine ih _ _ (by omega) (by omega) (A.u (by unfold scr; omega)) (fun k a b => ?_) (fun k a b => ?_) ?_
    · rw [up_na (by decide)]; exact h77 k a b
    · by_cases e : k = i
      · rw [e, up_eq, Int.mul_assoc]
      · rw [up_nj e]; exact h78 k a (by omega)
    · rw [up_na (by decide)]; exact h38
theorem l_so147 (V : TV G c t T n m u q w x s ka ki g) (nn sp : Int) (wt : Int → Int) (sp0 : 0 ≤ sp) (sp5 : sp ≤ 5) (hP : ∀ c', Agr c c' → (∀ k, 0 ≤ k → k < bfs n g u 0 0 → c' 77 k = wt k) → c' 62 38 = c 62 38 → At (d + 3) mX12_spreadsOut 38 [mR 18 62, mI nn, mI (sp + 1), MU] [] (G, c') (QV P0)) : ∀ (j : Nat) (i : Int) (c0 : MC), 0 ≤ i → i + j = bfs n g u 0 0 → Agr c c0 → (∀ k, 0 ≤ k → k < bfs n g u 0 0 → c0 78 k = wt k) → (∀ k, 0 ≤ k → k < i → c0 77 k = wt k) → c0 62 38 = c 62 38 → At (d + 3) mX12_spreadsOut 147 [mR 18 62, mI nn, mI sp, mI i] [] (G, c0) (QV P0) := by
  have hw := (tv_bfs V).1.w
  have wsp : w32 (sp + 1) = sp + 1 := w32i (by omega) (by omega)
  intro j
  induction j with
  | zero =>
    intro i c0 i0 hi A h78 h77 h38
    have V0 := V.kp (ki_agr A)
    apply wp_X12_spreadsOut_147
    simp only [V0.B.w, wsp]
    rw [if_neg (by omega)]
    exact ⟨by decide, hP c0 A (fun k a b => h77 k a (by omega)) h38⟩
  | succ j ih =>
    intro i c0 i0 hi A h78 h77 h38
    have V0 := V.kp (ki_agr A)
    have wi : w32 (i + 1) = i + 1 := w32i (by omega) (by omega)
    apply wp_X12_spreadsOut_147
    simp only [V0.B.w, V0.M.p36, V0.M.p37, V.M.l77, V.M.l78, h78 i i0 (by omega), wi]
    rw [if_pos (by omega)]
    refine ⟨by decide, by decide, by decide, ⟨by decide, i0, by omega⟩, ⟨by decide, i0, by omega⟩, ?_⟩
    rintro _ rfl
    refine ih _ _ (by omega) (by omega) (A.u (by unfold scr; omega)) (fun k a b => ?_) (fun k a b => ?_) ?_
    · rw [up_na (by decide)]; exact h78 k a b
    · by_cases e : k = i
      · rw [e, up_eq]
      · rw [up_nj e]; exact h77 k a (by omega)
    · rw [up_na (by decide)]; exact h38
theorem l_so38 (V : TV G c t T n m u q w x s ka ki g) (nn : Int) (nn5 : nn ≤ 5) (hP : ∀ c', Agr c c' → Wgh (bfs n g u 0 0) u (c T 2) (rto n g (bfs n g u)) (c' 77) nn.toNat 0 → c' 62 38 = tw u nn.toNat → P0 (G, c')) : ∀ (j : Nat) (i : Int) (c0 : MC), 0 ≤ i → i + j = nn → Agr c c0 → Wgh (bfs n g u 0 0) u (c T 2) (rto n g (bfs n g u)) (c0 77) i.toNat 0 → c0 62 38 = tw u i.toNat → At (d + 3) mX12_spreadsOut 38 [mR 18 62, mI nn, mI i, MU] [] (G, c0) (QV P0) := by
  have b4 := V.M.b4; rw [V.v4] at b4
  have b2 := V.M.b2
  have hT := V.M.T
  have hw := (tv_bfs V).1.w
  intro j
  induction j with
  | zero =>
    intro i c0 i0 hi A W h38
    apply wp_X12_spreadsOut_38
    rw [if_neg (by omega)]
    rw [show i = nn by omega] at W h38
    exact hP c0 A W h38
  | succ j ih =>
    intro i c0 i0 hi A W h38
    have V0 := V.kp (ki_agr A)
    have htw := tw_b4 b4.1 b4.2 (show i.toNat ≤ 4 by omega)
    have htw5 := tw_b b4.1 b4.2 (show i.toNat + 1 ≤ 5 by omega)
    have hW := W.t (by omega)
    have e2 : c0 T 2 = c T 2 := A T 2 (by unfold scr; omega)
    apply wp_X12_spreadsOut_38
    simp only [V0.M.p3, V0.v4, h38, w64i (show -9223372036854775808 ≤ 100 * u by omega) (show 100 * u < 9223372036854775808 by omega), ← tw_s, w64i (show -9223372036854775808 ≤ tw u (i.toNat + 1) by omega) (show tw u (i.toNat + 1) < 9223372036854775808 by omega)]
    rw [if_pos (by omega)]
    refine ⟨by decide, by decide, by omega, by decide, ?_⟩
    rintro _ rfl
    have A1 : Agr c (up c0 62 38 (tw u (i.toNat + 1))) := A.u (by unfold scr; omega)
    have V1 := V.kp (ki_agr A1)
    have e21 : up c0 62 38 (tw u (i.toNat + 1)) T 2 = c T 2 := A1 T 2 (by unfold scr; omega)
    have e77 : up c0 62 38 (tw u (i.toNat + 1)) 77 = c0 77 := by funext k; rw [up_na (by decide)]
    refine l_so66 d P0 V1 nn i (c0 77) (fun k a b => ⟨W.1 k a b, ?_⟩) (fun c2 A2 h77 h78 h38' => ?_) (bfs n g u 0 0).toNat 0 _ (by decide) (by omega) Agr.rf (fun k a b => by rw [e77]) (fun k a b => by omega) rfl
    · have := sm_one a b W.1
      omega
    · rw [e21] at h78
      refine l_so115 d P0 V1 nn i (c0 77) W.1 _ hW htw.2 (fun c3 A3 h78' h38'' => ?_) (bfs n g u 0 0).toNat 0 c2 (by decide) (by omega) A2 h77 (by rw [e21]; exact Sct.z (by omega) b2.2 W.1 h78) h38'
      rw [e21] at h78'
      refine l_so147 d P0 V1 nn i (c3 78) i0 (by omega) (fun c4 A4 h77' h38''' => ?_) (bfs n g u 0 0).toNat 0 c3 (by decide) (by omega) A3 (fun _ _ _ => rfl) (fun k a b => by omega) h38''
      refine ih _ _ (by omega) (by omega) (A1.tr A4) ?_ ?_
      · rw [show (i + 1).toNat = i.toNat + 1 by omega]
        exact (W.s h78').c h77'
      · rw [h38''', up_eq, show (i + 1).toNat = i.toNat + 1 by omega]
theorem l_so7 (V : TV G c t T n m u q w x s ka ki g) (nn : Int) (nn0 : 0 ≤ nn) (nn5 : nn ≤ 5) (hP : ∀ c', Agr c c' → Wgh (bfs n g u 0 0) u (c T 2) (rto n g (bfs n g u)) (c' 77) nn.toNat 0 → c' 62 38 = tw u nn.toNat → P0 (G, c')) : ∀ (j : Nat) (i : Int) (c0 : MC), 0 ≤ i → i + j = bfs n g u 0 0 → Agr c c0 → (∀ k, 0 ≤ k → k < i → c0 77 k = if k = 0 then 1 else 0) → c0 62 38 = 1 → At (d + 3) mX12_spreadsOut 7 [mR 18 62, mI nn, mI i, MU] [] (G, c0) (QV P0) := by
  have hw := (tv_bfs V).1.w
  have w1 := (tv_bfs V).2.1
  intro j
  induction j with
  | zero =>
    intro i c0 i0 hi A h77 h38
    have V0 := V.kp (ki_agr A)
    apply wp_X12_spreadsOut_7
    simp only [V0.B.w]
    rw [if_neg (by omega)]
    exact ⟨by decide, l_so38 d P0 V nn nn5 hP nn.toNat 0 c0 (by decide) (by omega) A (Wgh.z (by decide) (by omega) (fun k a b => h77 k a (by omega))) (by rw [h38]; unfold tw; rw [show Int.toNat 0 = 0 from rfl, Int.pow_zero])⟩
  | succ j ih =>
    intro i c0 i0 hi A h77 h38
    have V0 := V.kp (ki_agr A)
    have wi : w32 (i + 1) = i + 1 := w32i (by omega) (by omega)
    have key : ∀ v, v = (if i = 0 then (1 : Int) else 0) → At (d + 3) mX12_spreadsOut 7 [mR 18 62, mI nn, mI (i + 1), MU] [] (G, up c0 77 i v) (QV P0) := fun v hv => by
      refine ih _ _ (by omega) (by omega) (A.u (by unfold scr; omega)) (fun k a b => ?_) ?_
      · by_cases e : k = i
        · rw [e, up_eq, hv]
        · rw [up_nj e]; exact h77 k a (by omega)
      · rw [up_na (by decide)]; exact h38
    apply wp_X12_spreadsOut_7
    simp only [V0.B.w, V0.M.p36, V.M.l77, wi]
    rw [if_pos (by omega)]
    refine ⟨by decide, by decide, ?_⟩
    by_cases e : i = 0
    · rw [if_pos e]
      refine ⟨⟨by decide, i0, by omega⟩, ?_⟩
      rintro _ rfl
      exact key 1 (by rw [if_pos e])
    · rw [if_neg e]
      refine ⟨⟨by decide, i0, by omega⟩, ?_⟩
      rintro _ rfl
      exact key 0 (by rw [if_neg e])
theorem f_spreadsOut (V : TV G c t T n m u q w x s ka ki g) (nn : Int) (nn0 : 0 ≤ nn) (nn5 : nn ≤ 5) (hP : ∀ c', Agr c c' → Wgh (bfs n g u 0 0) u (c T 2) (rto n g (bfs n g u)) (c' 77) nn.toNat 0 → c' 62 38 = tw u nn.toNat → P0 (G, c')) : EvV (d + 3) mX12_spreadsOut [mR 18 62, mI nn] (G, c) P0 := by
  have hw := (tv_bfs V).1.w
  refine ev_X12_spreadsOut (d + 2) _ G c 62 nn (by decide) ⟨by decide, ?_⟩
  rintro _ rfl
  exact l_so7 d P0 V nn nn0 nn5 hP (bfs n g u 0 0).toNat 0 _ (by decide) (by omega) (Agr.rf.u (by unfold scr; omega)) (fun k a b => by omega) up_eq
end
