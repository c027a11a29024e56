/-! the two ways of holding quarrels, wishes, what was seen -/
theorem sm_w32 {f : Int → Int} : ∀ (j : Nat) (i s : Int), 0 ≤ s → s + 100 * j < 1000000 → (∀ k, i ≤ k → k < i + j → 0 ≤ f k ∧ f k ≤ 100) → fo (fun p s => w32 (s + f p)) j i s = fo (fun p (s : Int) => s + f p) j i s := by
  intro j
  induction j with
  | zero => intro i s _ _ _; rfl
  | succ j ih =>
    intro i s h0 h1 h2
    have := h2 i (by omega) (by omega)
    simp only [fo]
    rw [w32i (by omega) (by omega)]
    exact ih _ _ (by omega) (by omega) (fun k a b => h2 k (by omega) (by omega))
theorem hld_bs (c : MC) (a st : Int) : hld c a st = bs (fun i => decide (bes (dg st (c (a + 1) i)) (dg st (c (a + 2) i)) = c (a + 3) i)) (c a 3) := by
  unfold hld bs bsA
  apply fo_congr
  intro k s _ _
  by_cases e : bes (dg st (c (a + 1) k)) (dg st (c (a + 2) k)) = c (a + 3) k <;> simp [e]
theorem mtn_bs (c : MC) (T : Int) (x : Int → Int) (h0 : 0 ≤ c T 6) (h : c T 6 ≤ 8) : mtn c T x = bs (fun k => decide (bes (x (c (T + 5) k)) (x (c (T + 6) k)) ≠ mbt (c T 16) k)) (c T 6) := by
  rw [show bs (fun k => decide (bes (x (c (T + 5) k)) (x (c (T + 6) k)) ≠ mbt (c T 16) k)) (c T 6) = bsA (fun k => decide (bes (x (c (T + 5) k)) (x (c (T + 6) k)) ≠ mbt (c T 16) k)) (c T 6).toNat 0 0 from rfl, ← bsB_eq _ (c T 6).toNat 0 0 (by omega) (by omega) (by omega) (by simp)]
  unfold mtn
  apply fo_congr
  intro k s _ _
  by_cases e : bes (x (c (T + 5) k)) (x (c (T + 6) k)) = mbt (c T 16) k <;> simp [e]
section
variable {G : MG} {c : MC} {t T n m u q w x s ka ki : Int} {g : Int → Int}
theorem TV.wish (V : TV G c t T n m u q w x s ka ki g) {st : Int} {xf : Int → Int} (hx : ∀ p, 0 ≤ p → p < m → dg st p = xf p) : hld c (t + 10) st = bs (fun k => decide (bes (xf (c (T + 5) k)) (xf (c (T + 6) k)) ≠ mbt (c T 16) k)) w := by
  rw [hld_bs, V.ew]
  apply bs_congr
  intro k k0 k1
  obtain ⟨a1, a2, a3, a4, a5⟩ := V.wi k k0 k1
  rw [a1, a2, a5, hx _ a3.1 a3.2, hx _ a4.1 a4.2]
  congr 1
  apply propext
  have h1 := bes01 (xf (c (T + 5) k)) (xf (c (T + 6) k))
  have h2 := mbt01 (c T 16) k
  omega
theorem TV.seen (V : TV G c t T n m u q w x s ka ki g) {st : Int} {xf : Int → Int} (hx : ∀ p, 0 ≤ p → p < m → dg st p = xf p) : hld c (t + 14) st = bs (fun k => decide (bes (xf (c (T + 9) k)) (xf (c (T + 10) k)) = mbt (c T 17) k)) s := by
  rw [hld_bs, V.es]
  apply bs_congr
  intro k k0 k1
  obtain ⟨a1, a2, a3, a4, a5⟩ := V.se k k0 k1
  rw [a1, a2, a5, hx _ a3.1 a3.2, hx _ a4.1 a4.2]
theorem TV.quar (V : TV G c t T n m u q w x s ka ki g) {st : Int} {xf : Int → Int} (hx : ∀ p, 0 ≤ p → p < m → dg st p = xf p) : hld c (t + 6) st = bs (fun i => decide (bes (xf (c (t + 6 + 1) i)) (xf (c (t + 6 + 2) i)) ≠ 0)) q := by
  rw [hld_bs, V.eq]
  apply bs_congr
  intro k k0 k1
  obtain ⟨a1, a2, a3, a4⟩ := V.qu k k0 k1
  rw [a4, hx _ a1.1 a1.2, hx _ a2.1 a2.2]
  congr 1
  apply propext
  have h1 := bes01 (xf (c (t + 6 + 1) k)) (xf (c (t + 6 + 2) k))
  omega
theorem TV.foe (V : TV G c t T n m u q w x s ka ki g) : ∀ p, 0 ≤ p → p < m → c (T + 3) p = ptF (c (t + 6 + 1)) (c (t + 6 + 2)) p q.toNat := fun p a b => by
  rw [V.fo p a b]
  unfold ptn ptF
  rw [V.eq]
theorem TV.foeb (V : TV G c t T n m u q w x s ka ki g) (xf : Int → Int) : ∀ p, 0 ≤ p → p < m → pop (o_and (bsd xf m p) (c (T + 3) p)) = cnt (fun k => (decide (k < m) && decide (bes (xf p) (xf k) ≠ 0)) && decide (bt (ptF (c (t + 6 + 1)) (c (t + 6 + 2)) p q.toNat) k = 1)) 6 ∧ 0 ≤ o_and (bsd xf m p) (c (T + 3) p) ∧ o_and (bsd xf m p) (c (T + 3) p) < 64 := fun p a b => by
  have b3 := V.M.b3; have b5 := V.M.b5
  rw [V.v3] at b3; rw [V.v5] at b5
  have P := ptF_all (one := c (t + 6 + 1)) (other := c (t + 6 + 2)) (m := m) (by omega) q.toNat (fun i h1 h2 => ⟨(V.qu i h1 (by omega)).1, (V.qu i h1 (by omega)).2.1⟩) p
  obtain ⟨A1, A2, A3⟩ := bs_all (fun k => decide (bes (xf p) (xf k) ≠ 0)) (n := m) (by omega) (by omega)
  have h64 : (2 : Int) ^ m.toNat ≤ 64 := by
    have : m = 1 ∨ m = 2 ∨ m = 3 ∨ m = 4 ∨ m = 5 ∨ m = 6 := by omega
    rcases this with rfl | rfl | rfl | rfl | rfl | rfl <;> decide
  rw [V.foe p a b, bsd_bs xf p (by omega)]
  obtain ⟨B1, B2, B3⟩ := pand_of (x := bs (fun k => decide (bes (xf p) (xf k) ≠ 0)) m) A1.1 (by omega) P.1.1 P.1.2
  refine ⟨?_, B2, B3⟩
  rw [B1]
  apply cnt_congr
  intro k k0 k6
  rw [A3 k k0 (by omega)]
  congr 1
  by_cases e1 : k < m <;> by_cases e2 : bes (xf p) (xf k) = 0 <;> simp [e1, e2]
theorem tv_qrl (V : TV G c t T n m u q w x s ka ki g) (xf : Int → Int) : qrl xf (c (T + 3)) m = cnt (fun i => decide (bes (xf (c (t + 6 + 1) i)) (xf (c (t + 6 + 2) i)) ≠ 0)) q := by
  have b3 := V.M.b3; have b5 := V.M.b5
  rw [V.v3] at b3; rw [V.v5] at b5
  have key := quar_sum (one := c (t + 6 + 1)) (other := c (t + 6 + 2)) (B := fun a b => decide (bes (xf a) (xf b) ≠ 0)) (m := m) (by omega) (by omega) (fun a b => by rw [bes_sym]) q.toNat (fun i h1 h2 => ⟨⟨(V.qu i h1 (by omega)).1, (V.qu i h1 (by omega)).2.1⟩, (V.qu i h1 (by omega)).2.2.1⟩) (fun i k h1 h2 h3 => V.qd i k h1 h2 (by omega))
  rw [show ((q.toNat : Nat) : Int) = q by omega] at key
  have hc := cnt_b (fun i => decide (bes (xf (c (t + 6 + 1) i)) (xf (c (t + 6 + 2) i)) ≠ 0)) (n := q) (by omega)
  unfold qrl
  rw [sm_w32 m.toNat 0 0 (by omega) (by omega) (fun k a b => by
    rw [(V.foeb xf k a (by omega)).1]
    have := cnt_b (fun k_1 => (decide (k_1 < m) && decide (bes (xf k) (xf k_1) ≠ 0)) && decide (bt (ptF (c (t + 6 + 1)) (c (t + 6 + 2)) k q.toNat) k_1 = 1)) (n := 6) (by omega)
    omega)]
  have e : fo (fun p (s : Int) => s + pop (o_and (bsd xf m p) (c (T + 3) p))) m.toNat 0 0 = 2 * cnt (fun i => decide (bes (xf (c (t + 6 + 1) i)) (xf (c (t + 6 + 2) i)) ≠ 0)) q := by
    rw [← key]
    unfold sm
    apply fo_congr
    intro p s h1 h2
    rw [(V.foeb xf p h1 (by omega)).1]
  rw [e, o_div_of (by omega) (by omega) (by omega) (by omega)]
  omega
theorem tv_qall (V : TV G c t T n m u q w x s ka ki g) {st : Int} {xf : Int → Int} (hx : ∀ p, 0 ≤ p → p < m → dg st p = xf p) : pop (hld c (t + 6) st) = qrl xf (c (T + 3)) m := by
  have b5 := V.M.b5
  rw [V.v5] at b5
  rw [V.quar hx, tv_qrl V xf, (bs_all _ (by omega) (by omega)).2.1]
end
