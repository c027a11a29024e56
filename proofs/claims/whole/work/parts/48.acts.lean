/-! acts -/
theorem TPs.ka {G : MG} {c : MC} {t : Int} {c' : MC} (h : TPs G c t) (e : ∀ a j, KI a j → ¬ (a = 42 ∧ (j = 0 ∨ j = 2 ∨ j = 4)) → ¬ (43 ≤ a ∧ a ≤ 44) → a ≠ 64 → ¬ (66 ≤ a ∧ a ≤ 67) → ¬ (a = 62 ∧ (j = 20 ∨ j = 21)) → c' a j = c a j) : TPs G c' t := by
  have ht := h.t
  exact ⟨h.t, (by rw [e t 6 (by unfold KI scr; omega) (by omega) (by omega) (by omega) (by omega) (by omega)]; exact h.p6), (by rw [e t 7 (by unfold KI scr; omega) (by omega) (by omega) (by omega) (by omega) (by omega)]; exact h.p7), (by rw [e t 8 (by unfold KI scr; omega) (by omega) (by omega) (by omega) (by omega) (by omega)]; exact h.p8), (by rw [e t 9 (by unfold KI scr; omega) (by omega) (by omega) (by omega) (by omega) (by omega)]; exact h.p9), (by rw [e t 10 (by unfold KI scr; omega) (by omega) (by omega) (by omega) (by omega) (by omega)]; exact h.p10), (by rw [e t 11 (by unfold KI scr; omega) (by omega) (by omega) (by omega) (by omega) (by omega)]; exact h.p11), (by rw [e t 12 (by unfold KI scr; omega) (by omega) (by omega) (by omega) (by omega) (by omega)]; exact h.p12), (by rw [e t 13 (by unfold KI scr; omega) (by omega) (by omega) (by omega) (by omega) (by omega)]; exact h.p13), h.g1, h.g2, h.g3, h.g4, h.g5, (by rw [e (t + 6) 0 (by unfold KI scr; omega) (by omega) (by omega) (by omega) (by omega) (by omega)]; exact h.q0), (by rw [e (t + 6) 1 (by unfold KI scr; omega) (by omega) (by omega) (by omega) (by omega) (by omega)]; exact h.q1), (by rw [e (t + 6) 2 (by unfold KI scr; omega) (by omega) (by omega) (by omega) (by omega) (by omega)]; exact h.q2), h.ql1, h.ql2, h.ql3, (by rw [e (t + 10) 0 (by unfold KI scr; omega) (by omega) (by omega) (by omega) (by omega) (by omega)]; exact h.w0), (by rw [e (t + 10) 1 (by unfold KI scr; omega) (by omega) (by omega) (by omega) (by omega) (by omega)]; exact h.w1), (by rw [e (t + 10) 2 (by unfold KI scr; omega) (by omega) (by omega) (by omega) (by omega) (by omega)]; exact h.w2), h.wl1, h.wl2, h.wl3, (by rw [e (t + 14) 0 (by unfold KI scr; omega) (by omega) (by omega) (by omega) (by omega) (by omega)]; exact h.s0), (by rw [e (t + 14) 1 (by unfold KI scr; omega) (by omega) (by omega) (by omega) (by omega) (by omega)]; exact h.s1), (by rw [e (t + 14) 2 (by unfold KI scr; omega) (by omega) (by omega) (by omega) (by omega) (by omega)]; exact h.s2), h.sl1, h.sl2, h.sl3⟩
theorem SH.ka {G : MG} {c : MC} {t z : Int} {c' : MC} (h : SH G c t z) (e : ∀ a j, KI a j → ¬ (a = 42 ∧ (j = 0 ∨ j = 2 ∨ j = 4)) → ¬ (43 ≤ a ∧ a ≤ 44) → a ≠ 64 → ¬ (66 ≤ a ∧ a ≤ 67) → ¬ (a = 62 ∧ (j = 20 ∨ j = 21)) → c' a j = c a j) : SH G c' t z := by
  have ht := h.t
  exact ⟨h.t, (by rw [e 0 0 (by unfold KI scr; omega) (by omega) (by omega) (by omega) (by omega) (by omega)]; exact h.p0), (by rw [e 19 11 (by unfold KI scr; omega) (by omega) (by omega) (by omega) (by omega) (by omega)]; exact h.p1), (by rw [e 0 1 (by unfold KI scr; omega) (by omega) (by omega) (by omega) (by omega) (by omega)]; exact h.p2), (by rw [e 0 2 (by unfold KI scr; omega) (by omega) (by omega) (by omega) (by omega) (by omega)]; exact h.p3), (by rw [e 0 3 (by unfold KI scr; omega) (by omega) (by omega) (by omega) (by omega) (by omega)]; exact h.p4), (by rw [e 0 4 (by unfold KI scr; omega) (by omega) (by omega) (by omega) (by omega) (by omega)]; exact h.p5), (by rw [e 0 5 (by unfold KI scr; omega) (by omega) (by omega) (by omega) (by omega) (by omega)]; exact h.p6), (h.A.ka e), (h.B.ka e), (by rw [e 19 0 (by unfold KI scr; omega) (by omega) (by omega) (by omega) (by omega) (by omega)]; exact h.r0), (by rw [e 19 1 (by unfold KI scr; omega) (by omega) (by omega) (by omega) (by omega) (by omega)]; exact h.r1), (by rw [e 19 8 (by unfold KI scr; omega) (by omega) (by omega) (by omega) (by omega) (by omega)]; exact h.r8), (by rw [e 19 9 (by unfold KI scr; omega) (by omega) (by omega) (by omega) (by omega) (by omega)]; exact h.r9), h.l20, h.l21, h.l22, h.l23, h.l43, h.l44, h.l60, h.l61, h.l79, (fun k h1 h2 => by rw [e 20 k (by unfold KI scr; omega) (by omega) (by omega) (by omega) (by omega) (by omega)]; exact h.lw k h1 h2), (by rw [e 42 1 (by unfold KI scr; omega) (by omega) (by omega) (by omega) (by omega) (by omega)]; exact h.s1), (by rw [e 42 3 (by unfold KI scr; omega) (by omega) (by omega) (by omega) (by omega) (by omega)]; exact h.s3), (h.R1.mid (fun a j x y => e a j (by unfold KI scr; omega) (by omega) (by omega) (by omega) (by omega) (by omega))), (h.R2.mid (fun a j x y => e a j (by unfold KI scr; omega) (by omega) (by omega) (by omega) (by omega) (by omega))), (by rw [e 45 0 (by unfold KI scr; omega) (by omega) (by omega) (by omega) (by omega) (by omega)]; exact h.k1), (by rw [e 52 0 (by unfold KI scr; omega) (by omega) (by omega) (by omega) (by omega) (by omega)]; exact h.k2), (by rw [e 59 0 (by unfold KI scr; omega) (by omega) (by omega) (by omega) (by omega) (by omega)]; exact h.h0), (by rw [e 59 1 (by unfold KI scr; omega) (by omega) (by omega) (by omega) (by omega) (by omega)]; exact h.h1), (by rw [e 62 5 (by unfold KI scr; omega) (by omega) (by omega) (by omega) (by omega) (by omega)]; exact h.m5), (by rw [e 62 16 (by unfold KI scr; omega) (by omega) (by omega) (by omega) (by omega) (by omega)]; exact h.m16), (by rw [e 62 17 (by unfold KI scr; omega) (by omega) (by omega) (by omega) (by omega) (by omega)]; exact h.m17), (by rw [e 62 18 (by unfold KI scr; omega) (by omega) (by omega) (by omega) (by omega) (by omega)]; exact h.m18), (by rw [e 62 19 (by unfold KI scr; omega) (by omega) (by omega) (by omega) (by omega) (by omega)]; exact h.m19), (by rw [e 62 22 (by unfold KI scr; omega) (by omega) (by omega) (by omega) (by omega) (by omega)]; exact h.m22), (by rw [e 62 23 (by unfold KI scr; omega) (by omega) (by omega) (by omega) (by omega) (by omega)]; exact h.m23), (by rw [e 62 24 (by unfold KI scr; omega) (by omega) (by omega) (by omega) (by omega) (by omega)]; exact h.m24), (by rw [e 62 25 (by unfold KI scr; omega) (by omega) (by omega) (by omega) (by omega) (by omega)]; exact h.m25), (by rw [e 62 26 (by unfold KI scr; omega) (by omega) (by omega) (by omega) (by omega) (by omega)]; exact h.m26), (by rw [e 62 27 (by unfold KI scr; omega) (by omega) (by omega) (by omega) (by omega) (by omega)]; exact h.m27), (by rw [e 62 29 (by unfold KI scr; omega) (by omega) (by omega) (by omega) (by omega) (by omega)]; exact h.m29), (by rw [e 62 33 (by unfold KI scr; omega) (by omega) (by omega) (by omega) (by omega) (by omega)]; exact h.m33), (by rw [e 62 35 (by unfold KI scr; omega) (by omega) (by omega) (by omega) (by omega) (by omega)]; exact h.m35), (by rw [e 62 36 (by unfold KI scr; omega) (by omega) (by omega) (by omega) (by omega) (by omega)]; exact h.m36), (by rw [e 62 37 (by unfold KI scr; omega) (by omega) (by omega) (by omega) (by omega) (by omega)]; exact h.m37), h.n63, h.n64, h.n65, h.n66, h.n67, h.n68, h.n69, h.n70, h.n71, h.n72, h.n73, h.n74, h.n75, h.n76, h.n77, h.n78, (by rw [e 19 2 (by unfold KI scr; omega) (by omega) (by omega) (by omega) (by omega) (by omega), e 62 6 (by unfold KI scr; omega) (by omega) (by omega) (by omega) (by omega) (by omega)]; exact h.tp), (fun j h1 h2 => by rw [e 21 j (by unfold KI scr; omega) (by omega) (by omega) (by omega) (by omega) (by omega), e 63 j (by unfold KI scr; omega) (by omega) (by omega) (by omega) (by omega) (by omega)]; exact h.tb j h1 h2), (by rw [e 19 2 (by unfold KI scr; omega) (by omega) (by omega) (by omega) (by omega) (by omega)]; exact h.z), (by rw [e 19 12 (by unfold KI scr; omega) (by omega) (by omega) (by omega) (by omega) (by omega), e 62 12 (by unfold KI scr; omega) (by omega) (by omega) (by omega) (by omega) (by omega)]; exact h.fa), h.g⟩
theorem TV.ka {G : MG} {c : MC} {t T n m u q w x s ka ki : Int} {g : Int → Int} {c' : MC} (h : TV G c t T n m u q w x s ka ki g) (e : ∀ a j, KI a j → ¬ (a = 42 ∧ (j = 0 ∨ j = 2 ∨ j = 4)) → ¬ (43 ≤ a ∧ a ≤ 44) → a ≠ 64 → ¬ (66 ≤ a ∧ a ≤ 67) → ¬ (a = 62 ∧ (j = 20 ∨ j = 21)) → c' a j = c a j) (st : 0 ≤ c' 42 0 ∧ c' 42 0 < 262144) (sv : ∀ p, 0 ≤ p → p < m → dg (c' 42 0) p = c' 64 p ∧ 0 ≤ c' 64 p ∧ c' 64 p < n) {ka' ki' : Int} (ac : c' 42 2 = ka' ∧ c' 62 20 = ka') (kb : 0 ≤ ka' ∧ ka' ≤ 16) (ar : ∀ a, 0 ≤ a → a < ka' → 0 ≤ c' 43 a ∧ c' 43 a < 262144) (av : ∀ a p, 0 ≤ a → a < ka' → 0 ≤ p → p < m → dg (c' 43 a) p = c' 66 (6 * a + p) ∧ 0 ≤ c' 66 (6 * a + p) ∧ c' 66 (6 * a + p) < n) (im : c' 42 4 = ki' ∧ c' 62 21 = ki') (ib : 0 ≤ ki' ∧ ki' ≤ 3) (ir : ∀ a, 0 ≤ a → a < ki' → 0 ≤ c' 44 a ∧ c' 44 a < 262144) (iv : ∀ a p, 0 ≤ a → a < ki' → 0 ≤ p → p < m → dg (c' 44 a) p = c' 67 (6 * a + p) ∧ 0 ≤ c' 67 (6 * a + p) ∧ c' 67 (6 * a + p) < n) : TV G c' t T n m u q w x s ka' ki' g := by
  have ht := h.t; have hT := h.M.T
  exact ⟨(h.M.kp (fun a j k => e a j (by unfold Kp at k; unfold KI scr; omega) (by unfold Kp at k; omega) (by unfold Kp at k; omega) (by unfold Kp at k; omega) (by unfold Kp at k; omega) (by unfold Kp at k; omega))), h.t, (by rw [e T 1 (by unfold KI scr; omega) (by omega) (by omega) (by omega) (by omega) (by omega)]; exact h.v1), (by rw [e T 3 (by unfold KI scr; omega) (by omega) (by omega) (by omega) (by omega) (by omega)]; exact h.v3), (by rw [e T 4 (by unfold KI scr; omega) (by omega) (by omega) (by omega) (by omega) (by omega)]; exact h.v4), (by rw [e T 5 (by unfold KI scr; omega) (by omega) (by omega) (by omega) (by omega) (by omega)]; exact h.v5), (by rw [e T 6 (by unfold KI scr; omega) (by omega) (by omega) (by omega) (by omega) (by omega)]; exact h.v6), (by rw [e T 7 (by unfold KI scr; omega) (by omega) (by omega) (by omega) (by omega) (by omega)]; exact h.v7), (by rw [e T 8 (by unfold KI scr; omega) (by omega) (by omega) (by omega) (by omega) (by omega)]; exact h.v8), (by rw [e t 0 (by unfold KI scr; omega) (by omega) (by omega) (by omega) (by omega) (by omega), e T 0 (by unfold KI scr; omega) (by omega) (by omega) (by omega) (by omega) (by omega)]; exact h.e0), (by rw [e t 1 (by unfold KI scr; omega) (by omega) (by omega) (by omega) (by omega) (by omega)]; exact h.e1), (by rw [e t 2 (by unfold KI scr; omega) (by omega) (by omega) (by omega) (by omega) (by omega), e T 2 (by unfold KI scr; omega) (by omega) (by omega) (by omega) (by omega) (by omega)]; exact h.e2), (by rw [e t 3 (by unfold KI scr; omega) (by omega) (by omega) (by omega) (by omega) (by omega)]; exact h.e3), (by rw [e t 4 (by unfold KI scr; omega) (by omega) (by omega) (by omega) (by omega) (by omega)]; exact h.e4), (by rw [e t 5 (by unfold KI scr; omega) (by omega) (by omega) (by omega) (by omega) (by omega)]; exact h.e5), (by rw [e (t + 6) 3 (by unfold KI scr; omega) (by omega) (by omega) (by omega) (by omega) (by omega)]; exact h.eq), (by rw [e (t + 10) 3 (by unfold KI scr; omega) (by omega) (by omega) (by omega) (by omega) (by omega)]; exact h.ew), (by rw [e (t + 14) 3 (by unfold KI scr; omega) (by omega) (by omega) (by omega) (by omega) (by omega)]; exact h.es), (fun p h1 h2 => by rw [e (t + 1) p (by unfold KI scr; omega) (by omega) (by omega) (by omega) (by omega) (by omega), e (T + 1) p (by unfold KI scr; omega) (by omega) (by omega) (by omega) (by omega) (by omega)]; exact h.co p h1 h2), (fun p h1 h2 => by rw [e (t + 2) p (by unfold KI scr; omega) (by omega) (by omega) (by omega) (by omega) (by omega), e (T + 2) p (by unfold KI scr; omega) (by omega) (by omega) (by omega) (by omega) (by omega)]; exact h.ho p h1 h2), (fun i h1 h2 => by rw [e (t + 3) i (by unfold KI scr; omega) (by omega) (by omega) (by omega) (by omega) (by omega)]; exact h.g i h1 h2), h.gp, h.gu, (fun i k h1 h2 h3 h4 => by rw [e (T + 4) (6 * i + k) (by unfold KI scr; omega) (by omega) (by omega) (by omega) (by omega) (by omega)]; exact h.tk i k h1 h2 h3 h4), (fun i h1 h2 => by rw [e (t + 6 + 1) i (by unfold KI scr; omega) (by omega) (by omega) (by omega) (by omega) (by omega), e (t + 6 + 2) i (by unfold KI scr; omega) (by omega) (by omega) (by omega) (by omega) (by omega), e (t + 6 + 3) i (by unfold KI scr; omega) (by omega) (by omega) (by omega) (by omega) (by omega)]; exact h.qu i h1 h2), (fun i j h1 h2 h3 => by rw [e (t + 6 + 1) i (by unfold KI scr; omega) (by omega) (by omega) (by omega) (by omega) (by omega), e (t + 6 + 1) j (by unfold KI scr; omega) (by omega) (by omega) (by omega) (by omega) (by omega), e (t + 6 + 2) i (by unfold KI scr; omega) (by omega) (by omega) (by omega) (by omega) (by omega), e (t + 6 + 2) j (by unfold KI scr; omega) (by omega) (by omega) (by omega) (by omega) (by omega)]; exact h.qd i j h1 h2 h3), (fun p h1 h2 => by rw [e (T + 3) p (by unfold KI scr; omega) (by omega) (by omega) (by omega) (by omega) (by omega), ptn_eq (e (t + 6) 3 (by unfold KI scr; omega) (by omega) (by omega) (by omega) (by omega) (by omega)) (fun i => e _ i (by unfold KI scr; omega) (by omega) (by omega) (by omega) (by omega) (by omega)) (fun i => e _ i (by unfold KI scr; omega) (by omega) (by omega) (by omega) (by omega) (by omega))]; exact h.fo p h1 h2), (fun k h1 h2 => by rw [e (t + 10 + 1) k (by unfold KI scr; omega) (by omega) (by omega) (by omega) (by omega) (by omega), e (T + 5) k (by unfold KI scr; omega) (by omega) (by omega) (by omega) (by omega) (by omega), e (t + 10 + 2) k (by unfold KI scr; omega) (by omega) (by omega) (by omega) (by omega) (by omega), e (T + 6) k (by unfold KI scr; omega) (by omega) (by omega) (by omega) (by omega) (by omega), e (t + 10 + 3) k (by unfold KI scr; omega) (by omega) (by omega) (by omega) (by omega) (by omega), e T 16 (by unfold KI scr; omega) (by omega) (by omega) (by omega) (by omega) (by omega)]; exact h.wi k h1 h2), (fun k h1 h2 => by rw [e (t + 4) k (by unfold KI scr; omega) (by omega) (by omega) (by omega) (by omega) (by omega), e (T + 7) k (by unfold KI scr; omega) (by omega) (by omega) (by omega) (by omega) (by omega), e (t + 5) k (by unfold KI scr; omega) (by omega) (by omega) (by omega) (by omega) (by omega), e (T + 8) k (by unfold KI scr; omega) (by omega) (by omega) (by omega) (by omega) (by omega)]; exact h.un k h1 h2), (fun k h1 h2 => by rw [e (t + 14 + 1) k (by unfold KI scr; omega) (by omega) (by omega) (by omega) (by omega) (by omega), e (T + 9) k (by unfold KI scr; omega) (by omega) (by omega) (by omega) (by omega) (by omega), e (t + 14 + 2) k (by unfold KI scr; omega) (by omega) (by omega) (by omega) (by omega) (by omega), e (T + 10) k (by unfold KI scr; omega) (by omega) (by omega) (by omega) (by omega) (by omega), e (t + 14 + 3) k (by unfold KI scr; omega) (by omega) (by omega) (by omega) (by omega) (by omega), e T 17 (by unfold KI scr; omega) (by omega) (by omega) (by omega) (by omega) (by omega)]; exact h.se k h1 h2), st, sv, ac, kb, ar, av, im, ib, ir, iv, ⟨by rw [e _ _ (by unfold KI scr; omega) (by omega) (by omega) (by omega) (by omega) (by omega)]; exact h.B.w, fun i k a b x y => by rw [e _ _ (by unfold KI scr; omega) (by omega) (by omega) (by omega) (by omega) (by omega)]; exact h.B.e i k a b x y, fun i a b => by rw [e _ _ (by unfold KI scr; omega) (by omega) (by omega) (by omega) (by omega) (by omega), e _ _ (by unfold KI scr; omega) (by omega) (by omega) (by omega) (by omega) (by omega), e _ _ (by unfold KI scr; omega) (by omega) (by omega) (by omega) (by omega) (by omega)]; exact h.B.f i a b, fun q a b => by rw [e _ _ (by unfold KI scr; omega) (by omega) (by omega) (by omega) (by omega) (by omega)]; exact h.B.x q a b⟩, (fun k => (h.C1 ((e 45 0 (by unfold KI scr; omega) (by omega) (by omega) (by omega) (by omega) (by omega)).symm.trans k)).mid (fun a j x y => e a j (by unfold KI scr; omega) (by omega) (by omega) (by omega) (by omega) (by omega))), (fun k => (h.C2 ((e 52 0 (by unfold KI scr; omega) (by omega) (by omega) (by omega) (by omega) (by omega)).symm.trans k)).mid (fun a j x y => e a j (by unfold KI scr; omega) (by omega) (by omega) (by omega) (by omega) (by omega))), h.gt⟩
def actM (c : MC) (nx : Int) : MC := if c 42 2 = 16 then up (up (up (up (cCopy c 43 1 43 0 15) 42 2 15) 43 15 (c 42 0)) 42 2 16) 42 0 nx else up (up (up c 43 (c 42 2) (c 42 0)) 42 2 (c 42 2 + 1)) 42 0 nx
theorem actM_all {c : MC} {nx ka : Int} (hk : c 42 2 = ka) (h0 : 0 ≤ ka) (h16 : ka ≤ 16) : actM c nx 42 0 = nx ∧ actM c nx 42 2 = (if ka = 16 then 16 else ka + 1) ∧ (∀ a, 0 ≤ a → a < (if ka = 16 then 16 else ka + 1) → actM c nx 43 a = if ka = 16 then (if a = 15 then c 42 0 else c 43 (a + 1)) else (if a = ka then c 42 0 else c 43 a)) ∧ (∀ a j, ¬ (a = 42 ∧ (j = 0 ∨ j = 2)) → a ≠ 43 → actM c nx a j = c a j) := by
  unfold actM
  rw [hk]
  by_cases h : ka = 16
  · simp only [if_pos h]
    refine ⟨up_eq, by rw [up_nj (by decide), up_eq], fun a a0 a1 => ?_, fun a j h1 h2 => ?_⟩
    · rw [up_na (by decide), up_na (by decide)]
      by_cases e : a = 15
      · rw [e, up_eq]; simp
      · rw [up_nj e, up_na (by decide), if_neg e]
        unfold cCopy
        rw [if_pos ⟨rfl, by omega, by omega⟩]
        congr 1
        omega
    · have hc : cCopy c 43 1 43 0 15 a j = c a j := by unfold cCopy; rw [if_neg (fun q => h2 q.1)]
      by_cases e : a = 42
      · rw [up_nj (by omega), up_nj (by omega), up_na (by omega), up_nj (by omega), hc]
      · rw [up_na e, up_na e, up_na h2, up_na e, hc]
  · simp only [if_neg h]
    refine ⟨up_eq, by rw [up_nj (by decide), up_eq], fun a a0 a1 => ?_, fun a j h1 h2 => ?_⟩
    · rw [up_na (by decide), up_na (by decide)]
      by_cases e : a = ka
      · rw [e, up_eq]; simp
      · rw [up_nj e, if_neg e]
    · by_cases e : a = 42
      · rw [up_nj (by omega), up_nj (by omega), up_na (by omega)]
      · rw [up_na e, up_na e, up_na h2]
section
variable (d : Nat) (P : Int → MM → Prop) (P0 : MM → Prop) (G : MG) (c : MC)
theorem q_act (nx ka : Int) (h1 : c 42 1 = 43) (hl : gLn G 43 = 16) (hk : c 42 2 = ka) (h0 : 0 ≤ ka) (h16 : ka ≤ 16) : EvV (d + 1) mX8_act [mR 14 42, mI nx] (G, c) P0 = P0 (G, actM c nx) := evV_eq (ev_X8_act d _ G c 42 nx (by decide) (by
  unfold actM
  rw [hk, h1, hl]
  refine ⟨by omega, ?_⟩
  have cc : ∀ a j, a ≠ 43 → cCopy c 43 1 43 0 15 a j = c a j := fun a j h => by unfold cCopy; rw [if_neg (fun q => h q.1)]
  by_cases h : ka = 16
  · rw [if_pos h, if_pos h]
    refine ⟨by omega, by omega, by omega, ?_⟩
    rintro _ rfl
    rw [cc 42 2 (by decide), hk, h, show w32 ((16 : Int) - 1) = 15 by decide]
    refine ⟨by omega, by omega, ?_⟩
    rintro _ rfl
    have x1 : up (cCopy c 43 1 43 0 15) 42 2 15 42 1 = 43 := by rw [up_nj (by decide), cc 42 1 (by decide)]; exact h1
    have x2 : up (cCopy c 43 1 43 0 15) 42 2 15 42 2 = 15 := up_eq
    have x0 : up (cCopy c 43 1 43 0 15) 42 2 15 42 0 = c 42 0 := by rw [up_nj (by decide), cc 42 0 (by decide)]
    rw [x1, x2, x0, hl]
    refine ⟨by omega, by omega, by omega, by omega, ?_⟩
    rintro _ rfl
    have x3 : up (up (cCopy c 43 1 43 0 15) 42 2 15) 43 15 (c 42 0) 42 2 = 15 := by rw [up_na (by decide)]; exact x2
    rw [x3, show w32 ((15 : Int) + 1) = 16 by decide]
    refine ⟨by omega, by omega, ?_⟩
    rintro _ rfl
    refine ⟨by omega, ?_⟩
    rintro _ rfl
    rfl
  · rw [if_neg h, if_neg h]
    refine ⟨by omega, by omega, by omega, by omega, ?_⟩
    rintro _ rfl
    rw [up_na (by decide), hk, w32i (by omega) (by omega)]
    refine ⟨by omega, by omega, ?_⟩
    rintro _ rfl
    refine ⟨by omega, ?_⟩
    rintro _ rfl
    rfl)) P0
variable (T : Int)
/-- what the reference remembers -/
theorem f_remembers (M : MDs G c T) (ka : Int) (hk : c 62 20 = ka) (h0 : 0 ≤ ka) (h16 : ka ≤ 16) (hP : ∀ c', c' 62 20 = (if ka = 16 then 16 else ka + 1) → (∀ a p, 0 ≤ a → a < (if ka = 16 then 16 else ka + 1) → 0 ≤ p → p < 6 → c' 66 (6 * a + p) = if ka = 16 then (if a = 15 then c 64 p else c 66 (6 * (a + 1) + p)) else (if a = ka then c 64 p else c 66 (6 * a + p))) → (∀ a j, a ≠ 66 → ¬ (a = 62 ∧ j = 20) → c' a j = c a j) → P0 (G, c')) : EvV (d + 1) mX12_remembers [mR 18 62] (G, c) P0 := by
  have hT := M.T
  -- the last six
  have loop2 : ∀ (kb : Int) (c1 : MC), 0 ≤ kb → kb ≤ 15 → c1 62 20 = kb → (∀ a j, a ≠ 66 → ¬ (a = 62 ∧ j = 20) → c1 a j = c a j) → (∀ c', c' 62 20 = kb + 1 → (∀ a p, 0 ≤ a → a < kb + 1 → 0 ≤ p → p < 6 → c' 66 (6 * a + p) = if a = kb then c 64 p else c1 66 (6 * a + p)) → (∀ a j, a ≠ 66 → ¬ (a = 62 ∧ j = 20) → c' a j = c a j) → P0 (G, c')) → At (d + 1) mX12_remembers 50 [mR 18 62, mI 0] [] (G, c1) (QV P0) := by
    intro kb c1 k0 k15 hk1 hc1 hfin
    have hM : ∀ c', (∀ a j, a ≠ 66 → ¬ (a = 62 ∧ j = 20) → c' a j = c a j) → MDs G c' T := fun c' h => M.kp (fun a j q => h a j (by unfold Kp at q; omega) (by unfold Kp at q; omega))
    have lp : ∀ (j : Nat) (p : Int), 0 ≤ p → p + j = 6 → At (d + 1) mX12_remembers 50 [mR 18 62, mI p] [] (G, wr c1 66 (6 * kb) p (fun q => c 64 (q - 6 * kb))) (QV P0) := by
      intro j
      induction j with
      | zero =>
        intro p p0 hp
        have hc2 : ∀ a j, a ≠ 66 → ¬ (a = 62 ∧ j = 20) → wr c1 66 (6 * kb) p (fun q => c 64 (q - 6 * kb)) a j = c a j := fun a j h h' => by rw [wr_ne h]; exact hc1 a j h h'
        have x20 : wr c1 66 (6 * kb) p (fun q => c 64 (q - 6 * kb)) 62 20 = kb := by rw [wr_ne (by decide)]; exact hk1
        apply wp_X12_remembers_50
        rw [if_neg (by omega), x20, w32i (by omega) (by omega)]
        refine ⟨by omega, by omega, ?_⟩
        rintro _ rfl
        refine hfin _ up_eq (fun a q a0 a1 q0 q1 => ?_) (fun a j h h' => ?_)
        · rw [up_na (by decide)]
          by_cases e : a = kb
          · rw [if_pos e, wr_in (by omega) (by omega)]; congr 1; omega
          · rw [if_neg e, wr_out (by omega)]
        · by_cases e : a = 62
          · rw [up_nj (by omega)]; exact hc2 a j h h'
          · rw [up_na e]; exact hc2 a j h h'
      | succ j ih =>
        intro p p0 hp
        have hc2 : ∀ a j, a ≠ 66 → ¬ (a = 62 ∧ j = 20) → wr c1 66 (6 * kb) p (fun q => c 64 (q - 6 * kb)) a j = c a j := fun a j h h' => by rw [wr_ne h]; exact hc1 a j h h'
        have M' := hM _ hc2
        have x20 : wr c1 66 (6 * kb) p (fun q => c 64 (q - 6 * kb)) 62 20 = kb := by rw [wr_ne (by decide)]; exact hk1
        have wp : w32 (p + 1) = p + 1 := w32i (by omega) (by omega)
        have w6 : w32 (6 * kb) = 6 * kb := w32i (by omega) (by omega)
        have w7 : w32 (6 * kb + p) = 6 * kb + p := w32i (by omega) (by omega)
        apply wp_X12_remembers_50
        rw [if_pos (by omega)]
        simp only [M'.p16, M.l64, M'.p18, M.l66, x20, wp, w6, w7]
        refine ⟨by omega, by omega, by omega, by omega, by omega, ?_⟩
        rintro _ rfl
        rw [wr_up p0 rfl (by rw [hc2 64 p (by decide) (by omega)]; congr 1; omega)]
        exact ih (p + 1) (by omega) (by omega)
    have := lp 6 0 (by omega) (by omega)
    rwa [wr_zero (by omega)] at this
  refine ev_X12_remembers d P0 G c 62 (by decide) ?_
  rw [hk]
  refine ⟨by omega, ?_⟩
  by_cases h : ka = 16
  · rw [if_pos h]
    have lp : ∀ (j : Nat) (i : Int), 0 ≤ i → i + j = 90 → At (d + 1) mX12_remembers 11 [mR 18 62, mI i] [] (G, wr c 66 0 i (fun q => c 66 (q + 6))) (QV P0) := by
      intro j
      induction j with
      | zero =>
        intro i i0 hi
        have x20 : wr c 66 0 i (fun q => c 66 (q + 6)) 62 20 = 16 := by rw [wr_ne (by decide), hk]; exact h
        apply wp_X12_remembers_11
        rw [if_neg (by omega), x20, show w32 ((16 : Int) - 1) = 15 by decide]
        refine ⟨by omega, by omega, ?_⟩
        rintro _ rfl
        refine loop2 15 _ (by omega) (by omega) up_eq (fun a j h1 h2 => ?_) (fun c' e1 e2 e3 => hP c' (by rw [if_pos h]; exact e1) (fun a p a0 a1 p0 p1 => ?_) e3)
        · by_cases e : a = 62
          · rw [up_nj (by omega), wr_ne h1]
          · rw [up_na e, wr_ne h1]
        · rw [if_pos h] at a1 ⊢
          rw [e2 a p a0 a1 p0 p1]
          by_cases e : a = 15
          · rw [if_pos e, if_pos e]
          · rw [if_neg e, if_neg e, up_na (by decide), wr_in (by omega) (by omega)]; congr 1; omega
      | succ j ih =>
        intro i i0 hi
        have M' : MDs G (wr c 66 0 i (fun q => c 66 (q + 6))) T := M.kp (fun a j q => wr_ne (by unfold Kp at q; omega))
        have wi : w32 (i + 1) = i + 1 := w32i (by omega) (by omega)
        have w6 : w32 (i + 6) = i + 6 := w32i (by omega) (by omega)
        apply wp_X12_remembers_11
        rw [if_pos (by omega)]
        simp only [M'.p18, M.l66, wi, w6]
        refine ⟨by omega, by omega, by omega, by omega, ?_⟩
        rintro _ rfl
        rw [wr_up i0 (by omega) (by rw [wr_out (by omega)])]
        exact ih (i + 1) (by omega) (by omega)
    have := lp 90 0 (by omega) (by omega)
    rwa [wr_zero (by omega)] at this
  · rw [if_neg h]
    refine loop2 ka c h0 (by omega) hk (fun a j _ _ => rfl) (fun c' e1 e2 e3 => hP c' (by rw [if_neg h]; exact e1) (fun a p a0 a1 p0 p1 => ?_) e3)
    rw [if_neg h] at a1 ⊢
    exact e2 a p a0 a1 p0 p1
end
