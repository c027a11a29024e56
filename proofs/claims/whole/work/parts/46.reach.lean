/-! what is come to, asked for the first time or again -/
theorem TPs.lt {G : MG} {c : MC} {t : Int} {c' : MC} (h : TPs G c t) (e : ∀ a j, a < 42 → c' a j = c a j) : TPs G c' t := by
  have ht := h.t
  exact ⟨h.t, (by rw [e t 6 (by omega)]; exact h.p6), (by rw [e t 7 (by omega)]; exact h.p7), (by rw [e t 8 (by omega)]; exact h.p8), (by rw [e t 9 (by omega)]; exact h.p9), (by rw [e t 10 (by omega)]; exact h.p10), (by rw [e t 11 (by omega)]; exact h.p11), (by rw [e t 12 (by omega)]; exact h.p12), (by rw [e t 13 (by omega)]; exact h.p13), h.g1, h.g2, h.g3, h.g4, h.g5, (by rw [e (t + 6) 0 (by omega)]; exact h.q0), (by rw [e (t + 6) 1 (by omega)]; exact h.q1), (by rw [e (t + 6) 2 (by omega)]; exact h.q2), h.ql1, h.ql2, h.ql3, (by rw [e (t + 10) 0 (by omega)]; exact h.w0), (by rw [e (t + 10) 1 (by omega)]; exact h.w1), (by rw [e (t + 10) 2 (by omega)]; exact h.w2), h.wl1, h.wl2, h.wl3, (by rw [e (t + 14) 0 (by omega)]; exact h.s0), (by rw [e (t + 14) 1 (by omega)]; exact h.s1), (by rw [e (t + 14) 2 (by omega)]; exact h.s2), h.sl1, h.sl2, h.sl3⟩
theorem MBT.ge {c c' : MC} {n : Int} {S : MC} (h : MBT c n S) (e : ∀ a j, 62 ≤ a → c' a j = c a j) : MBT c' n S :=
  ⟨by rw [e _ _ (by omega)]; exact h.w, fun i k a b x y => by rw [e _ _ (by omega)]; exact h.e i k a b x y, fun i a b => by rw [e _ _ (by omega), e _ _ (by omega), e _ _ (by omega)]; exact h.f i a b, fun q a b => by rw [e _ _ (by omega)]; exact h.x q a b⟩
theorem SH.fr {G : MG} {c : MC} {t z : Int} {c' : MC} (h : SH G c t z) {r : Int} (hr : r = 45 ∨ r = 52) (e : FrR r c c') (r1 : RCs G c' 45) (r2 : RCs G c' 52) (k1 : c' 45 0 = 0 ∨ c' 45 0 = 1) (k2 : c' 52 0 = 0 ∨ c' 52 0 = 1) : SH G c' t z := by
  have ht := h.t
  exact ⟨h.t, (by rw [e 0 0 (by omega)]; exact h.p0), (by rw [e 19 11 (by omega)]; exact h.p1), (by rw [e 0 1 (by omega)]; exact h.p2), (by rw [e 0 2 (by omega)]; exact h.p3), (by rw [e 0 3 (by omega)]; exact h.p4), (by rw [e 0 4 (by omega)]; exact h.p5), (by rw [e 0 5 (by omega)]; exact h.p6), (h.A.lt (fun a j q => e a j (by omega))), (h.B.lt (fun a j q => e a j (by omega))), (by rw [e 19 0 (by omega)]; exact h.r0), (by rw [e 19 1 (by omega)]; exact h.r1), (by rw [e 19 8 (by omega)]; exact h.r8), (by rw [e 19 9 (by omega)]; exact h.r9), h.l20, h.l21, h.l22, h.l23, h.l43, h.l44, h.l60, h.l61, h.l79, (fun k h1 h2 => by rw [e 20 k (by omega)]; exact h.lw k h1 h2), (by rw [e 42 1 (by omega)]; exact h.s1), (by rw [e 42 3 (by omega)]; exact h.s3), r1, r2, k1, k2, (by rw [e 59 0 (by omega)]; exact h.h0), (by rw [e 59 1 (by omega)]; exact h.h1), (by rw [e 62 5 (by omega)]; exact h.m5), (by rw [e 62 16 (by omega)]; exact h.m16), (by rw [e 62 17 (by omega)]; exact h.m17), (by rw [e 62 18 (by omega)]; exact h.m18), (by rw [e 62 19 (by omega)]; exact h.m19), (by rw [e 62 22 (by omega)]; exact h.m22), (by rw [e 62 23 (by omega)]; exact h.m23), (by rw [e 62 24 (by omega)]; exact h.m24), (by rw [e 62 25 (by omega)]; exact h.m25), (by rw [e 62 26 (by omega)]; exact h.m26), (by rw [e 62 27 (by omega)]; exact h.m27), (by rw [e 62 29 (by omega)]; exact h.m29), (by rw [e 62 33 (by omega)]; exact h.m33), (by rw [e 62 35 (by omega)]; exact h.m35), (by rw [e 62 36 (by omega)]; exact h.m36), (by rw [e 62 37 (by omega)]; exact h.m37), h.n63, h.n64, h.n65, h.n66, h.n67, h.n68, h.n69, h.n70, h.n71, h.n72, h.n73, h.n74, h.n75, h.n76, h.n77, h.n78, (by rw [e 19 2 (by omega), e 62 6 (by omega)]; exact h.tp), (fun j h1 h2 => by rw [e 21 j (by omega), e 63 j (by omega)]; exact h.tb j h1 h2), (by rw [e 19 2 (by omega)]; exact h.z), (by rw [e 19 12 (by omega), e 62 12 (by omega)]; exact h.fa), h.g⟩
theorem TV.fr {G : MG} {c : MC} {t T n m u q w x s ka ki : Int} {g : Int → Int} {c' : MC} (h : TV G c t T n m u q w x s ka ki g) {r : Int} (hr : r = 45 ∨ r = 52) (e : FrR r c c') (c1 : c' 45 0 = 1 → CBT G c' 45 n (bfs n g u)) (c2 : c' 52 0 = 1 → CBT G c' 52 n (bfs n g (u + 1))) : TV G c' t T n m u q w x s ka ki g := by
  have ht := h.t; have hT := h.M.T
  exact ⟨(h.M.kp (fun a j k => e a j (by unfold Kp at k; omega))), h.t, (by rw [e T 1 (by omega)]; exact h.v1), (by rw [e T 3 (by omega)]; exact h.v3), (by rw [e T 4 (by omega)]; exact h.v4), (by rw [e T 5 (by omega)]; exact h.v5), (by rw [e T 6 (by omega)]; exact h.v6), (by rw [e T 7 (by omega)]; exact h.v7), (by rw [e T 8 (by omega)]; exact h.v8), (by rw [e t 0 (by omega), e T 0 (by omega)]; exact h.e0), (by rw [e t 1 (by omega)]; exact h.e1), (by rw [e t 2 (by omega), e T 2 (by omega)]; exact h.e2), (by rw [e t 3 (by omega)]; exact h.e3), (by rw [e t 4 (by omega)]; exact h.e4), (by rw [e t 5 (by omega)]; exact h.e5), (by rw [e (t + 6) 3 (by omega)]; exact h.eq), (by rw [e (t + 10) 3 (by omega)]; exact h.ew), (by rw [e (t + 14) 3 (by omega)]; exact h.es), (fun p h1 h2 => by rw [e (t + 1) p (by omega), e (T + 1) p (by omega)]; exact h.co p h1 h2), (fun p h1 h2 => by rw [e (t + 2) p (by omega), e (T + 2) p (by omega)]; exact h.ho p h1 h2), (fun i h1 h2 => by rw [e (t + 3) i (by omega)]; exact h.g i h1 h2), h.gp, h.gu, (fun i k h1 h2 h3 h4 => by rw [e (T + 4) (6 * i + k) (by omega)]; exact h.tk i k h1 h2 h3 h4), (fun i h1 h2 => by rw [e (t + 6 + 1) i (by omega), e (t + 6 + 2) i (by omega), e (t + 6 + 3) i (by omega)]; exact h.qu i h1 h2), (fun i j h1 h2 h3 => by rw [e (t + 6 + 1) i (by omega), e (t + 6 + 1) j (by omega), e (t + 6 + 2) i (by omega), e (t + 6 + 2) j (by omega)]; exact h.qd i j h1 h2 h3), (fun p h1 h2 => by rw [e (T + 3) p (by omega), ptn_eq (e (t + 6) 3 (by omega)) (fun i => e _ i (by omega)) (fun i => e _ i (by omega))]; exact h.fo p h1 h2), (fun k h1 h2 => by rw [e (t + 10 + 1) k (by omega), e (T + 5) k (by omega), e (t + 10 + 2) k (by omega), e (T + 6) k (by omega), e (t + 10 + 3) k (by omega), e T 16 (by omega)]; exact h.wi k h1 h2), (fun k h1 h2 => by rw [e (t + 4) k (by omega), e (T + 7) k (by omega), e (t + 5) k (by omega), e (T + 8) k (by omega)]; exact h.un k h1 h2), (fun k h1 h2 => by rw [e (t + 14 + 1) k (by omega), e (T + 9) k (by omega), e (t + 14 + 2) k (by omega), e (T + 10) k (by omega), e (t + 14 + 3) k (by omega), e T 17 (by omega)]; exact h.se k h1 h2), (by rw [e 42 0 (by omega)]; exact h.st), (fun p h1 h2 => by rw [e 42 0 (by omega), e 64 p (by omega)]; exact h.sv p h1 h2), (by rw [e 42 2 (by omega), e 62 20 (by omega)]; exact h.ac), h.kb, (fun a h1 h2 => by rw [e 43 a (by omega)]; exact h.ar a h1 h2), (fun a p h1 h2 h3 h4 => by rw [e 43 a (by omega), e 66 (6 * a + p) (by omega)]; exact h.av a p h1 h2 h3 h4), (by rw [e 42 4 (by omega), e 62 21 (by omega)]; exact h.im), h.ib, (fun a h1 h2 => by rw [e 44 a (by omega)]; exact h.ir a h1 h2), (fun a p h1 h2 h3 h4 => by rw [e 44 a (by omega), e 67 (6 * a + p) (by omega)]; exact h.iv a p h1 h2 h3 h4), (h.B.ge (fun a j q => e a j (by omega))), c1, c2, h.gt⟩
theorem RCs.fr {G : MG} {c c' : MC} {r r' : Int} (h : RCs G c r) (hn : r ≠ r') (hr' : r' = 45 ∨ r' = 52) (e : FrR r' c c') : RCs G c' r := by
  have hr := h.r
  exact ⟨h.r, (by rw [e r 3 (by omega)]; exact h.p3), (by rw [e r 4 (by omega)]; exact h.p4), (by rw [e r 5 (by omega)]; exact h.p5), (by rw [e r 6 (by omega)]; exact h.p6), (by rw [e r 7 (by omega)]; exact h.p7), (by rw [e r 8 (by omega)]; exact h.p8), h.l1, h.l2, h.l3, h.l4, h.l5, h.l6⟩
theorem CBT.fr {G : MG} {c c' : MC} {r r' n : Int} {S : MC} (h : CBT G c r n S) (hn : r ≠ r') (hr' : r' = 45 ∨ r' = 52) (e : FrR r' c c') : CBT G c' r n S := by
  have hr := h.h.r
  exact ⟨h.h.fr hn hr' e, (by rw [e r 1 (by omega)]; exact h.n), (by rw [e r 2 (by omega)]; exact h.w), fun i a b => by rw [e (r + 1) i (by omega), e (r + 2) i (by omega), e (r + 3) i (by omega), e (r + 4) i (by omega)]; exact h.e i a b, fun q a b => by rw [e (r + 5) q (by omega)]; exact h.x q a b, fun q a b => by rw [e (r + 6) q (by omega)]; exact h.y q a b⟩
section
variable {G : MG} {c : MC} {t T n m u q w x s ka ki z : Int} {g : Int → Int}
theorem tv_gpm (V : TV G c t T n m u q w x s ka ki g) : ∀ i, 0 ≤ i → i < u + 1 → PM (g i) n := fun i a b => by
  have b1 := V.M.b1
  rw [V.v1] at b1
  by_cases e : i = u
  · rw [e, V.gu]; exact (sam_all (by omega) (by omega)).2.2.1
  · exact V.gp i a (by omega)
theorem tv_tg (V : TV G c t T n m u q w x s ka ki g) (S : SH G c t z) : TG G c t u g n := by
  have b4 := V.M.b4
  rw [V.v4] at b4
  exact ⟨V.t, V.e1, V.e4, S.told.p8, S.told.g3, by omega, V.g⟩
variable (d : Nat)
theorem f_reached (P : Int → MM → Prop) (V : TV G c t T n m u q w x s ka ki g) (S : SH G c t z) (hP : ∀ c', TV G c' t T n m u q w x s ka ki g → SH G c' t z → CBT G c' 45 n (bfs n g u) → FrR 45 c c' → P 45 (G, c')) : EvR (d + 5) mX10_reached [mR 16 0] (G, c) P := by
  have b1 := V.M.b1
  rw [V.v1] at b1
  refine ev_X10_reached (d + 4) P G c 0 (by decide) ?_
  rw [S.p4]
  refine ⟨by omega, by omega, ?_⟩
  rcases S.k1 with hk | hk
  · rw [if_pos hk, S.p0]
    refine ⟨by omega, by omega, ?_⟩
    refine f_explore d _ G S.R1 b1.1 b1.2 V.gp (tv_tg V S) (Or.inl ⟨rfl, rfl⟩) (fun c' C' f' e' => ?_)
    have V' := V.fr (Or.inl rfl) f' (fun _ => C') (fun h => (V.C2 (by rw [← f' 52 0 (by omega)]; exact h)).fr (by omega) (Or.inl rfl) f')
    have S' := S.fr (Or.inl rfl) f' C'.h (S.R2.fr (by omega) (Or.inl rfl) f') (Or.inr e') (by rw [f' 52 0 (by omega)]; exact S.k2)
    have h04 : c' 0 3 = 45 := S'.p4
    simp only [h04]
    exact ⟨by omega, hP c' V' S' C' f'⟩
  · rw [if_neg (by omega)]
    exact ⟨by omega, hP c V S (V.C1 hk) FrR.rf⟩
theorem f_mreach (P0 : MM → Prop) (V : TV G c t T n m u q w x s ka ki g) (S : SH G c t z) (hk : c 52 0 = 0) (hP : ∀ c', TV G c' t T n m u q w x s ka ki g → SH G c' t z → CBT G c' 52 n (bfs n g (u + 1)) → FrR 52 c c' → P0 (G, c')) : EvV (d + 4) mX4_explore [mR 11 52, mR 15 t, mI 1] (G, c) P0 := by
  have b1 := V.M.b1
  rw [V.v1] at b1
  refine f_explore d _ G S.R2 b1.1 b1.2 (tv_gpm V) (tv_tg V S) (Or.inr ⟨rfl, rfl, V.gu⟩) (fun c' C' f' e' => ?_)
  exact hP c' (V.fr (Or.inr rfl) f' (fun h => (V.C1 (by rw [← f' 45 0 (by omega)]; exact h)).fr (by omega) (Or.inr rfl) f') (fun _ => C')) (S.fr (Or.inr rfl) f' (S.R1.fr (by omega) (Or.inr rfl) f') C'.h (by rw [f' 45 0 (by omega)]; exact S.k1) (Or.inr e')) C' f'
/-- what is come to by turns -/
theorem tv_bfs (V : TV G c t T n m u q w x s ka ki g) : BV n g u (bfs n g u) ∧ 1 ≤ bfs n g u 0 0 ∧ bfs n g u 1 0 = sam n ∧ Cls n g u (bfs n g u 0 0) (bfs n g u) := by
  have b1 := V.M.b1; have b4 := V.M.b4
  rw [V.v1] at b1; rw [V.v4] at b4
  exact bfs_all b1.1 b1.2 (by omega) V.gp
end
