/-! tube -/
abbrev K3 (G : MG) (r1 r2 : Int) (ν2 : MM) : Prop := ∃ _ : r1 = r2, IV ν2.1 ν2.2 ∧ gCl ν2.1 ≤ gCl G + 14 ∧ gSl ν2.1 ≤ gSl G + 277
/-- the reference told anew, in its right shape -/
theorem md_new {G G' : MG} {c c' R : MC} {t z T : Int} (S : SH G c t z) (T80 : 80 ≤ T) (hT : gTop G = T) (W : WF R) (p3 : R 0 3 ≠ 0) (p4 : R 0 4 ≠ 0) (X : TT G' c' T) (Q : RT R c' T) (q3 : c' 62 3 = T) (eg : ∀ x, x < T → gLn G' x = gLn G x) (e : ∀ x j, x = 62 ∧ (j = 5 ∨ (16 ≤ j ∧ j ≤ 19) ∨ (22 ≤ j ∧ j ≤ 27) ∨ j = 29 ∨ j = 33 ∨ (35 ≤ j ∧ j ≤ 37)) → c' x j = c x j) : MDs G' c' T := by
  have wa := W.a; have wh := W.h; have wp := W.p; have wt := W.t; have wx := W.x; have wq := W.q; have ww := W.w; have ws := W.s
  exact ⟨q3, T80, (by rw [e _ _ (by omega)]; exact S.m5), (by rw [e _ _ (by omega)]; exact S.m16), (by rw [e _ _ (by omega)]; exact S.m17), (by rw [e _ _ (by omega)]; exact S.m18), (by rw [e _ _ (by omega)]; exact S.m19), (by rw [e _ _ (by omega)]; exact S.m22), (by rw [e _ _ (by omega)]; exact S.m23), (by rw [e _ _ (by omega)]; exact S.m24), (by rw [e _ _ (by omega)]; exact S.m25), (by rw [e _ _ (by omega)]; exact S.m26), (by rw [e _ _ (by omega)]; exact S.m27), (by rw [e _ _ (by omega)]; exact S.m29), (by rw [e _ _ (by omega)]; exact S.m33), (by rw [e _ _ (by omega)]; exact S.m35), (by rw [e _ _ (by omega)]; exact S.m36), (by rw [e _ _ (by omega)]; exact S.m37), (by rw [eg _ (by omega)]; exact S.n63), (by rw [eg _ (by omega)]; exact S.n64), (by rw [eg _ (by omega)]; exact S.n65), (by rw [eg _ (by omega)]; exact S.n66), (by rw [eg _ (by omega)]; exact S.n67), (by rw [eg _ (by omega)]; exact S.n68), (by rw [eg _ (by omega)]; exact S.n69), (by rw [eg _ (by omega)]; exact S.n70), (by rw [eg _ (by omega)]; exact S.n71), (by rw [eg _ (by omega)]; exact S.n72), (by rw [eg _ (by omega)]; exact S.n73), (by rw [eg _ (by omega)]; exact S.n74), (by rw [eg _ (by omega)]; exact S.n75), (by rw [eg _ (by omega)]; exact S.n76), (by rw [eg _ (by omega)]; exact S.n77), (by rw [eg _ (by omega)]; exact S.n78), X.t10, X.t11, X.t12, X.t13, X.t14, X.t15, X.t18, X.t19, X.t20, X.t21, X.t22, X.t23, X.t24, X.u1, X.u2, X.u3, X.u4, X.u5, X.u6, X.u7, X.u8, X.u9, X.u10, X.u11, X.u12, X.u13, (by rw [Q.f0]; omega), (by rw [Q.f1]; omega), (by rw [Q.f2]; omega), (by rw [Q.f3]; omega), (by rw [Q.f4]; omega), (by rw [Q.f5]; omega), (by rw [Q.f6]; omega), (by rw [Q.f7]; omega), (by rw [Q.f8]; omega)⟩
theorem tv_new {G G' : MG} {c c' R : MC} {t z T b : Int} (S : SH G c t z) (hb : b = 1 ∨ b = 24) (T80 : 80 ≤ T) (hT : gTop G = T) (W : WF R) (p3 : R 0 3 ≠ 0) (p4 : R 0 4 ≠ 0) (X : TT G' c' T) (Q : RT R c' T) (q3 : c' 62 3 = T) (eg : ∀ x, x < T → gLn G' x = gLn G x) (e : ∀ x j, x = 62 ∧ (j = 5 ∨ (16 ≤ j ∧ j ≤ 19) ∨ (22 ≤ j ∧ j ≤ 27) ∨ j = 29 ∨ j = 33 ∨ (35 ≤ j ∧ j ≤ 37)) → c' x j = c x j) (r : ∀ x j, Tm x j → c' (b + x) j = R x j) (st : 0 ≤ c' 42 0 ∧ c' 42 0 < 262144) (sv : ∀ p, 0 ≤ p → p < R 0 3 → dg (c' 42 0) p = c' 64 p ∧ c' 64 p = R 2 p) (a2 : c' 42 2 = 0) (a4 : c' 42 4 = 0) (m20 : c' 62 20 = 0) (m21 : c' 62 21 = 0) (k1 : c' 45 0 = 0) (k2 : c' 52 0 = 0) (gt : gTop G' = T + 14) (B : MBT c' (R 0 1) (bfs (R 0 1) (fun i => if i = R 0 4 then owr (R 0 1) else R 3 i) (R 0 4))) : TV G' c' b T (R 0 1) (R 0 3) (R 0 4) (R 6 3) (R 10 3) (R 0 5) (R 14 3) 0 0 (fun i => if i = R 0 4 then owr (R 0 1) else R 3 i) := by
  have wa := W.a
  have r0 : ∀ j, 0 ≤ j → j < 6 → c' b j = R 0 j := fun j x y => by
    have := r 0 j (by unfold Tm; omega)
    rw [Int.add_zero] at this
    exact this
  have r1 : ∀ k j, 1 ≤ k → k ≤ 17 → k ≠ 6 → k ≠ 10 → k ≠ 14 → c' (b + k) j = R k j := fun k j x y q6 q10 q14 => r k j (by unfold Tm; omega)
  have ra : ∀ k j, c' (b + 6 + k) j = c' (b + (6 + k)) j := fun k j => by rw [Int.add_assoc]
  have rb : ∀ k j, c' (b + 10 + k) j = c' (b + (10 + k)) j := fun k j => by rw [Int.add_assoc]
  have rc : ∀ k j, c' (b + 14 + k) j = c' (b + (14 + k)) j := fun k j => by rw [Int.add_assoc]
  have q1 : ∀ j, c' (b + 6 + 1) j = R 7 j := fun j => by rw [ra]; exact r1 7 j (by decide) (by decide) (by decide) (by decide) (by decide)
  have q2 : ∀ j, c' (b + 6 + 2) j = R 8 j := fun j => by rw [ra]; exact r1 8 j (by decide) (by decide) (by decide) (by decide) (by decide)
  have q3' : ∀ j, c' (b + 6 + 3) j = R 9 j := fun j => by rw [ra]; exact r1 9 j (by decide) (by decide) (by decide) (by decide) (by decide)
  have w1 : ∀ j, c' (b + 10 + 1) j = R 11 j := fun j => by rw [rb]; exact r1 11 j (by decide) (by decide) (by decide) (by decide) (by decide)
  have w2 : ∀ j, c' (b + 10 + 2) j = R 12 j := fun j => by rw [rb]; exact r1 12 j (by decide) (by decide) (by decide) (by decide) (by decide)
  have w3 : ∀ j, c' (b + 10 + 3) j = R 13 j := fun j => by rw [rb]; exact r1 13 j (by decide) (by decide) (by decide) (by decide) (by decide)
  have s1 : ∀ j, c' (b + 14 + 1) j = R 15 j := fun j => by rw [rc]; exact r1 15 j (by decide) (by decide) (by decide) (by decide) (by decide)
  have s2 : ∀ j, c' (b + 14 + 2) j = R 16 j := fun j => by rw [rc]; exact r1 16 j (by decide) (by decide) (by decide) (by decide) (by decide)
  have s3 : ∀ j, c' (b + 14 + 3) j = R 17 j := fun j => by rw [rc]; exact r1 17 j (by decide) (by decide) (by decide) (by decide) (by decide)
  have ep : ∀ p, ptn c' (b + 6) p = ptn R 6 p := fun p => by
    unfold ptn
    rw [r 6 3 (by unfold Tm; omega)]
    apply fo_congr
    intro k s _ _
    rw [q1, q2]
    rfl
  refine ⟨md_new S T80 hT W p3 p4 X Q q3 eg e, hb, Q.f1, Q.f3, Q.f4, Q.f5, Q.f6, Q.f7, Q.f8, by rw [r0 0 (by decide) (by decide), Q.f0], r0 1 (by decide) (by decide), by rw [r0 2 (by decide) (by decide), Q.f2], r0 3 (by decide) (by decide), r0 4 (by decide) (by decide), r0 5 (by decide) (by decide), r 6 3 (by unfold Tm; omega), r 10 3 (by unfold Tm; omega), r 14 3 (by unfold Tm; omega), ?_, ?_, ?_, ?_, if_pos rfl, ?_, ?_, ?_, ?_, ?_, ?_, ?_, st, ?_, ⟨a2, m20⟩, by decide, fun a x y => by omega, fun a p x y => by omega, ⟨a4, m21⟩, by decide, fun a x y => by omega, fun a p x y => by omega, B, fun h => by omega, fun h => by omega, by omega⟩
  · intro p x y; rw [r1 1 p (by decide) (by decide) (by decide) (by decide) (by decide), Q.co p x y]
  · intro p x y; rw [r1 2 p (by decide) (by decide) (by decide) (by decide) (by decide), Q.ho p x y]; exact ⟨rfl, W.ho p x y⟩
  · intro i x y; rw [r1 3 i (by decide) (by decide) (by decide) (by decide) (by decide)]; exact (if_neg (by omega)).symm
  · intro i x y; show PM (if i = R 0 4 then owr (R 0 1) else R 3 i) (R 0 1); rw [if_neg (by omega)]; exact W.tp i x y
  · intro i k x y x' y'; show _ = dg (if i = R 0 4 then owr (R 0 1) else R 3 i) k; rw [if_neg (by omega)]; exact Q.tk i k x y x' y'
  · intro i x y; rw [q1, q2, q3']; exact W.qu i x y
  · intro i j x y y'; rw [q1, q2, q1, q2]; exact W.qd i j x y y'
  · intro p x y; rw [ep]; have := W.p; exact Q.fo p x (by omega)
  · intro k x y; have h := Q.wi k x y; have h' := W.wi k x y; rw [w1, w2, w3, h.1, h.2.1]; exact ⟨rfl, rfl, h'.1, h'.2, h.2.2⟩
  · intro k x y; have h := Q.un k x y; have h' := W.un k x y; rw [r1 4 k (by decide) (by decide) (by decide) (by decide) (by decide), r1 5 k (by decide) (by decide) (by decide) (by decide) (by decide), h.1, h.2]; exact ⟨rfl, h'.1, rfl, h'.2⟩
  · intro k x y; have h := Q.se k x y; have h' := W.se k x y; rw [s1, s2, s3, h.1, h.2.1]; exact ⟨rfl, rfl, h'.1, h'.2, h.2.2⟩
  · intro p x y; have h := sv p x y; have h' := W.ho p x y; rw [h.1, h.2]; exact ⟨rfl, h'⟩
section
variable (d : Nat) (P : Int → MM → Prop)
theorem l_t99 {G : MG} {c : MC} {T : Int} (X : TT G c T) (h3 : c 62 3 = T) (h16 : c 62 16 = 64) (l64 : gLn G 64 = 6) (hP : ∀ c', (∀ x y, x ≠ 64 → c' x y = c x y) → (∀ p, 0 ≤ p → p < 6 → c' 64 p = c (T + 2) p) → EvV (d + 9) mX12_reaches [mR 18 62, mI 0] (G, up (up c' 62 20 0) 62 21 0) (fun ν4 => 0 ≤ (62 : Int) ∧ 0 ≤ ((ν4.2) 62 3) ∧ EvI (d + 9) mX12_good [mR 18 62, mI ((ν4.2) ((ν4.2) 62 3) 3)] (ν4.1, ν4.2) (fun r5 ν5 => P r5 (ν5.1, ν5.2)))) : ∀ (j : Nat) (i : Int) (c0 : MC), 0 ≤ i → i + j = 6 → (∀ x y, x ≠ 64 → c0 x y = c x y) → (∀ p, 0 ≤ p → p < i → c0 64 p = c (T + 2) p) → At (d + 10) mX12_tube 99 [mR 18 62, MU, mI i] [] (G, c0) (QI P) := by
  have hT := X.n
  intro j
  induction j with
  | zero =>
    intro i c0 i0 hi f h64
    apply wp_X12_tube_99
    rw [if_neg (by omega)]
    refine ⟨by decide, ?_⟩
    rintro _ rfl
    refine ⟨by decide, ?_⟩
    rintro _ rfl
    exact hP c0 f (fun p a b => h64 p a (by omega))
  | succ j ih =>
    intro i c0 i0 hi f h64
    have e3 : c0 62 3 = T := by rw [f _ _ (by decide)]; exact h3
    have e16 : c0 62 16 = 64 := by rw [f _ _ (by decide)]; exact h16
    have e11 : c0 T 11 = T + 2 := by rw [f _ _ (by omega)]; exact X.t11
    apply wp_X12_tube_99
    simp only [e3, e16, e11, X.u2, l64, f (T + 2) i (by omega), w32i (show -2147483648 ≤ i + 1 by omega) (show i + 1 < 2147483648 by omega)]
    rw [if_pos (by omega)]
    refine ⟨by decide, by decide, by omega, ⟨by omega, i0, by omega⟩, ⟨by decide, i0, by omega⟩, ?_⟩
    rintro _ rfl
    refine ih _ _ (by omega) (by omega) (fun x y q => by rw [up_na q]; exact f x y q) (fun p a b => ?_)
    by_cases q : p = i
    · rw [q, up_eq]
    · rw [up_nj q]; exact h64 p a (by omega)
end
theorem hm_dg {c R : MC} {b : Int} (W : WF R) (h3 : c b 3 = R 0 3) (h2 : ∀ j, c (b + 2) j = R 2 j) : (0 ≤ hmS c b ∧ hmS c b < 262144) ∧ ∀ p, 0 ≤ p → p < R 0 3 → dg (hmS c b) p = R 2 p := by
  have hp := W.p
  have wa := W.a
  have h := pk_all (f := fun i => if i < R 0 3 then R 2 i else 0) (n := R 0 3) (by omega) (by omega) (fun k k0 k1 => by
    rw [if_pos k1]
    have := W.ho k k0 k1
    omega)
  have e : hmS c b = fo (fun i s => o_or s (o_shl (if i < R 0 3 then R 2 i else 0) (w32 (3 * i)))) (R 0 3).toNat 0 0 := by
    unfold hmS
    rw [h3]
    apply fo_congr
    intro k s k0 k1
    rw [if_pos (by omega), h2]
  rw [e]
  have hpw : (8 : Int) ^ (R 0 3).toNat ≤ 8 ^ 6 := by
    have := Nat.pow_le_pow_right (show 0 < 8 by omega) (show (R 0 3).toNat ≤ 6 by omega)
    exact_mod_cast this
  refine ⟨⟨h.1.1, Int.lt_of_lt_of_le h.1.2 hpw⟩, fun p p0 p1 => ?_⟩
  rw [h.2 p p0 p1, if_pos p1]
theorem k_tube (d : Nat) (G : MG) (c : MC) (a : Int) (H : IV G c) : EvI (d + 40) mX10_tube [mR 16 0, mI a] (G, c) (fun r1 ν1 => EvI (d + 40) mX12_tube [mR 18 62, mI a] (ν1.1, ν1.2) (fun r2 ν2 => K3 G r1 r2 ν2)) := by
  obtain ⟨hr, t, z, S, V⟩ := H
  have H0 : IV0 G c := ⟨t, z, S, V⟩
  have ht := S.t; have tp := S.tp; have g80 := S.g; have hz := S.z
  have ref : (a < 0 ∨ c 19 2 < a) → EvI (d + 40) mX12_tube [mR 18 62, mI a] (G, up c 0 6 2) (fun r2 ν2 => K3 G (-1) r2 ν2) := fun h => by
    refine ev_X12_tube (d + 39) _ G _ 62 a (by decide) ⟨by decide, ?_⟩
    rintro _ rfl
    by_cases h1 : a < 0
    · rw [if_pos h1, q_mrefused]
      exact ⟨rfl, IV.q H0 (by decide) (agr_0 _), Nat.le_add_right _ _, Nat.le_add_right _ _⟩
    · rw [if_neg h1, up_nj (show (6 : Int) ≠ 0 by decide), up_na (show (62 : Int) ≠ 0 by decide), if_pos (by omega), q_mrefused]
      exact ⟨by decide, rfl, IV.q H0 (by decide) (agr_0 _), Nat.le_add_right _ _, Nat.le_add_right _ _⟩
  refine ev_X10_tube (d + 39) _ G c 0 a (by decide) ?_
  by_cases h1 : a < 0
  · rw [if_pos h1, q_refused]
    exact ref (Or.inl h1)
  · rw [if_neg h1, S.p2]
    refine ⟨by decide, by decide, ?_⟩
    by_cases h2 : c 19 2 < a
    · rw [if_pos h2, q_refused]
      exact ref (Or.inr h2)
    · rw [if_neg h2]
      refine ⟨by decide, ?_⟩
      refine f_read (d + 32) _ S (by omega) (by omega) (fun v c1 hE => ?_)
      have hb : 25 - t = 1 ∨ 25 - t = 24 := by omega
      obtain ⟨b, hbt⟩ : ∃ b, b = 25 - t := ⟨_, rfl⟩
      rw [← hbt] at hE hb
      have wz := wf_00 (c := c) (b := b)
      have z0 : ∀ j, 0 ≤ j → j < 6 → R00 c b 0 j = 0 := fun j x y => by unfold R00; rw [if_neg (by decide), if_neg (by decide), if_neg (by decide), if_pos ⟨rfl, x, y⟩]
      have z6 : R00 c b 6 3 = 0 := by unfold R00; rw [if_neg (by decide), if_neg (by decide), if_neg (by decide), if_neg (by decide), if_pos (by omega)]
      have z10 : R00 c b 10 3 = 0 := by unfold R00; rw [if_neg (by decide), if_neg (by decide), if_neg (by decide), if_neg (by decide), if_pos (by omega)]
      have z14 : R00 c b 14 3 = 0 := by unfold R00; rw [if_neg (by decide), if_neg (by decide), if_neg (by decide), if_neg (by decide), if_pos (by omega)]
      have z20 : R00 c b 20 0 = 0 := by unfold R00; rw [if_pos rfl]
      have fr1 : ∀ {m : MC} (C : CX G (up c 19 2 0) m b (c 21) a) x j, ¬ (x = 19 ∧ 2 ≤ j) → x ≠ 22 → x ≠ 23 → ¬ (b ≤ x ∧ x ≤ b + 17) → m x j = c x j := fun C x j q1 q2 q3 q4 => by rw [C.2.2.2 x j (by omega) q2 q3 q4, up_o (by omega)]
      have e372 : ∀ {m : MC} (C : CX G (up c 19 2 0) m b (c 21) a), m 19 2 = 0 := fun C => by rw [C.2.2.2 19 2 (by omega) (by decide) (by decide) (by omega), up_eq]
      have htx : ∀ j, 0 ≤ j → j < a → c 63 j = c 21 j ∧ -128 ≤ c 21 j ∧ c 21 j < 128 := fun j x y => by
        have := S.tb j x (by omega)
        exact ⟨this.1.symm, by omega, by omega⟩
      cases hrr : readF (c 21) a (a + 1).toNat (sk (c 21) a 0) (R00 c b) with
      | inl x =>
        obtain ⟨f, pl⟩ := x
        rw [hrr] at hE
        obtain ⟨rfl, F, fz⟩ := hE
        have C := F.1
        rw [if_pos rfl, q_refused]
        dsimp only
        have o1 : ∀ x j, ¬ (x = 19 ∧ 2 ≤ j) → x ≠ 22 → x ≠ 23 → ¬ (b ≤ x ∧ x ≤ b + 17) → ¬ (x = 0 ∧ j = 6) → up c1 0 6 4 x j = c x j := fun x j q1 q2 q3 q4 q5 => by rw [up_o q5]; exact fr1 C x j q1 q2 q3 q4
        refine f_mtube (d + 30) _ (T := gTop G) (tx := c 21) (R := R00 c b) rfl g80 (by rw [o1 _ _ (by omega) (by omega) (by omega) (by omega) (by omega)]; exact S.m5) (by rw [o1 _ _ (by omega) (by omega) (by omega) (by omega) (by omega)]; omega) (by omega) (by omega) S.n63 (fun j x y => by rw [o1 _ _ (by omega) (by omega) (by omega) (by omega) (by omega)]; exact htx j x y) wz z0 z6 z10 z14 z20 (fun G' c' f' pl' hrr' gg fr h6 h12 h13 hf => ?_) (fun G' c' p R' hrr' => ?_) (fun f' pl' hrr' => ?_)
        · rw [hrr] at hrr'
          simp only [Sum.inl.injEq, Prod.mk.injEq] at hrr'
          obtain ⟨rfl, rfl⟩ := hrr'
          obtain ⟨g1, g2, g3, g4⟩ := gg
          have o3 : ∀ x j, x < gTop G → ¬ (x = 62 ∧ (j ≤ 2 ∨ j = 4 ∨ (6 ≤ j ∧ j ≤ 15))) → up (up c' 62 1 4) 62 2 pl x j = up c1 0 6 4 x j := fun x j q q' => by rw [up_o (by omega), up_o (by omega)]; exact fr x j q (by omega)
          have o4 : ∀ x j, KQ b (gTop G) x j → up (up c' 62 1 4) 62 2 pl x j = c x j := fun x j q => by
            unfold KQ at q
            rw [o3 x j q.1 (by omega), o1 x j (by omega) (by omega) (by omega) (by omega) (by omega)]
          have e62 : ∀ j, j ≠ 1 → j ≠ 2 → up (up c' 62 1 4) 62 2 pl 62 j = c' 62 j := fun j q q' => by rw [up_nj q', up_nj q]
          have k07 : up (up c' 62 1 4) 62 2 pl 0 6 = 4 := by rw [o3 _ _ (by omega) (by omega), up_eq]
          have k37 : ∀ j, up (up c' 62 1 4) 62 2 pl 19 j = c1 19 j := fun j => by rw [o3 _ _ (by omega) (by omega), up_na (by decide)]
          have tpb : TPs G' (up (up c' 62 1 4) 62 2 pl) b := (C.2.1.kg g80 g4).tm (fun x j q q' _ => by rw [o3 _ _ (by omega) (by omega), up_na (by omega)])
          have tpt : TPs G' (up (up c' 62 1 4) 62 2 pl) t := (S.told.kg g80 g4).tm (fun x j q q' _ => o4 x j (by unfold KQ; omega))
          have SS : SH G' (up (up c' 62 1 4) 62 2 pl) t 0 := by
            refine S.ks ht (fun x j q => ?_) g4 (by omega) ?_ ?_ ?_ ?_ ?_ ?_ ?_ ?_ ?_
            · unfold KS at q
              by_cases q37 : x = 19
              · subst q37
                rw [k37]
                rcases (show j = 0 ∨ j = 1 ∨ j = 8 ∨ j = 9 by omega) with rfl | rfl | rfl | rfl
                · rw [C.1.p0, S.r0]
                · rw [C.1.p1, S.r1]
                · rw [C.1.p8, S.r8]
                · rw [C.1.p9, S.r9]
              · by_cases q38 : x = 20
                · subst q38
                  rw [o3 _ _ (by omega) (by omega), o1 _ _ (by omega) (by omega) (by omega) (by omega) (by omega)]
                · exact o4 x j (by unfold KQ; omega)
            · rw [o4 _ _ (by unfold KQ; omega)]; exact S.p0
            · rw [k37, C.2.2.1]; exact hbt
            · rcases ht with q | q
              · rw [q] at tpt; exact tpt
              · rw [show b = 1 by omega] at tpb; exact tpb
            · rcases ht with q | q
              · rw [show b = 24 by omega] at tpb; exact tpb
              · rw [q] at tpt; exact tpt
            · rw [o4 _ _ (by unfold KQ; omega)]; exact S.k1
            · rw [o4 _ _ (by unfold KQ; omega)]; exact S.k2
            · rw [k37]; exact e372 C
            · rw [e62 _ (by decide) (by decide)]; exact h6
            · rw [k37, e62 _ (by decide) (by decide), h12]; exact F.2.1
          refine ⟨rfl, ⟨⟨?_, ?_⟩, t, 0, SS, ?_⟩, (by show gCl G' ≤ gCl G + 14; omega), g3⟩
          · dsimp only; rw [k07, up_nj (by decide), up_eq]
          · dsimp only; rw [if_pos k07, up_eq, k37]; exact F.2.2.symm
          · rcases V with V | ⟨T, n, m, u, q, w, x, s, ka, ki, g, V⟩
            · exact Or.inl (V.kq (b := b) (W := gTop G) (by omega) g80 o4)
            · exact Or.inr ⟨T, n, m, u, q, w, x, s, ka, ki, g, V.kq (by omega) o4 g4 (by show gTop G ≤ gTop G'; omega)⟩
        · rw [hrr] at hrr'; cases hrr'
        · rw [hrr] at hrr'
          simp only [Sum.inl.injEq, Prod.mk.injEq] at hrr'
          rw [← hrr'.1]; exact fz
      | inr x =>
        obtain ⟨p, R⟩ := x
        rw [hrr] at hE
        obtain ⟨rfl, C, W⟩ := hE
        obtain ⟨_, p3, p4⟩ := read_ok _ _ _ _ _ (sk_rg (show 0 ≤ a by omega)).2 wz hrr
        have X1 := C.1
        have wp := W.p; have wt := W.t; have wa := W.a
        rw [if_neg (by decide)]
        have k0 : c1 0 0 = t := by rw [fr1 X1 _ _ (by omega) (by omega) (by omega) (by omega)]; exact S.p0
        have kr : c1 0 1 = 19 := by rw [fr1 X1 _ _ (by omega) (by omega) (by omega) (by omega)]; exact S.p2
        have k4 : c1 0 3 = 45 := by rw [fr1 X1 _ _ (by omega) (by omega) (by omega) (by omega)]; exact S.p4
        have k5 : c1 0 4 = 52 := by rw [fr1 X1 _ _ (by omega) (by omega) (by omega) (by omega)]; exact S.p5
        have k3 : c1 0 2 = 42 := by rw [fr1 X1 _ _ (by omega) (by omega) (by omega) (by omega)]; exact S.p3
        dsimp only
        rw [k0, kr]
        refine ⟨by decide, by decide, ?_⟩
        refine ev_X5_changeFor (d + 38) _ G c1 19 t (by decide) ⟨by decide, by decide, ?_⟩
        rintro _ rfl
        dsimp only
        rw [X1.2.2.1]
        refine ⟨by decide, ?_⟩
        rintro _ rfl
        rw [up_nj (show (3 : Int) ≠ 0 by decide), up_na (show (0 : Int) ≠ 19 by decide), k4]
        refine ⟨by decide, ⟨by decide, by decide⟩, by decide, ?_⟩
        rintro _ rfl
        rw [up_na (show (0 : Int) ≠ 45 by decide), up_nj (show (4 : Int) ≠ 0 by decide), up_na (show (0 : Int) ≠ 19 by decide), k5]
        refine ⟨by decide, ⟨by decide, by decide⟩, by decide, ?_⟩
        rintro c8 hc8
        have hc8' : c8 = up (up (up (up c1 19 11 t) 0 0 b) 45 0 0) 52 0 0 := hc8
        clear hc8
        have o8 : ∀ x j, ¬ ((x = 0 ∧ j = 0) ∨ (x = 19 ∧ j = 11)) → ¬ ((x = 45 ∨ x = 52) ∧ j = 0) → c8 x j = c1 x j := fun x j q q' => by rw [hc8', up_o (by omega), up_o (by omega), up_o (by omega), up_o (by omega)]
        have m0 : c8 0 0 = b := by rw [hc8', up_na (by decide), up_na (by decide), up_eq]
        have m1 : c8 19 11 = t := by rw [hc8', up_na (by decide), up_na (by decide), up_na (by decide), up_eq]
        have m45 : c8 45 0 = 0 := by rw [hc8', up_na (by decide), up_eq]
        have m52 : c8 52 0 = 0 := by rw [hc8', up_eq]
        clear hc8'
        have TP8 : TPs G c8 b := X1.2.1.tm (fun x j q q' _ => o8 x j (by omega) (by omega))
        have at8 : ∀ x j, Tm x j → c8 (b + x) j = R x j := fun x j q => by
          have q' := q
          unfold Tm at q'
          rw [o8 _ _ (by omega) (by omega)]; exact C.at q
        have a8 : ∀ j, 0 ≤ j → j < 6 → c8 b j = R 0 j := fun j x y => by
          have := at8 0 j (by unfold Tm; omega)
          rw [Int.add_zero] at this
          exact this
        have Bd := W.bd
        have TL8 : TLs G c8 b := TP8.tl (by rw [a8 _ (by decide) (by decide)]; exact Bd.m) (by rw [a8 _ (by decide) (by decide)]; exact Bd.sl) (by rw [a8 _ (by decide) (by decide)]; exact Bd.h) (by rw [a8 _ (by decide) (by decide)]; exact Bd.p) (by rw [a8 _ (by decide) (by decide)]; exact Bd.t) (by rw [a8 _ (by decide) (by decide)]; exact Bd.x) (by rw [at8 _ _ (by unfold Tm; omega)]; exact Bd.q) (by rw [at8 _ _ (by unfold Tm; omega)]; exact Bd.w) (by rw [at8 _ _ (by unfold Tm; omega)]; exact Bd.s)
        have m3 : c8 0 2 = 42 := by rw [o8 _ _ (by omega) (by omega)]; exact k3
        obtain ⟨hm1, hm2⟩ := hm_dg W (a8 3 (by decide) (by decide)) (fun j => at8 2 j (by unfold Tm; omega))
        rw [m0, m3, q_homeStand _ _ _ _ b TL8]
        generalize hmS c8 b = hh at hm1 hm2
        refine ⟨by decide, by decide, ?_⟩
        refine ev_X8_begin (d + 38) _ G c8 42 hh (by decide) ⟨by decide, ?_⟩
        rintro _ rfl
        refine ⟨by decide, ?_⟩
        rintro _ rfl
        refine ⟨by decide, ?_⟩
        rintro c9 hc9
        have hc9' : c9 = up (up (up c8 42 0 hh) 42 2 0) 42 4 0 := hc9
        clear hc9
        have o9 : ∀ x j, ¬ (x = 42 ∧ (j = 0 ∨ j = 2 ∨ j = 4)) → c9 x j = c8 x j := fun x j q => by rw [hc9', up_o (by omega), up_o (by omega), up_o (by omega)]
        have n0 : c9 42 0 = hh := by rw [hc9', up_nj (by decide), up_nj (by decide), up_eq]
        have n2 : c9 42 2 = 0 := by rw [hc9', up_nj (by decide), up_eq]
        have n4 : c9 42 4 = 0 := by rw [hc9', up_eq]
        clear hc9'
        dsimp only
        rw [o9 0 0 (by omega), m0, o9 b 3 (by omega), a8 3 (by decide) (by decide), q_fine]
        refine ⟨by decide, by omega, ?_⟩
        dsimp only
        have oA : ∀ x j, ¬ (x = 19 ∧ 2 ≤ j) → x ≠ 22 → x ≠ 23 → ¬ (b ≤ x ∧ x ≤ b + 17) → ¬ (x = 0 ∧ (j = 0 ∨ j = 6)) → ¬ ((x = 45 ∨ x = 52) ∧ j = 0) → ¬ (x = 42 ∧ (j = 0 ∨ j = 2 ∨ j = 4)) → up c9 0 6 0 x j = c x j := fun x j q1 q2 q3 q4 q5 q6 q7 => by rw [up_o (by omega), o9 x j q7, o8 x j (by omega) (by omega)]; exact fr1 X1 x j q1 q2 q3 q4
        refine f_mtube (d + 30) _ (T := gTop G) (tx := c 21) (R := R00 c b) rfl g80 (by rw [oA _ _ (by omega) (by omega) (by omega) (by omega) (by omega) (by omega) (by omega)]; exact S.m5) (by rw [oA _ _ (by omega) (by omega) (by omega) (by omega) (by omega) (by omega) (by omega)]; omega) (by omega) (by omega) S.n63 (fun j x y => by rw [oA _ _ (by omega) (by omega) (by omega) (by omega) (by omega) (by omega) (by omega)]; exact htx j x y) wz z0 z6 z10 z14 z20 (fun G' c' f' pl' hrr' => ?_) (fun G' c' p' R' hrr' gg fr h6 h12 X Q => ?_) (fun f' pl' hrr' => ?_)
        · rw [hrr] at hrr'; cases hrr'
        · rw [hrr] at hrr'
          simp only [Sum.inr.injEq, Prod.mk.injEq] at hrr'
          obtain ⟨rfl, rfl⟩ := hrr'
          obtain ⟨g1, g2, g3, g4⟩ := gg
          generalize hT : gTop G = T at *
          have oB : ∀ x j, x < T → ¬ (x = 62 ∧ (j = 0 ∨ j = 3 ∨ j = 4 ∨ (6 ≤ j ∧ j ≤ 15))) → up c' 62 3 T x j = up c9 0 6 0 x j := fun x j q q' => by rw [up_o (by omega)]; exact fr x j q (by omega)
          have X3 : TT G' (up c' 62 3 T) T := X.fr (fun j _ _ _ => up_na (by omega))
          have Q3 : RT R (up c' 62 3 T) T := Q.fr (fun x j q q' => up_na (by omega))
          refine l_t99 (d + 30) _ X3 up_eq (by rw [oB _ _ (by omega) (by omega), oA _ _ (by omega) (by omega) (by omega) (by omega) (by omega) (by omega) (by omega)]; exact S.m16) (by rw [g4 _ (by omega)]; exact S.n64) (fun cD fD h64 => ?_) 6 0 _ (by decide) (by decide) (fun _ _ _ => rfl) (fun p x y => by omega)
          have X4 : TT G' (up (up cD 62 20 0) 62 21 0) T := X3.fr (fun j _ _ _ => by rw [up_na (by omega), up_na (by omega), fD _ _ (by omega)])
          have Q4 : RT R (up (up cD 62 20 0) 62 21 0) T := Q3.fr (fun x j q q' => by rw [up_na (by omega), up_na (by omega), fD _ _ (by omega)])
          have oC : ∀ x j, x < T → x ≠ 64 → ¬ (x = 62 ∧ (j = 0 ∨ j = 3 ∨ j = 4 ∨ (6 ≤ j ∧ j ≤ 15) ∨ j = 20 ∨ j = 21)) → up (up cD 62 20 0) 62 21 0 x j = up c9 0 6 0 x j := fun x j q q' q'' => by rw [up_o (by omega), up_o (by omega), fD _ _ q', oB x j q (by omega)]
          have e3 : up (up cD 62 20 0) 62 21 0 62 3 = T := by rw [up_nj (by decide), up_nj (by decide), fD _ _ (by decide), up_eq]
          have o62 : ∀ x j, x = 62 ∧ (j = 5 ∨ (16 ≤ j ∧ j ≤ 19) ∨ (22 ≤ j ∧ j ≤ 27) ∨ j = 29 ∨ j = 33 ∨ (35 ≤ j ∧ j ≤ 37)) → up (up cD 62 20 0) 62 21 0 x j = c x j := fun x j q => by rw [oC x j (by omega) (by omega) (by omega), oA _ _ (by omega) (by omega) (by omega) (by omega) (by omega) (by omega) (by omega)]
          have Md : MDs G' (up (up cD 62 20 0) 62 21 0) T := md_new S g80 hT W p3 p4 X4 Q4 e3 g4 o62
          have hg : ∀ i, 0 ≤ i → i < R 0 4 → PM ((fun i => if i = R 0 4 then owr (R 0 1) else R 3 i) i) (R 0 1) := fun i x y => by
            show PM (if i = R 0 4 then owr (R 0 1) else R 3 i) (R 0 1)
            rw [if_neg (by omega)]; exact W.tp i x y
          have Dm : TM (up (up cD 62 20 0) 62 21 0) T (R 0 1) (R 0 4) (fun i => if i = R 0 4 then owr (R 0 1) else R 3 i) := fun i k x y x' y' => by
            unfold sld
            rw [Q4.f4, if_pos y, Q4.tk i k x y x' y']
            show _ = dg (if i = R 0 4 then owr (R 0 1) else R 3 i) k
            rw [if_neg (by omega)]
          refine f_reaches (d + 37) _ _ Md Q4.f1 Dm hg (by omega) (by omega) (Or.inl ⟨rfl, Q4.f4.symm⟩) (fun cE B fE => ?_)
          have eE : ∀ x j, T ≤ x → x ≤ T + 13 → cE x j = up (up cD 62 20 0) 62 21 0 x j := fun x j q q' => fE x j (by omega) (by omega)
          have E3 : cE 62 3 = T := by rw [fE _ _ (by omega) (by omega)]; exact e3
          have ET3 : cE T 3 = R 0 3 := by rw [eE _ _ (by omega) (by omega)]; exact Q4.f3
          dsimp only
          rw [E3, ET3, q_mgood]
          refine ⟨by decide, by omega, ?_⟩
          have oF : ∀ x j, x < T → x ≠ 64 → ¬ (68 ≤ x ∧ x ≤ 73) → ¬ (x = 62 ∧ (j ≤ 4 ∨ (6 ≤ j ∧ j ≤ 15) ∨ j = 20 ∨ j = 21 ∨ j = 28)) → mtr cE 0 x j = up c9 0 6 0 x j := fun x j q q' q'' q3 => by rw [mtr_o (by omega), fE _ _ (by omega) (by omega), oC x j q q' (by omega)]
          have eT : ∀ x j, T ≤ x → x ≤ T + 13 → mtr cE 0 x j = up (up cD 62 20 0) 62 21 0 x j := fun x j q q' => by rw [mtr_o (by omega), eE x j q q']
          have X5 : TT G' (mtr cE 0) T := X4.fr (fun j _ _ _ => eT _ _ (by omega) (by omega))
          have Q5 : RT R (mtr cE 0) T := Q4.fr eT
          have f64 : ∀ p, 0 ≤ p → p < 6 → mtr cE 0 64 p = up c' 62 3 T (T + 2) p := fun p x y => by rw [mtr_o (by omega), fE _ _ (by omega) (by omega), up_na (by decide), up_na (by decide)]; exact h64 p x y
          have f62 : ∀ j, j ≠ 1 → j ≠ 2 → j ≠ 28 → mtr cE 0 62 j = up (up cD 62 20 0) 62 21 0 62 j := fun j q q' q'' => by rw [mtr_o (by omega), fE _ _ (by omega) (by omega)]
          have f6 : mtr cE 0 62 6 = 0 := by rw [f62 _ (by decide) (by decide) (by decide), up_nj (by decide), up_nj (by decide), fD _ _ (by decide), up_nj (by decide)]; exact h6
          have f12 : mtr cE 0 62 12 = 0 := by rw [f62 _ (by decide) (by decide) (by decide), up_nj (by decide), up_nj (by decide), fD _ _ (by decide), up_nj (by decide)]; exact h12
          have f20 : mtr cE 0 62 20 = 0 := by rw [f62 _ (by decide) (by decide) (by decide), up_nj (by decide), up_eq]
          have f21 : mtr cE 0 62 21 = 0 := by rw [f62 _ (by decide) (by decide) (by decide), up_eq]
          have k37 : ∀ j, j ≠ 11 → mtr cE 0 19 j = c1 19 j := fun j hj => by rw [oF _ _ (by omega) (by omega) (by omega) (by omega), up_na (by decide), o9 _ _ (by omega), o8 _ _ (by omega) (by omega)]
          have rb : ∀ x j, Tm x j → mtr cE 0 (b + x) j = R x j := fun x j q => by
            have q' := q
            unfold Tm at q'
            rw [oF _ _ (by omega) (by omega) (by omega) (by omega), up_na (by omega), o9 _ _ (by omega)]
            exact at8 x j q
          have oG : ∀ x j, x < T → x ≠ 64 → ¬ (68 ≤ x ∧ x ≤ 73) → ¬ (x = 62 ∧ (j ≤ 4 ∨ (6 ≤ j ∧ j ≤ 15) ∨ j = 20 ∨ j = 21 ∨ j = 28)) → ¬ (x = 19 ∧ 2 ≤ j) → x ≠ 22 → x ≠ 23 → ¬ (b ≤ x ∧ x ≤ b + 17) → ¬ (x = 0 ∧ (j = 0 ∨ j = 6)) → ¬ ((x = 45 ∨ x = 52) ∧ j = 0) → ¬ (x = 42 ∧ (j = 0 ∨ j = 2 ∨ j = 4)) → mtr cE 0 x j = c x j := fun x j q1 q2 q3 q4 q5 q6 q7 q8 q9 q10 q11 => by rw [oF x j q1 q2 q3 q4, oA x j q5 q6 q7 q8 q9 q10 q11]
          have tpb : TPs G' (mtr cE 0) b := (TP8.kg (by omega) (by rw [hT]; exact g4)).tm (fun x j q q' _ => by rw [oF _ _ (by omega) (by omega) (by omega) (by omega), up_na (by omega), o9 _ _ (by omega)])
          have tpt : TPs G' (mtr cE 0) t := (S.told.kg (by omega) (by rw [hT]; exact g4)).tm (fun x j q q' _ => oG x j (by omega) (by omega) (by omega) (by omega) (by omega) (by omega) (by omega) (by omega) (by omega) (by omega) (by omega))
          have f45 : mtr cE 0 45 0 = 0 := by rw [oF _ _ (by omega) (by omega) (by omega) (by omega), up_na (by decide), o9 _ _ (by omega)]; exact m45
          have f52 : mtr cE 0 52 0 = 0 := by rw [oF _ _ (by omega) (by omega) (by omega) (by omega), up_na (by decide), o9 _ _ (by omega)]; exact m52
          have f42 : ∀ j, mtr cE 0 42 j = c9 42 j := fun j => by rw [oF _ _ (by omega) (by omega) (by omega) (by omega), up_na (by decide)]
          have f07 : mtr cE 0 0 6 = 0 := by rw [oF _ _ (by omega) (by omega) (by omega) (by omega), up_eq]
          have SS : SH G' (mtr cE 0) b 0 := by
            refine S.ks hb (fun x j q => ?_) (by rw [hT]; exact g4) (by omega) ?_ ?_ ?_ ?_ (Or.inl f45) (Or.inl f52) ?_ f6 ?_
            · unfold KS at q
              by_cases q37 : x = 19
              · subst q37
                rw [k37 _ (by omega)]
                rcases (show j = 0 ∨ j = 1 ∨ j = 8 ∨ j = 9 by omega) with rfl | rfl | rfl | rfl
                · rw [X1.1.p0, S.r0]
                · rw [X1.1.p1, S.r1]
                · rw [X1.1.p8, S.r8]
                · rw [X1.1.p9, S.r9]
              · exact oG x j (by omega) (by omega) (by omega) (by omega) (by omega) (by omega) (by omega) (by omega) (by omega) (by omega) (by omega)
            · rw [oF _ _ (by omega) (by omega) (by omega) (by omega), up_nj (by decide), o9 _ _ (by omega)]; exact m0
            · rw [oF _ _ (by omega) (by omega) (by omega) (by omega), up_na (by decide), o9 _ _ (by omega), m1]; omega
            · rcases hb with q | q
              · rw [q] at tpb; exact tpb
              · rw [show t = 1 by omega] at tpt; exact tpt
            · rcases hb with q | q
              · rw [show t = 24 by omega] at tpt; exact tpt
              · rw [q] at tpb; exact tpb
            · rw [k37 _ (by decide)]; exact e372 X1
            · rw [k37 _ (by decide), f12]; exact C.2.2.1.1
          have B5 : MBT (mtr cE 0) (R 0 1) (bfs (R 0 1) (fun i => if i = R 0 4 then owr (R 0 1) else R 3 i) (R 0 4)) := B.ki (ki_agr (agr_mtr _ _))
          have TVn := tv_new S hb g80 hT W p3 p4 X5 Q5 (by rw [f62 _ (by decide) (by decide) (by decide)]; exact e3) g4 (fun x j q => by
            obtain ⟨rfl, q⟩ := q
            rw [f62 _ (by omega) (by omega) (by omega)]
            exact o62 62 j ⟨rfl, q⟩) rb (by rw [f42, n0]; exact hm1) (fun p x y => by
            rw [f42, n0, f64 p x (by omega), Q3.ho p x y]
            exact ⟨hm2 p x y, rfl⟩) (by rw [f42]; exact n2) (by rw [f42]; exact n4) f20 f21 f45 f52 g1 B5
          refine ⟨rfl, ⟨⟨?_, ?_⟩, b, 0, SS, Or.inr ⟨_, _, _, _, _, _, _, _, _, _, _, TVn⟩⟩, (by show gCl G' ≤ gCl G + 14; omega), g3⟩
          · dsimp only; rw [f07]; unfold mtr; rw [up_nj (by decide), up_eq]
          · dsimp only; rw [if_neg (by rw [f07]; decide)]; unfold mtr; rw [up_eq]
        · rw [hrr] at hrr'; cases hrr'
