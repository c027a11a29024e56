/-! the reference's lines, on -/
section
variable (d : Nat) (P : Int → MM → Prop) (P0 : MM → Prop) {G : MG} {c0 c R : MC} {T e p f pl : Int} {tx : Int → Int}
theorem lo_t22 (M : MO G c0 c T tx e f pl) (y s k : Int) (hP : P0 (G, c)) : At (d + 6) mX12_readTurn 22 [mR 18 62, mL y, MU, mI s, mI k, MU] [] (G, c) (QV P0) := by
  have hT := M.1.2.1.n
  apply wp_X12_readTurn_22
  rw [M.1.2.2.1]
  refine ⟨by decide, by omega, ?_⟩
  split
  · rw [if_pos M.2.1, if_pos M.2.1]
    exact ⟨by decide, by decide, hP⟩
  · rw [if_pos M.2.1]
    exact ⟨by decide, hP⟩
theorem lo_t80 (M : MO G c0 c T tx e f pl) (y s k v : Int) (hP : P0 (G, c)) : At (d + 6) mX12_readTurn 80 [mR 18 62, mL y, MU, mI s, mI k, mI v] [] (G, c) (QV P0) := by
  apply wp_X12_readTurn_80
  rw [if_pos M.2.1, o_goes _ _ M]
  exact ⟨by decide, lo_t22 d P0 M y _ _ hP⟩
theorem m_t22 {v y : Int} (W : WF R) (ht3 : R 0 4 ≤ 2) (hn2 : 2 ≤ R 0 1) (hv : Nm v y) : ∀ (j : Nat) (k p ch us : Int) (c : MC), 0 ≤ k → k + j = R 0 1 → MS G c0 c T tx e p R → TF (R 0 1) k ch us → (∀ i, 0 ≤ i → i < k → c (T + 4) (6 * R 0 4 + i) = dg ch i) → (∀ c', ME G c0 T tx e (slsF tx e (R 0 1) (nmU R v (-1)) j p k ch us) c' → P0 (G, c')) → At (d + 6) mX12_readTurn 22 [mR 18 62, mL y, MU, mI us, mI k, MU] [] (G, c) (QV P0) := by
  have hsl := W.bd.sl; have hn := W.n; have hp := W.p; have ht := W.t
  intro j
  induction j with
  | zero =>
    intro k p ch us c k0 hk M tf hch hP
    have hT := M.1.2.1.n
    simp only [slsF] at hP
    apply wp_X12_readTurn_22
    rw [M.1.2.2.1, M.2.2.2.f1, if_neg (by omega), if_neg M.n5, M.2.2.2.f4]
    refine ⟨by decide, by omega, by decide, by decide, by omega, ?_⟩
    refine f_names (d + 4) _ M.z (R 20 0) y 1 (R 0 4) M.2.2.2.f9 (by omega) (by omega) (fun Z0 => ?_)
    obtain ⟨n1, n2, n3, n4, n5⟩ := nmC_e (c := c) (T := T) (n := R 20 0) (y := y) (s := 1) (k := R 0 4)
    have e4 : nmC c T (R 20 0) y 1 (R 0 4) T 4 = R 0 4 := by rw [n4, if_neg (by decide)]; exact M.2.2.2.f4
    dsimp only
    simp only [Z0.1.2.2.1, e4, w32i (show -2147483648 ≤ R 0 4 + 1 by omega) (show R 0 4 + 1 < 2147483648 by omega)]
    refine ⟨by decide, by omega, by omega, ?_⟩
    rintro _ rfl
    have Z1 := Z0.uT (a := T) (j := 4) (v := R 0 4 + 1) (by omega) (by omega)
    apply hP
    rw [nmU_o (show (0 : Int) ≤ 17 by decide)]
    exact Z1.s (rt_turn M.2.2.2 W hv (fun k a b => hch k a (by omega)) (by omega))
  | succ j ih =>
    intro k p ch us c k0 hk M tf hch hP
    have hT := M.1.2.1.n
    simp only [slsF] at hP
    apply wp_X12_readTurn_22
    rw [M.1.2.2.1, M.2.2.2.f1, if_pos (by omega), if_neg M.n5, w32i (show -2147483648 ≤ R 0 1 - 1 by omega) (by omega)]
    refine ⟨by decide, by omega, by decide, by decide, by omega, ?_⟩
    refine m_whole (d + 3) _ M W 0 (R 0 1 - 1) (fun h4 => ?_) (fun h4 c4 M4 => ?_)
    · have v4 := btw_0 h4
      rw [if_pos h4] at hP
      refine ⟨by decide, ?_⟩
      rw [if_neg M.n5, q_mbit]
      unfold mbt
      by_cases h5 : o_and (o_shr us (va tx e p)) 1 = 1
      · rw [if_pos h5] at hP
        rw [if_pos h5, if_neg (by decide)]
        exact m_flaw (d + 4) _ M W 3 (fun c' M' => lo_t80 d P0 M' _ _ _ _ (hP _ M'))
      · rw [if_neg h5] at hP
        rw [if_neg h5, if_pos rfl]
        apply wp_X12_readTurn_80
        simp only [M.1.2.2.1, M.2.2.2.f4, M.1.2.1.t13, M.1.2.1.u4, w32i (show -2147483648 ≤ 6 * R 0 4 by omega) (show 6 * R 0 4 < 2147483648 by omega), w32i (show -2147483648 ≤ 6 * R 0 4 + k by omega) (show 6 * R 0 4 + k < 2147483648 by omega), w32i (show -2147483648 ≤ k + 1 by omega) (show k + 1 < 2147483648 by omega)]
        rw [if_neg M.n5]
        refine ⟨by decide, by decide, by omega, by decide, by omega, ⟨by omega, by omega, by omega⟩, ?_⟩
        rintro _ rfl
        have Z1 := M.z.uT (a := T + 4) (j := 6 * R 0 4 + k) (v := va tx e p) (by omega) (by omega)
        have RT1 : RT R (up c (T + 4) (6 * R 0 4 + k) (va tx e p)) T := by
          have h := M.2.2.2
          have eT : ∀ j, up c (T + 4) (6 * R 0 4 + k) (va tx e p) T j = c T j := fun j => up_na (by omega)
          have eo : ∀ a j, a ≠ 4 → up c (T + 4) (6 * R 0 4 + k) (va tx e p) (T + a) j = c (T + a) j := fun a j q => up_na (by omega)
          unfold RT
          simp only [eT, eo 1 _ (by decide), eo 2 _ (by decide), eo 3 _ (by decide), eo 5 _ (by decide), eo 6 _ (by decide), eo 7 _ (by decide), eo 8 _ (by decide), eo 9 _ (by decide), eo 10 _ (by decide), eo 11 _ (by decide), eo 12 _ (by decide), eo 13 _ (by decide)]
          exact ⟨h.f0, h.f1, h.f2, h.f3, h.f4, h.f5, h.f6, h.f7, h.f8, h.f9, h.co, h.ho, fun i k' a b a' b' => by rw [up_nj (by omega)]; exact h.tk i k' a b a' b', h.fo, h.wi, h.sh, h.un, h.se, h.be, h.nm⟩
        have M1 := Z1.s RT1
        have w2 := (wth_all tf.1.1 tf.1.2 k0 (show k < 6 by omega) v4.2.1 (show va tx e p < 8 by omega)).2
        refine m_goesF (d + 3) _ M1 (fun c2 M2 F => ?_)
        refine ih _ _ _ _ _ (by omega) (by omega) M2 (tf.s (by omega) k0 (by omega) v4.2 h5) (fun i a b => ?_) hP
        dsimp only
        rw [F _ _ (by omega), w2 i a (by omega)]
        by_cases q : i = k
        · rw [if_pos q, q, up_eq]
        · rw [if_neg q, up_nj (by omega)]; exact hch i a (by omega)
    · rw [if_neg h4] at hP
      refine ⟨by decide, ?_⟩
      rw [if_pos M4.2.1]
      exact lo_t80 d P0 M4 _ _ _ _ (hP _ M4)
theorem r_turn (M : MS G c0 c T tx e p R) (W : WF R) (hP : ∀ c', ME G c0 T tx e (if R 0 1 = 0 then bad 6 p else if 3 ≤ R 0 4 then bad 5 p else turnF tx e (nx tx e p) R) c' → P0 (G, c')) : EvV (d + 6) mX12_readTurn [mR 18 62] (G, c) P0 := by
  have hT := M.1.2.1.n
  have wa := W.a; have ht := W.t
  refine ev_X12_readTurn (d + 5) _ G c 62 (by decide) ?_
  rw [M.1.2.2.1, M.2.2.2.f4]
  refine ⟨by decide, by omega, ?_⟩
  refine m_begins (d + 2) _ M W (R 0 4) 3 (by omega) (fun q c1 M1 => ?_) (fun q q' c1 M1 => ?_) (fun q q' c1 M1 => ?_)
  · rw [if_pos q] at hP
    exact o_fresh (d + 3) _ M1 (fun v => lo_t22 d P0 M1 v _ _ (hP _ M1))
  · rw [if_neg q, if_pos (by omega)] at hP
    exact o_fresh (d + 3) _ M1 (fun v => lo_t22 d P0 M1 v _ _ (hP _ M1))
  · rw [if_neg q, if_neg (by omega)] at hP
    unfold turnF at hP
    refine m_fresh (d + 1) _ M1 W (fun h1 c2 M2 => ?_) (fun h1 c2 v M2 => ?_)
    · rw [if_pos h1] at hP
      have hk : kd tx e (nx tx e p) = 1 := by
        unfold nnF at h1
        by_cases hi : isn tx e (nx tx e p)
        · exact hi.1
        · rw [if_neg hi] at h1; omega
      exact m_t22 d P0 W (by omega) (by omega) (va_nm hk) (R 0 1).toNat 0 _ 0 0 _ (by decide) (by omega) M2 (TF.z _) (fun i a b => by omega) hP
    · rw [if_neg h1] at hP
      exact lo_t22 d P0 M2 v _ _ (hP _ M2)
theorem lo_q50 (M : MO G c0 c T tx e f pl) (v : Int) (hP : P0 (G, c)) : At (d + 6) mX12_readQuarrel 50 [mR 18 62, mI v] [] (G, c) (QV P0) := by
  apply wp_X12_readQuarrel_50
  rw [o_goes _ _ M]
  dsimp only
  rw [if_pos M.2.1]
  exact ⟨by decide, hP⟩
theorem r_quarrel (M : MS G c0 c T tx e p R) (W : WF R) (hP : ∀ c', ME G c0 T tx e (if R 0 1 = 0 then bad 6 p else if 6 ≤ R 6 3 then bad 5 p else quarF tx e (nx tx e p) R) c' → P0 (G, c')) : EvV (d + 6) mX12_readQuarrel [mR 18 62] (G, c) P0 := by
  have hT := M.1.2.1.n
  have wa := W.a; have hq := W.q; have hp := W.p
  refine ev_X12_readQuarrel (d + 5) _ G c 62 (by decide) ?_
  rw [M.1.2.2.1, M.2.2.2.f5]
  refine ⟨by decide, by omega, ?_⟩
  have lo : ∀ {f pl : Int} (c1 : MC) (v : Int), MO G c0 c1 T tx e f pl → P0 (G, c1) → 0 ≤ (62 : Int) ∧ (if c1 62 9 = 5 then At (d + 5 + 1) mX12_readQuarrel 50 [mR 18 62, mI v] [] (G, c1) (QV P0) else 0 ≤ (62 : Int) ∧ 0 ≤ (c1 62 4) ∧ (0 ≤ (c1 (c1 62 4) 12) ∧ 0 ≤ v ∧ v < gLn G (c1 (c1 62 4) 12)) ∧ 0 ≤ (62 : Int) ∧ EvI (d + 5) mX12_bit [mI (c1 (c1 (c1 62 4) 12) v), mI (c1 62 15)] (G, c1) (fun r3 ν3 => (if r3 = 0 then At (d + 5 + 1) mX12_readQuarrel 50 [mR 18 62, mI v] [] (ν3.1, ν3.2) (QV P0) else EvV (d + 5) mX12_flaw [mR 18 62, mI 3] (ν3.1, ν3.2) (fun ν4 => At (d + 5 + 1) mX12_readQuarrel 50 [mR 18 62, mI v] [] (ν4.1, ν4.2) (QV P0))))) := fun c1 v M1 h => ⟨by decide, by rw [if_pos M1.2.1]; exact lo_q50 d P0 M1 v h⟩
  refine m_begins (d + 2) _ M W (R 6 3) 6 (by omega) (fun q c1 M1 => ?_) (fun q q' c1 M1 => ?_) (fun q q' c1 M1 => ?_)
  · rw [if_pos q] at hP
    exact o_two (d + 2) _ M1 (fun c2 M2 => lo c2 0 M2 (hP _ M2))
  · rw [if_neg q, if_pos (by omega)] at hP
    exact o_two (d + 2) _ M1 (fun c2 M2 => lo c2 0 M2 (hP _ M2))
  · rw [if_neg q, if_neg (by omega)] at hP
    unfold quarF at hP
    refine m_two d _ M1 W (fun h1 h2 h3 c2 M2 e15 => ?_) (fun h1 h2 h3 c2 v hv M2 => ?_) (fun h1 h2 c2 v hv M2 => ?_) (fun h1 c2 v hv M2 => ?_)
    · rw [if_pos h1, if_pos h2, if_neg h3] at hP
      have x1 := (px_rg W h1).1
      have x2 := (px_rg W h2).1
      refine ⟨by decide, ?_⟩
      rw [if_neg M2.n5]
      dsimp only
      simp only [M2.1.2.2.1, M2.1.2.1.t12, M.1.2.1.u3, M2.2.2.2.fo _ x1.1 (show pxF tx e (nx tx e p) R < 6 by omega), e15]
      refine ⟨by decide, by omega, ⟨by omega, by omega, by omega⟩, by decide, ?_⟩
      rw [q_mbit]
      unfold mbt
      by_cases h4 : o_and (o_shr (ptn R 6 (pxF tx e (nx tx e p) R)) (pxF tx e (nx tx e (nx tx e p)) R)) 1 = 1
      · rw [if_pos h4] at hP
        rw [if_pos h4, if_neg (by decide)]
        exact m_flaw (d + 4) _ M2 W 3 (fun c' M' => lo_q50 d P0 M' _ (hP _ M'))
      · rw [if_neg h4] at hP
        rw [if_neg h4, if_pos rfl]
        apply wp_X12_readQuarrel_50
        refine m_goesF (d + 3) _ M2 (fun c3 M3 F => ?_)
        have e15' : c3 62 15 = pxF tx e (nx tx e (nx tx e p)) R := by rw [F _ _ (by omega)]; exact e15
        refine ⟨by decide, ?_⟩
        rw [if_neg M3.n5]
        dsimp only
        simp only [M3.1.2.2.1, M3.1.2.1.t12, M.1.2.1.u3, e15']
        refine ⟨by decide, by omega, ⟨by omega, by omega, by omega⟩, by decide, ⟨by omega, by omega, by omega⟩, ?_⟩
        rintro _ rfl
        have Z1 := M3.z.uT (a := T + 3) (j := pxF tx e (nx tx e p) R) (v := o_or (c3 (T + 3) (pxF tx e (nx tx e p) R)) (o_shl 1 (pxF tx e (nx tx e (nx tx e p)) R))) (by omega) (by omega)
        have e15'' : up c3 (T + 3) (pxF tx e (nx tx e p) R) (o_or (c3 (T + 3) (pxF tx e (nx tx e p) R)) (o_shl 1 (pxF tx e (nx tx e (nx tx e p)) R))) 62 15 = pxF tx e (nx tx e (nx tx e p)) R := by rw [up_na (by omega)]; exact e15'
        simp only [Z1.1.2.2.1, Z1.1.2.1.t12, M.1.2.1.u3, e15'']
        refine ⟨by decide, by omega, by decide, ⟨by omega, by omega, by omega⟩, ⟨by omega, by omega, by omega⟩, ?_⟩
        rintro _ rfl
        rw [up_nj (show pxF tx e (nx tx e (nx tx e p)) R ≠ pxF tx e (nx tx e p) R from h3)]
        have Z2 := Z1.uT (a := T + 3) (j := pxF tx e (nx tx e (nx tx e p)) R) (v := o_or (c3 (T + 3) (pxF tx e (nx tx e (nx tx e p)) R)) (o_shl 1 (pxF tx e (nx tx e p) R))) (by omega) (by omega)
        rw [Z2.1.2.2.1, up_na (show T ≠ T + 3 by omega), up_na (show T ≠ T + 3 by omega), M3.2.2.2.f5, w32i (by omega) (by omega)]
        refine ⟨by decide, by omega, by omega, ?_⟩
        rintro _ rfl
        have Z3 := Z2.uT (a := T) (j := 5) (v := R 6 3 + 1) (by omega) (by omega)
        exact hP _ (Z3.s (rt_quar M3.2.2.2 W (by omega) (by omega) h3))
    · rw [if_pos h1, if_pos h2, if_pos h3] at hP
      exact lo c2 v M2 (hP _ M2)
    · rw [if_pos h1, if_neg h2] at hP
      exact lo c2 v M2 (hP _ M2)
    · rw [if_neg h1] at hP
      exact lo c2 v M2 (hP _ M2)
end
