def fO (F : Int → Bool) (j : Nat) : Int := fo (fun y s => if F y = true then o_or s y else s) j 0 0
def fA (F : Int → Bool) (N : Int) (j : Nat) : Int := fo (fun y s => if F y = true then o_and s y else s) j 0 (w32 (N - 1))
def fSm (F : Int → Bool) (k : Int) (j : Nat) : Int := fo (fun y s => if F y = true then w32 (s + mbt y k) else s) j 0 0
def fX (F : Int → Bool) (l : Int) (j : Nat) : Int := fo (fun y s => if F y = true ∧ cnt F y = l then y else s) j 0 (-1)
def FI (c : MC) (F : Int → Bool) (N x y : Int) (c' : MC) : Prop := Agr c c' ∧ c' 62 30 = cnt F y ∧ c' 62 31 = fO F y.toNat ∧ c' 62 32 = fA F N y.toNat ∧ ∀ k, 0 ≤ k → k < x → c' 75 k = fSm F k y.toNat
theorem fp_succ {α : Type} (f : Int → α → α) (s : α) {y : Int} (h : 0 ≤ y) : fo f (y + 1).toNat 0 s = f y (fo f y.toNat 0 s) := by
  rw [show (y + 1).toNat = y.toNat + 1 by omega, fo_succ, show (0 : Int) + (y.toNat : Int) = y by omega]
section
variable {G : MG} {c : MC} {t z T n m u q w x s ka ki : Int} {g : Int → Int} (d : Nat) (P : Int → MM → Prop)
theorem l_fit129 (V : TV G c t T n m u q w x s ka ki g) {F : Int → Bool} {N l1 l2 y : Int} (y0 : 0 ≤ y) (y8 : y < 8) (hF : F y = true) {c0 : MC} (A : Agr c c0) (h30 : c0 62 30 = cnt F (y + 1)) (h31 : c0 62 31 = fO F (y + 1).toNat) (h32 : c0 62 32 = fA F N (y + 1).toNat) (h75 : ∀ k, 0 ≤ k → k < x → c0 75 k = fSm F k y.toNat) (hk : ∀ c', FI c F N x (y + 1) c' → At (d + 3) mX12_fitting 49 [mR 18 62, mI l1, mI l2, mI (y + 1), MU] [] (G, c') (QI P)) : ∀ (j : Nat) (k : Int) (c' : MC), 0 ≤ k → k + j = x → (∀ a b, a ≠ 75 → c' a b = c0 a b) → (∀ i, 0 ≤ i → i < x → c' 75 i = if i < k then fSm F i (y + 1).toNat else fSm F i y.toNat) → At (d + 3) mX12_fitting 129 [mR 18 62, mI l1, mI l2, mI y, mI k] [] (G, c') (QI P) := by
  have b7 := V.M.b7; have hT := V.M.T
  rw [V.v7] at b7
  have wy : w32 (y + 1) = y + 1 := w32i (by omega) (by omega)
  have M0 := V.M.agr A
  intro j
  induction j with
  | zero =>
    intro k c' k0 hj hc h7
    have M := M0.kp (c' := c') (fun a b k => hc a b (by unfold Kp at k; omega))
    apply wp_X12_fitting_129
    rw [M.p3, hc T 7 (by omega), A T 7 (by unfold scr; omega), V.v7, if_neg (by omega), wy]
    refine ⟨by omega, by omega, hk c' ⟨fun a b h => ?_, by rw [hc _ _ (by decide)]; exact h30, by rw [hc _ _ (by decide)]; exact h31, by rw [hc _ _ (by decide)]; exact h32, fun i i0 i1 => ?_⟩⟩
    · rw [hc a b (by unfold scr at h; omega)]; exact A a b h
    · rw [h7 i i0 i1, if_pos (by omega)]
  | succ j ih =>
    intro k c' k0 hj hc h7
    have M := M0.kp (c' := c') (fun a b k => hc a b (by unfold Kp at k; omega))
    have wk : w32 (k + 1) = k + 1 := w32i (by omega) (by omega)
    have h75k := h7 k k0 (by omega)
    rw [if_neg (by omega)] at h75k
    have hst : fSm F k (y + 1).toNat = w32 (fSm F k y.toNat + mbt y k) := by
      unfold fSm
      rw [fp_succ _ _ y0, if_pos hF]
    have key : ∀ c2, c2 = up c' 75 k (fSm F k (y + 1).toNat) → At (d + 3) mX12_fitting 129 [mR 18 62, mI l1, mI l2, mI y, mI (k + 1)] [] (G, c2) (QI P) := by
      rintro _ rfl
      refine ih _ _ (by omega) (by omega) (fun a b h => by rw [up_na h]; exact hc a b h) (fun i i0 i1 => ?_)
      by_cases e : i = k
      · rw [e, up_eq, if_pos (by omega)]
      · rw [up_nj e, h7 i i0 i1]
        by_cases e2 : i < k
        · rw [if_pos e2, if_pos (by omega)]
        · rw [if_neg e2, if_neg (by omega)]
    apply wp_X12_fitting_129
    simp only [M.p3, hc T 7 (by omega), A T 7 (by unfold scr; omega), V.v7, M.p33, M.l75, q_mbit, wk]
    rw [if_pos (by omega)]
    refine ⟨by omega, by omega, by omega, ⟨by omega, by omega, by omega⟩, ?_⟩
    rcases mbt01 y k with e | e
    · rw [if_pos e]
      refine ⟨⟨by omega, by omega, by omega⟩, fun c2 h2 => key c2 ?_⟩
      rw [h2, hst, e, h75k]
    · rw [if_neg (by omega)]
      refine ⟨⟨by omega, by omega, by omega⟩, fun c2 h2 => key c2 ?_⟩
      rw [h2, hst, e, h75k]
theorem l_fit49 (V : TV G c t T n m u q w x s ka ki g) {l1 : Int} {N : Int} (hN : o_shl 1 x = N) (N8 : 1 ≤ N ∧ N ≤ 8) (hP : ∀ c', Agr c c' → c' 62 30 = cnt (FTB c t) N → c' 62 31 = fO (FTB c t) N.toNat → c' 62 32 = (if cnt (FTB c t) N = 0 then 0 else fA (FTB c t) N N.toNat) → (∀ k, 0 ≤ k → k < x → c' 75 k = fSm (FTB c t) k N.toNat) → P (fX (FTB c t) l1 N.toNat) (G, c')) : ∀ (j : Nat) (y : Int) (c' : MC), 0 ≤ y → y + j = N → FI c (FTB c t) N x y c' → At (d + 3) mX12_fitting 49 [mR 18 62, mI l1, mI (fX (FTB c t) l1 y.toNat), mI y, MU] [] (G, c') (QI P) := by
  have b7 := V.M.b7; have hT := V.M.T
  rw [V.v7] at b7
  intro j
  induction j with
  | zero =>
    intro y c' y0 hj hI
    obtain ⟨A, i30, i31, i32, i75⟩ := hI
    have M := V.M.agr A
    have ey : y = N := by omega
    subst ey
    apply wp_X12_fitting_49
    rw [M.p3, A T 7 (by unfold scr; omega), V.v7, hN, if_neg (by omega), i30]
    refine ⟨by omega, by omega, by omega, ?_⟩
    by_cases e : cnt (FTB c t) y = 0
    · rw [if_pos e]
      refine ⟨by omega, ?_⟩
      rintro _ rfl
      refine hP _ (A.u (by unfold scr; omega)) ?_ ?_ ?_ ?_
      · rw [up_nj (by decide)]; exact i30
      · rw [up_nj (by decide)]; exact i31
      · rw [up_eq, if_pos e]
      · intro k k0 k1
        rw [up_na (by decide)]
        exact i75 k k0 k1
    · rw [if_neg e]
      exact hP _ A i30 i31 (by rw [if_neg e]; exact i32) i75
  | succ j ih =>
    intro y c' y0 hj hI
    obtain ⟨A, i30, i31, i32, i75⟩ := hI
    have M := V.M.agr A
    have wy : w32 (y + 1) = y + 1 := w32i (by omega) (by omega)
    have hst := tv_stb V y
    apply wp_X12_fitting_49
    rw [M.p3, A T 7 (by unfold scr; omega), V.v7, hN, if_pos (by omega)]
    refine ⟨by omega, by omega, ?_⟩
    refine f_lays d V _ A y (fun c2 h65 hc2 => ?_)
    have A2 : Agr c c2 := fun a b h => by rw [hc2 a b (by unfold scr at h; omega)]; exact A a b h
    dsimp only
    rw [f_munlike d _ V A2 (stB c t y) h65 hst]
    have hFT := tv_FTB V y
    have no : FTB c t y = false → FI c (FTB c t) N x (y + 1) c2 ∧ fX (FTB c t) l1 (y + 1).toNat = fX (FTB c t) l1 y.toNat := fun h => by
      have hn : ¬ FTB c t y = true := by rw [h]; decide
      refine ⟨⟨A2, ?_, ?_, ?_, fun k k0 k1 => ?_⟩, ?_⟩
      · rw [hc2 _ _ (by decide), i30, cnt_succ _ y0, if_neg hn, Int.add_zero]
      · rw [hc2 _ _ (by decide), i31]; unfold fO; rw [fp_succ _ _ y0, if_neg hn]
      · rw [hc2 _ _ (by decide), i32]; unfold fA; rw [fp_succ _ _ y0, if_neg hn]
      · rw [hc2 _ _ (by decide), i75 k k0 k1]; unfold fSm; rw [fp_succ _ _ y0, if_neg hn]
      · unfold fX; rw [fp_succ _ _ y0, if_neg (fun q => hn q.1)]
    by_cases h1 : unl c t (stB c t y) = 0
    · rw [if_pos h1, wy]
      obtain ⟨n1, n2⟩ := no (by rw [hFT]; simp [h1])
      rw [← n2]
      exact ih _ _ (by omega) (by omega) n1
    · rw [if_neg h1]
      rw [f_wrong d _ V A2 (stB c t y) h65]
      by_cases h2 : wsF c T s (dg (stB c t y)) = -2
      · rw [if_pos h2]
        have hF : FTB c t y = true := by rw [hFT]; simp [h1, h2]
        have c30 : c2 62 30 = cnt (FTB c t) y := by rw [hc2 _ _ (by decide)]; exact i30
        have c31 : c2 62 31 = fO (FTB c t) y.toNat := by rw [hc2 _ _ (by decide)]; exact i31
        have c32 : c2 62 32 = fA (FTB c t) N y.toNat := by rw [hc2 _ _ (by decide)]; exact i32
        have hcn := cnt_b (FTB c t) y0
        have wc : w32 (cnt (FTB c t) y + 1) = cnt (FTB c t) (y + 1) := by rw [w32i (by omega) (by omega), cnt_succ _ y0, if_pos hF]
        have eO : o_or (fO (FTB c t) y.toNat) y = fO (FTB c t) (y + 1).toNat := by unfold fO; rw [fp_succ _ _ y0, if_pos hF]
        have eA : o_and (fA (FTB c t) N y.toNat) y = fA (FTB c t) N (y + 1).toNat := by unfold fA; rw [fp_succ _ _ y0, if_pos hF]
        have go : ∀ l2, l2 = fX (FTB c t) l1 (y + 1).toNat → ∀ c3, c3 = up (up (up c2 62 30 (cnt (FTB c t) (y + 1))) 62 31 (fO (FTB c t) (y + 1).toNat)) 62 32 (fA (FTB c t) N (y + 1).toNat) → At (d + 2 + 1) mX12_fitting 129 [mR 18 62, mI l1, mI l2, mI y, mI 0] [] (G, c3) (QI P) := by
          intro l2 hl2 c3 hc3
          have A3 : Agr c c3 := by rw [hc3]; exact ((A2.u (by unfold scr; omega)).u (by unfold scr; omega)).u (by unfold scr; omega)
          have e75 : ∀ k, 0 ≤ k → k < x → c3 75 k = fSm (FTB c t) k y.toNat := fun k k0 k1 => by rw [hc3, up_na (by decide), up_na (by decide), up_na (by decide), hc2 _ _ (by decide)]; exact i75 k k0 k1
          refine l_fit129 d P V y0 (by omega) hF A3 (by rw [hc3, up_nj (by decide), up_nj (by decide), up_eq]) (by rw [hc3, up_nj (by decide), up_eq]) (by rw [hc3, up_eq]) e75 (fun c' hI' => ?_) x.toNat 0 c3 (by omega) (by omega) (fun _ _ _ => rfl) (fun i i0 i1 => by rw [if_neg (by omega)]; exact e75 i i0 i1)
          rw [hl2]
          exact ih _ _ (by omega) (by omega) hI'
        dsimp only
        refine And.intro (by omega) ?_
        by_cases h3' : c2 62 30 = l1
        · have h3 : cnt (FTB c t) y = l1 := by rw [← c30]; exact h3'
          rw [if_pos h3', c30, wc]
          refine ⟨by omega, by omega, ?_⟩
          rintro _ rfl
          rw [up_nj (by decide), c31, eO]
          refine ⟨by omega, by omega, ?_⟩
          rintro _ rfl
          rw [up_nj (by decide), up_nj (by decide), c32, eA]
          refine ⟨by omega, by omega, ?_⟩
          exact go y (by unfold fX; rw [fp_succ _ _ y0, if_pos ⟨hF, h3⟩])
        · have h3 : ¬ cnt (FTB c t) y = l1 := by rw [← c30]; exact h3'
          rw [if_neg h3', c30, wc]
          refine ⟨by omega, by omega, ?_⟩
          rintro _ rfl
          rw [up_nj (by decide), c31, eO]
          refine ⟨by omega, by omega, ?_⟩
          rintro _ rfl
          rw [up_nj (by decide), up_nj (by decide), c32, eA]
          refine ⟨by omega, by omega, ?_⟩
          exact go _ (by unfold fX; rw [fp_succ _ _ y0, if_neg (fun q => h3 q.2)])
      · rw [if_neg h2, wy]
        obtain ⟨n1, n2⟩ := no (by rw [hFT]; simp [h2])
        rw [← n2]
        exact ih _ _ (by omega) (by omega) n1
theorem f_fitting (V : TV G c t T n m u q w x s ka ki g) (l1 : Int) (hP : ∀ c', Agr c c' → c' 62 30 = cnt (FTB c t) (o_shl 1 x) → c' 62 31 = fO (FTB c t) (o_shl 1 x).toNat → c' 62 32 = (if cnt (FTB c t) (o_shl 1 x) = 0 then 0 else fA (FTB c t) (o_shl 1 x) (o_shl 1 x).toNat) → (∀ k, 0 ≤ k → k < x → c' 75 k = fSm (FTB c t) k (o_shl 1 x).toNat) → P (fX (FTB c t) l1 (o_shl 1 x).toNat) (G, c')) : EvI (d + 3) mX12_fitting [mR 18 62, mI l1] (G, c) P := by
  have M := V.M; have hT := M.T
  have b7 := V.M.b7
  rw [V.v7] at b7
  have N8 := shl1_le b7.1 b7.2
  refine ev_X12_fitting (d + 2) _ G c 62 l1 (by decide) ⟨by omega, ?_⟩
  rintro _ rfl
  refine And.intro (by omega) ?_
  rintro _ rfl
  rw [show up (up c 62 30 0) 62 31 0 62 3 = T by rw [up_nj (by decide), up_nj (by decide)]; exact M.p3, up_na (by omega), up_na (by omega), V.v7]
  refine ⟨by omega, by omega, by omega, ?_⟩
  rintro _ rfl
  generalize hc1 : up (up (up c 62 30 0) 62 31 0) 62 32 (w32 (o_shl 1 x - 1)) = c1
  have A1 : Agr c c1 := by rw [← hc1]; exact ((Agr.rf.u (by unfold scr; omega)).u (by unfold scr; omega)).u (by unfold scr; omega)
  have M1 := M.agr A1
  have lp : ∀ (j : Nat) (i : Int), 0 ≤ i → i + j = 3 → At (d + 2 + 1) mX12_fitting 29 [mR 18 62, mI l1, mI (-1), mI i, MU] [] (G, wr c1 75 0 i (fun _ => 0)) (QI P) := by
    intro j
    induction j with
    | zero =>
      intro i i0 hi
      apply wp_X12_fitting_29
      rw [if_neg (by omega)]
      refine l_fit49 d P V rfl N8 hP (o_shl 1 x).toNat 0 _ (by omega) (by omega) ⟨A1.w (by intro j; unfold scr; omega), ?_, ?_, ?_, fun k k0 k1 => ?_⟩
      · rw [wr_ne (by decide), ← hc1, up_nj (by decide), up_nj (by decide), up_eq]; rfl
      · rw [wr_ne (by decide), ← hc1, up_nj (by decide), up_eq]; rfl
      · rw [wr_ne (by decide), ← hc1, up_eq]; rfl
      · rw [wr_in k0 (by omega)]; rfl
    | succ j ih =>
      intro i i0 hi
      have wi : w32 (i + 1) = i + 1 := w32i (by omega) (by omega)
      apply wp_X12_fitting_29
      rw [if_pos (by omega), wr_ne (by decide), M1.p33, M1.l75, wi]
      refine ⟨by omega, ⟨by omega, by omega, by omega⟩, ?_⟩
      rintro _ rfl
      rw [wr_up i0 (by omega) rfl]
      exact ih _ (by omega) (by omega)
  have := lp 3 0 (by omega) (by omega)
  rw [wr_zero (by omega)] at this
  exact this
end
/-! the same by the set of what fits, in one number -/
def Fb (f y : Int) : Bool := decide (bt f y = 1)
def cdC (N f : Int) : Int := fo (fun y s => if bt f y = 1 then o_or s y else o_or s 0) N.toNat 0 0
def suC (N f : Int) : Int := fo (fun y s => if bt f y = 1 then o_and s y else o_and s s) N.toNat 0 (if f = 0 then 0 else w32 (N - 1))
def laC (N f u : Int) : Int := if fo (fun i s => w32 (s + o_and (bt f i) (bt i u))) N.toNat 0 0 < w32 (pop f - fo (fun i s => w32 (s + o_and (bt f i) (bt i u))) N.toNat 0 0) then w32 (pop f - fo (fun i s => w32 (s + o_and (bt f i) (bt i u))) N.toNat 0 0) else fo (fun i s => w32 (s + o_and (bt f i) (bt i u))) N.toNat 0 0
def whC (N x f : Int) : Int := if f = 0 then -2 else if x = 0 then -2 else fo (fun k b => if laC N f k < laC N f b then k else b) (x - 1).toNat 1 0
def lvC (N x f : Int) : Int := if whC N x f = -2 then -2 else laC N f (whC N x f)
def mxR (C : Int) (S : Int → Int) (k : Int) : Int := if w32 (C - S k) < S k then S k else w32 (C - S k)
def asR (C : Int) (S : Int → Int) (k : Int) (r : Int × Int) : Int × Int := if 0 < C then (if r.1 = -2 ∨ mxR C S k < r.2 then (k, mxR C S k) else r) else r
def asks (C x : Int) (S : Int → Int) : Int × Int := fo (asR C S) x.toNat 0 (-2, -2)
def chkQ (x : Nat) (f : Nat) : Bool := decide (pop f = cnt (Fb f) (o_shl 1 x)) && decide (cdC (o_shl 1 x) f = fO (Fb f) (o_shl 1 x).toNat) && decide (suC (o_shl 1 x) f = if cnt (Fb f) (o_shl 1 x) = 0 then 0 else fA (Fb f) (o_shl 1 x) (o_shl 1 x).toNat) && decide ((whC (o_shl 1 x) x f, lvC (o_shl 1 x) x f) = asks (cnt (Fb f) (o_shl 1 x)) x (fun k => fSm (Fb f) k (o_shl 1 x).toNat))
theorem chkQ_0 : alln 2 (fun f => chkQ 0 f) = true := by decide +kernel
theorem chkQ_1 : alln 4 (fun f => chkQ 1 f) = true := by decide +kernel
theorem chkQ_2 : alln 16 (fun f => chkQ 2 f) = true := by decide +kernel
theorem chkQ_3 : alln 256 (fun f => chkQ 3 f) = true := by decide +kernel
theorem chkQ_of {x f : Int} (x0 : 0 ≤ x) (x3 : x ≤ 3) (f0 : 0 ≤ f) (f1 : f < 2 ^ (o_shl 1 x).toNat) : pop f = cnt (Fb f) (o_shl 1 x) ∧ cdC (o_shl 1 x) f = fO (Fb f) (o_shl 1 x).toNat ∧ (suC (o_shl 1 x) f = if cnt (Fb f) (o_shl 1 x) = 0 then 0 else fA (Fb f) (o_shl 1 x) (o_shl 1 x).toNat) ∧ (whC (o_shl 1 x) x f, lvC (o_shl 1 x) x f) = asks (cnt (Fb f) (o_shl 1 x)) x (fun k => fSm (Fb f) k (o_shl 1 x).toNat) := by
  obtain ⟨f, rfl⟩ := Int.eq_ofNat_of_zero_le f0
  have key : ∀ k : Nat, chkQ k f = true → pop (f : Int) = cnt (Fb f) (o_shl 1 k) ∧ cdC (o_shl 1 k) f = fO (Fb f) (o_shl 1 k).toNat ∧ (suC (o_shl 1 k) f = if cnt (Fb f) (o_shl 1 k) = 0 then 0 else fA (Fb f) (o_shl 1 k) (o_shl 1 k).toNat) ∧ (whC (o_shl 1 k) k f, lvC (o_shl 1 k) k f) = asks (cnt (Fb f) (o_shl 1 k)) k (fun i => fSm (Fb f) i (o_shl 1 k).toNat) := fun k h => by
    unfold chkQ at h
    simp only [Bool.and_eq_true, decide_eq_true_eq] at h
    exact ⟨h.1.1.1, h.1.1.2, h.1.2, h.2⟩
  have hx : x = 0 ∨ x = 1 ∨ x = 2 ∨ x = 3 := by omega
  rcases hx with rfl | rfl | rfl | rfl
  · exact key 0 (alln_at chkQ_0 f (by have e : (2 : Int) ^ (o_shl 1 0).toNat = 2 := by decide
                                      omega))
  · exact key 1 (alln_at chkQ_1 f (by have e : (2 : Int) ^ (o_shl 1 1).toNat = 4 := by decide
                                      omega))
  · exact key 2 (alln_at chkQ_2 f (by have e : (2 : Int) ^ (o_shl 1 2).toNat = 16 := by decide
                                      omega))
  · exact key 3 (alln_at chkQ_3 f (by have e : (2 : Int) ^ (o_shl 1 3).toNat = 256 := by decide
                                      omega))
section
variable {G : MG} {c : MC} {t z T n m u q w x s ka ki : Int} {g : Int → Int} (d : Nat) (P : Int → MM → Prop)
theorem tv_fit (V : TV G c t T n m u q w x s ka ki g) : (0 ≤ fit c t ∧ fit c t < 2 ^ (o_shl 1 x).toNat) ∧ ∀ y, 0 ≤ y → y < o_shl 1 x → Fb (fit c t) y = FTB c t y := by
  have b7 := V.M.b7
  rw [V.v7] at b7
  have N8 := shl1_le b7.1 b7.2
  obtain ⟨A1, A2, A3⟩ := bs_all (FTB c t) (n := o_shl 1 x) (by omega) (by omega)
  rw [fit_bs, V.e5]
  refine ⟨A1, fun y y0 y1 => ?_⟩
  unfold Fb
  rw [A3 y y0 (by omega)]
  cases h : FTB c t y
  · rw [if_neg (by simp)]; decide
  · rw [if_pos ⟨y1, rfl⟩]; decide
theorem tv_fitf (V : TV G c t T n m u q w x s ka ki g) : cnt (FTB c t) (o_shl 1 x) = cnt (Fb (fit c t)) (o_shl 1 x) ∧ fO (FTB c t) (o_shl 1 x).toNat = fO (Fb (fit c t)) (o_shl 1 x).toNat ∧ fA (FTB c t) (o_shl 1 x) (o_shl 1 x).toNat = fA (Fb (fit c t)) (o_shl 1 x) (o_shl 1 x).toNat ∧ ∀ k, fSm (FTB c t) k (o_shl 1 x).toNat = fSm (Fb (fit c t)) k (o_shl 1 x).toNat := by
  have b7 := V.M.b7
  rw [V.v7] at b7
  have N8 := shl1_le b7.1 b7.2
  have hf := (tv_fit V).2
  refine ⟨cnt_congr (fun i i0 i1 => (hf i i0 i1).symm), ?_, ?_, fun k => ?_⟩
  · unfold fO; apply fo_congr; intro k s k0 k1; rw [hf k k0 (by omega)]
  · unfold fA; apply fo_congr; intro k s k0 k1; rw [hf k k0 (by omega)]
  · unfold fSm; apply fo_congr; intro k s k0 k1; rw [hf k k0 (by omega)]
theorem l_could (I : CI G c t) {f : Int} (hx : c t 5 = x) (x0 : 0 ≤ x) (x3 : x ≤ 3) : ∀ (j : Nat) (i s : Int), 0 ≤ i → i + j = o_shl 1 x → P (fo (fun y s => if bt f y = 1 then o_or s y else o_or s 0) j i s) (G, up c 0 6 0) → At (d + 2) mX10_could 25 [mR 16 0, mI f, mI s, mI i] [] (G, c) (QI P) := by
  have N8 := shl1_le x0 x3
  intro j
  induction j with
  | zero =>
    intro i s i0 hi hP
    apply wp_X10_could_25
    simp only [I.p0, q_unsureSets _ _ _ _ t I.H, hx, q_fine]
    rw [if_neg (by omega)]
    exact ⟨by omega, hP⟩
  | succ j ih =>
    intro i s i0 hi hP
    have wi : w32 (i + 1) = i + 1 := w32i (by omega) (by omega)
    simp only [fo] at hP
    unfold bt at hP ih
    apply wp_X10_could_25
    simp only [I.p0, q_unsureSets _ _ _ _ t I.H, hx, wi]
    rw [if_pos (by omega)]
    refine ⟨by omega, ?_⟩
    split
    · rename_i h; rw [if_pos h] at hP; exact ih _ _ (by omega) (by omega) hP
    · rename_i h; rw [if_neg h] at hP; exact ih _ _ (by omega) (by omega) hP
theorem l_surely (I : CI G c t) {f : Int} (hx : c t 5 = x) (x0 : 0 ≤ x) (x3 : x ≤ 3) : ∀ (j : Nat) (i s : Int), 0 ≤ i → i + j = o_shl 1 x → P (fo (fun y s => if bt f y = 1 then o_and s y else o_and s s) j i s) (G, up c 0 6 0) → At (d + 2) mX10_surely 41 [mR 16 0, mI f, mI s, mI i] [] (G, c) (QI P) := by
  have N8 := shl1_le x0 x3
  intro j
  induction j with
  | zero =>
    intro i s i0 hi hP
    apply wp_X10_surely_41
    simp only [I.p0, q_unsureSets _ _ _ _ t I.H, hx, q_fine]
    rw [if_neg (by omega)]
    exact ⟨by omega, hP⟩
  | succ j ih =>
    intro i s i0 hi hP
    have wi : w32 (i + 1) = i + 1 := w32i (by omega) (by omega)
    simp only [fo] at hP
    unfold bt at hP ih
    apply wp_X10_surely_41
    simp only [I.p0, q_unsureSets _ _ _ _ t I.H, hx, wi]
    rw [if_pos (by omega)]
    refine ⟨by omega, ?_⟩
    split
    · rename_i h; rw [if_pos h] at hP; exact ih _ _ (by omega) (by omega) hP
    · rename_i h; rw [if_neg h] at hP; exact ih _ _ (by omega) (by omega) hP
theorem l_fitAt (I : CI G c t) {f : Int} {F : Int → Bool} {a : Int} (a0 : 0 ≤ a) (a1 : a < 2147483648) (hx : c t 5 = x) (x0 : 0 ≤ x) (x3 : x ≤ 3) (hF : ∀ y, 0 ≤ y → y < o_shl 1 x → (F y = true ↔ bt f y = 1)) (hf : ∀ y, 0 ≤ y → fX F a (o_shl 1 x).toNat = y → P y (G, up c 0 6 0)) (he : fX F a (o_shl 1 x).toNat = -1 → P (-1) (G, up c 0 6 1)) : ∀ (j : Nat) (i l : Int), 0 ≤ i → i + j = o_shl 1 x → 0 ≤ l → l = a - cnt F i → fX F a i.toNat = -1 → At (d + 2) mX10_fitAt 30 [mR 16 0, MU, mI f, mI l, mI i] [] (G, c) (QI P) := by
  have N8 := shl1_le x0 x3
  intro j
  induction j with
  | zero =>
    intro i l i0 hi l0 hl hX
    apply wp_X10_fitAt_30
    simp only [I.p0, q_unsureSets _ _ _ _ t I.H, hx, q_refused]
    rw [if_neg (by omega)]
    rw [show i = o_shl 1 x by omega] at hX
    exact ⟨by omega, he hX⟩
  | succ j ih =>
    intro i l i0 hi l0 hl hX
    have wi : w32 (i + 1) = i + 1 := w32i (by omega) (by omega)
    have hs : fX F a (i + 1).toNat = if F i = true ∧ cnt F i = a then i else -1 := by
      have : fX F a (i + 1).toNat = if F i = true ∧ cnt F i = a then i else fX F a i.toNat := by unfold fX; rw [fp_succ _ _ i0]
      rw [this, hX]
    have hcs := cnt_succ F i0
    have hFi := hF i i0 (by omega)
    have hcb := cnt_b F i0
    unfold bt at hFi
    apply wp_X10_fitAt_30
    simp only [I.p0, q_unsureSets _ _ _ _ t I.H, hx, wi, q_fine]
    rw [if_pos (by omega)]
    refine ⟨by omega, ?_⟩
    by_cases h : o_and (o_shr f i) 1 = 1
    · rw [if_pos h]
      have hFt := hFi.2 h
      rw [if_pos hFt] at hcs
      by_cases hl0 : l = 0
      · rw [if_pos hl0]
        rw [if_pos ⟨hFt, by omega⟩] at hs
        refine hf i i0 ?_
        have keep : ∀ (j : Nat) (y : Int), 0 ≤ y → cnt F y > a → fX F a (y + j).toNat = fX F a y.toNat := by
          intro j
          induction j with
          | zero => intro y _ _; rw [show y + ((0 : Nat) : Int) = y by omega]
          | succ j ih2 =>
            intro y y0 hy
            have h1 : cnt F (y + 1) > a := by rw [cnt_succ F y0]; split <;> omega
            have h2 : fX F a (y + 1).toNat = fX F a y.toNat := by unfold fX; rw [fp_succ _ _ y0, if_neg (fun q => by omega)]
            rw [show y + ((j + 1 : Nat) : Int) = y + 1 + (j : Int) by omega, ih2 (y + 1) (by omega) h1, h2]
        have := keep j (i + 1) (by omega) (by omega)
        rw [show i + 1 + (j : Int) = o_shl 1 x by omega, hs] at this
        exact this
      · rw [if_neg hl0, w32i (x := l + -1) (by omega) (by omega)]
        rw [if_neg (fun q => by omega)] at hs
        exact ih _ _ (by omega) (by omega) (by omega) (by omega) hs
    · rw [if_neg h]
      have hFf : ¬ F i = true := fun q => h (hFi.1 q)
      rw [if_neg hFf] at hcs
      rw [if_neg (fun q => hFf q.1)] at hs
      exact ih _ _ (by omega) (by omega) l0 (by omega) hs
theorem q_whom (I : CI G c t) (f : Int) (hx : c t 5 = x) (x0 : 0 ≤ x) (x3 : x ≤ 3) : EvI (d + 3) mX10_whomToAsk [mR 16 0, mI f] (G, c) P = P (whC (o_shl 1 x) x f) (G, c) := by
  have ht := I.t
  refine evI_eq (ev_X10_whomToAsk (d + 2) _ G c 0 f (by decide) ?_) P
  have el : ∀ k, lam c t f k = laC (o_shl 1 x) f k := fun k => by unfold lam laC; rw [hx]
  unfold whC
  by_cases hf : f = 0
  · rw [if_pos hf, if_pos hf]; exact ⟨rfl, rfl⟩
  · rw [if_neg hf, if_neg hf, I.p0, hx]
    refine ⟨by omega, by omega, ?_⟩
    by_cases hz : x = 0
    · rw [if_pos hz, if_pos hz]; exact ⟨rfl, rfl⟩
    · rw [if_neg hz, if_neg hz]
      have lp : ∀ (j : Nat) (i b v : Int), 1 ≤ i → i + j = x → v = fo (fun k b => if laC (o_shl 1 x) f k < laC (o_shl 1 x) f b then k else b) j i b → At (d + 2 + 1) mX10_whomToAsk 21 [mR 16 0, mI f, mI b, mI i] [] (G, c) (QI fun x ν' => x = v ∧ ν' = (G, c)) := by
        intro j
        induction j with
        | zero =>
          intro i b v i0 hi hv
          apply wp_X10_whomToAsk_21
          rw [I.p0, hx, if_neg (by omega)]
          exact ⟨by omega, by omega, hv.symm, rfl⟩
        | succ j ih =>
          intro i b v i0 hi hv
          have wi : w32 (i + 1) = i + 1 := w32i (by omega) (by omega)
          simp only [fo] at hv
          apply wp_X10_whomToAsk_21
          simp only [I.p0, hx, q_leftAtMost _ _ _ _ t f _ I.H, el, wi]
          rw [if_pos (by omega)]
          refine ⟨by omega, by omega, by omega, by omega, ?_⟩
          split
          · rename_i h; rw [if_pos h] at hv; exact ih _ _ _ (by omega) (by omega) hv
          · rename_i h; rw [if_neg h] at hv; exact ih _ _ _ (by omega) (by omega) hv
      exact lp (x - 1).toNat 1 0 _ (by omega) (by omega) rfl
theorem l_asks (V : TV G c t T n m u q w x s ka ki g) {C : Int} {S : Int → Int} (hP : ∀ c', Agr c c' → c' 62 34 = (asks C x S).2 → P (asks C x S).1 (G, c')) : ∀ (j : Nat) (i : Int) (r : Int × Int) (c' : MC), 0 ≤ i → i + j = x → Agr c c' → c' 62 30 = C → (∀ k, 0 ≤ k → k < x → c' 75 k = S k) → c' 62 34 = r.2 → asks C x S = fo (asR C S) j i r → (¬ 0 < C → r = asks C x S) → At (d + 1) mX12_asks 17 [mR 18 62, mI r.1, mI i, MU] [] (G, c') (QI P) := by
  have b7 := V.M.b7; have hT := V.M.T
  rw [V.v7] at b7
  intro j
  induction j with
  | zero =>
    intro i r c' i0 hi A h30 h75 h34 he hC
    have M := V.M.agr A
    have hr : asks C x S = r := he
    rw [hr] at hP
    apply wp_X12_asks_17
    rw [M.p3, A T 7 (by unfold scr; omega), V.v7, if_neg (by omega)]
    exact ⟨by omega, by omega, hP c' A h34⟩
  | succ j ih =>
    intro i r c' i0 hi A h30 h75 h34 he hC
    have M := V.M.agr A
    have wi : w32 (i + 1) = i + 1 := w32i (by omega) (by omega)
    simp only [fo] at he
    apply wp_X12_asks_17
    simp only [M.p3, A T 7 (by unfold scr; omega), V.v7, h30, M.p33, M.l75, h75 i i0 (by omega), h34, wi]
    rw [if_pos (by omega)]
    refine ⟨by omega, by omega, by omega, ?_⟩
    by_cases hp : 0 < C
    · rw [if_pos hp]
      refine ⟨by omega, ⟨by omega, by omega, by omega⟩, by omega, by omega, ⟨by omega, by omega, by omega⟩, ?_⟩
      have hset : (r.1 = -2 ∨ mxR C S i < r.2) → ∀ c2, c2 = up c' 62 34 (mxR C S i) → At (d + 0 + 1) mX12_asks 17 [mR 18 62, mI i, mI (i + 1), MU] [] (G, c2) (QI P) := by
        rintro hh _ rfl
        have hR : asR C S i r = (i, mxR C S i) := by unfold asR; rw [if_pos hp, if_pos hh]
        rw [hR] at he
        exact ih (i + 1) (i, mxR C S i) _ (by omega) (by omega) (A.u (by unfold scr; omega)) (by rw [up_nj (by decide)]; exact h30) (fun k k0 k1 => by rw [up_na (by decide)]; exact h75 k k0 k1) (by rw [up_eq]) he (fun q => absurd hp q)
      have hkeep : ¬ (r.1 = -2 ∨ mxR C S i < r.2) → At (d + 0 + 1) mX12_asks 17 [mR 18 62, mI r.1, mI (i + 1), MU] [] (G, c') (QI P) := by
        intro hh
        have hR : asR C S i r = r := by unfold asR; rw [if_pos hp, if_neg hh]
        rw [hR] at he
        exact ih (i + 1) r _ (by omega) (by omega) A h30 h75 h34 he (fun q => absurd hp q)
      unfold mxR at hset hkeep
      by_cases hm : w32 (C - S i) < S i
      · rw [if_pos hm] at hset hkeep ⊢
        refine ⟨by omega, ⟨by omega, by omega, by omega⟩, ?_⟩
        by_cases h2 : r.1 = -2
        · rw [if_pos h2]
          exact ⟨by omega, hset (Or.inl h2)⟩
        · rw [if_neg h2]
          refine ⟨by omega, ?_⟩
          by_cases h3 : S i < r.2
          · rw [if_pos h3]; exact ⟨by omega, hset (Or.inr h3)⟩
          · rw [if_neg h3]; exact hkeep (fun q => q.elim h2 h3)
      · rw [if_neg hm] at hset hkeep ⊢
        refine ⟨by omega, by omega, ⟨by omega, by omega, by omega⟩, ?_⟩
        by_cases h2 : r.1 = -2
        · rw [if_pos h2]
          exact ⟨by omega, hset (Or.inl h2)⟩
        · rw [if_neg h2]
          refine ⟨by omega, ?_⟩
          by_cases h3 : w32 (C - S i) < r.2
          · rw [if_pos h3]; exact ⟨by omega, hset (Or.inr h3)⟩
          · rw [if_neg h3]; exact hkeep (fun q => q.elim h2 h3)
    · rw [if_neg hp]
      have hr := hC hp
      rw [← hr] at hP
      exact hP c' A h34
theorem asks_0 {C x : Int} {S : Int → Int} (h : ¬ 0 < C) : ((-2 : Int), (-2 : Int)) = asks C x S := by
  unfold asks
  have : ∀ (j : Nat) (i : Int) (r : Int × Int), fo (asR C S) j i r = r := by
    intro j
    induction j with
    | zero => intro i r; rfl
    | succ j ih => intro i r; simp only [fo]; rw [ih]; unfold asR; rw [if_neg h]
  rw [this]
theorem f_asks (V : TV G c t T n m u q w x s ka ki g) (hP : ∀ c', Agr c c' → c' 62 34 = lvC (o_shl 1 x) x (fit c t) → P (whC (o_shl 1 x) x (fit c t)) (G, c')) : EvI (d + 4) mX12_asks [mR 18 62] (G, c) P := by
  have b7 := V.M.b7; have hT := V.M.T
  rw [V.v7] at b7
  have hf := tv_fit V
  have hff := tv_fitf V
  have hq := (chkQ_of b7.1 b7.2 hf.1.1 hf.1.2).2.2.2
  refine ev_X12_asks (d + 3) _ G c 62 (by decide) (f_fitting d _ V (-1) (fun c' A h30 h31 h32 h75 => ?_))
  refine And.intro (by omega) ?_
  rintro _ rfl
  dsimp only
  refine l_asks (C := cnt (Fb (fit c t)) (o_shl 1 x)) (S := fun k => fSm (Fb (fit c t)) k (o_shl 1 x).toNat) (d + 3) P V (fun c2 A2 h34 => ?_) x.toNat 0 (-2, -2) _ (by omega) (by omega) (A.u (by unfold scr; omega)) (by rw [up_nj (by decide), h30]; exact hff.1) (fun k k0 k1 => by rw [up_na (by decide), h75 k k0 k1]; exact hff.2.2.2 k) (by rw [up_eq]) rfl asks_0
  rw [← hq] at h34 ⊢
  exact hP c2 A2 h34
end
theorem k_fits (d : Nat) (G : MG) (c : MC) (H : IV G c) : EvI (d + 40) mX10_fits [mR 16 0] (G, c) (fun r1 ν1 => EvI (d + 40) mX12_fits [mR 18 62] (ν1.1, ν1.2) (fun r2 ν2 => K2 G r1 r2 ν2)) := by
  obtain ⟨hr, t, z, S, V⟩ := H
  have H0 : IV0 G c := ⟨t, z, S, V⟩
  rcases V with V | ⟨T, n, m, u, q, w, x, s, ka, ki, g, V⟩
  · have I := S.ciN V
    have e1 := V.e1; have e3 := V.e3; have e4 := V.e4; have N := V.T
    have N1 : ∀ wy, up (up c 0 6 wy) 62 0 0 62 3 = -1 := fun wy => by rw [up_nj (by decide), up_na (by decide)]; exact N
    refine ev_X10_fits (d + 39) _ G c 0 (by decide) ?_
    simp only [z_isTube _ _ _ _ t I e1, z_isPerson _ _ _ _ t I _ e3, z_isSlot _ _ _ _ t I _ e1, z_isTurn _ _ _ _ t I _ e4, z_areTwo _ _ _ _ t I _ _ e3, z_isPlace _ _ _ _ t I _ e1, ↓reduceIte, q_refused]
    refine ev_X12_fits (d + 39) _ G _ 62 (by decide) ⟨by decide, ?_⟩
    rintro _ rfl
    simp only [q_nisSlot _ _ _ _ (N1 _), q_nisPerson _ _ _ _ (N1 _), q_nisTurn _ _ _ _ (N1 _), q_nareTwo _ _ _ _ (N1 _), q_nisPlace _ _ _ _ (N1 _), N1, ↓reduceIte, q_mrefused, Int.reduceNeg, Int.reduceLT, Int.reduceLE, true_and]
    exact ⟨rfl, rfl, IV.q H0 (by decide) (agr_0 _)⟩
  · have I := S.ciT V
    have M := V.M; have hT := M.T; have ht := V.t
    have v1 := V.v1; have v3 := V.v3; have v4 := V.v4; have e0 := V.e0; have e1 := V.e1; have e3 := V.e3; have e4 := V.e4; have e5 := V.e5
    have b0 := M.b0; have b1 := M.b1; have b3 := M.b3; have b4 := M.b4
    rw [v1] at b1; rw [v3] at b3; rw [v4] at b4
    have hnp : 0 < n := by omega
    have hTn : ¬ T < 0 := by omega
    have M1 : ∀ wy, MDs G (up (up c 0 6 wy) 62 0 0) T := fun wy => (M.ki ki_up7).agr (agr_0 _)
    have r64 : ∀ wy, up (up c 0 6 wy) 62 0 0 64 = c 64 := fun wy => by funext j; rw [up_na (by decide), up_na (by decide)]
    have rT : ∀ wy k, up (up c 0 6 wy) 62 0 0 T k = c T k := fun wy k => by rw [up_na (by omega), up_na (by omega)]
    have rTT : ∀ wy (a : Int), 0 ≤ a → up (up c 0 6 wy) 62 0 0 (T + a) = c (T + a) := fun wy a ha => by funext j; rw [up_na (by omega), up_na (by omega)]
    have rS : ∀ wy a b, sld (up (up c 0 6 wy) 62 0 0) T a b = sld c T a b := fun wy a b => sld_eq (fun a j q => by rw [up_na (by omega), up_na (by omega)]) hT
    have hS : ∀ a b, 0 ≤ a → a < u → 0 ≤ b → b < n → sld c T a b = dg (g a) b := fun a b h1 h2 h3 h4 => by unfold sld; rw [v4, if_pos h2]; exact V.tk a b h1 h2 h3 h4
    have V1 : ∀ wy, TV G (up (up c 0 6 wy) 62 0 0) t T n m u q w x s ka ki g := fun wy => (V.kp ki_up7).kp (ki_agr (agr_0 _))
    skip
    refine ev_X10_fits (d + 39) _ G c 0 (by decide) ?_
    simp only [q_isTube _ _ _ _ t I, q_isPerson _ _ _ _ t I, q_isSlot _ _ _ _ t I, q_isTurn _ _ _ _ t I, q_areTwo _ _ _ _ t I, q_isPlace _ _ _ _ t I, e0, e1, e3, e4, hnp, ↓reduceIte]
    have e5' : c t 5 = x := V.e5
    have b7 := M.b7
    rw [V.v7] at b7
    have N8 := shl1_le b7.1 b7.2
    have hff := tv_fitf V
    have hft := tv_fit V
    obtain ⟨hq1, hq2, hq3, hq4⟩ := chkQ_of b7.1 b7.2 hft.1.1 hft.1.2
    have eFT : ∀ wy, FTB (up (up c 0 6 wy) 62 0 0) t = FTB c t := fun wy => by
      funext y
      have r : ∀ a j, a = t ∨ (t + 1 ≤ a ∧ a ≤ t + 17) → up (up c 0 6 wy) 62 0 0 a j = c a j := fun a j h => by rw [up_na (by omega), up_na (by omega)]
      unfold FTB unl stB hmS hld
      simp only [r t _ (Or.inl rfl), r (t + 2) _ (Or.inr (by omega)), r (t + 4) _ (Or.inr (by omega)), r (t + 5) _ (Or.inr (by omega)), r (t + 14) _ (Or.inr (by omega)), r (t + 14 + 1) _ (Or.inr (by omega)), r (t + 14 + 2) _ (Or.inr (by omega)), r (t + 14 + 3) _ (Or.inr (by omega))]
    have eft : ∀ wy, fit (up (up c 0 6 wy) 62 0 0) t = fit c t := fun wy => by
      rw [fit_bs, fit_bs, eFT]
      rw [show up (up c 0 6 wy) 62 0 0 t 5 = c t 5 by rw [up_na (by omega), up_na (by omega)]]
    simp only [I.p0, q_fitting _ _ _ _ t I.H]
    refine And.intro (by omega) ?_
    simp only [q_J6_bitCount, q_fine]
    rw [hq1]
    refine ev_X12_fits (d + 39) _ G _ 62 (by decide) ⟨by decide, ?_⟩
    rintro _ rfl
    simp only [q_misSlot _ _ _ _ T (M1 _), q_misPerson _ _ _ _ T (M1 _), q_misTurn _ _ _ _ T (M1 _), q_mareTwo _ _ _ _ T (M1 _), q_misPlace _ _ _ _ T (M1 _), (M1 _).p3, hTn, rT, v1, v3, v4, ↓reduceIte, Int.reduceLE, true_and]
    refine f_fitting (d + 36) _ (V1 _) (-1) (fun c' A h30 h31 h32 h75 => ?_)
    rw [eFT] at h30 h31 h32
    dsimp only
    rw [h30]
    rw [hff.1]
    simp only [q_mgood]
    exact ⟨rfl, rfl, IV.q H0 (by decide) ((agr_0 _).tr A)⟩
theorem k_could (d : Nat) (G : MG) (c : MC) (H : IV G c) : EvI (d + 40) mX10_could [mR 16 0] (G, c) (fun r1 ν1 => EvI (d + 40) mX12_could [mR 18 62] (ν1.1, ν1.2) (fun r2 ν2 => K2 G r1 r2 ν2)) := by
  obtain ⟨hr, t, z, S, V⟩ := H
  have H0 : IV0 G c := ⟨t, z, S, V⟩
  rcases V with V | ⟨T, n, m, u, q, w, x, s, ka, ki, g, V⟩
  · have I := S.ciN V
    have e1 := V.e1; have e3 := V.e3; have e4 := V.e4; have N := V.T
    have N1 : ∀ wy, up (up c 0 6 wy) 62 0 0 62 3 = -1 := fun wy => by rw [up_nj (by decide), up_na (by decide)]; exact N
    refine ev_X10_could (d + 39) _ G c 0 (by decide) ?_
    simp only [z_isTube _ _ _ _ t I e1, z_isPerson _ _ _ _ t I _ e3, z_isSlot _ _ _ _ t I _ e1, z_isTurn _ _ _ _ t I _ e4, z_areTwo _ _ _ _ t I _ _ e3, z_isPlace _ _ _ _ t I _ e1, ↓reduceIte, q_refused]
    refine ev_X12_could (d + 39) _ G _ 62 (by decide) ⟨by decide, ?_⟩
    rintro _ rfl
    simp only [q_nisSlot _ _ _ _ (N1 _), q_nisPerson _ _ _ _ (N1 _), q_nisTurn _ _ _ _ (N1 _), q_nareTwo _ _ _ _ (N1 _), q_nisPlace _ _ _ _ (N1 _), N1, ↓reduceIte, q_mrefused, Int.reduceNeg, Int.reduceLT, Int.reduceLE, true_and]
    exact ⟨rfl, rfl, IV.q H0 (by decide) (agr_0 _)⟩
  · have I := S.ciT V
    have M := V.M; have hT := M.T; have ht := V.t
    have v1 := V.v1; have v3 := V.v3; have v4 := V.v4; have e0 := V.e0; have e1 := V.e1; have e3 := V.e3; have e4 := V.e4; have e5 := V.e5
    have b0 := M.b0; have b1 := M.b1; have b3 := M.b3; have b4 := M.b4
    rw [v1] at b1; rw [v3] at b3; rw [v4] at b4
    have hnp : 0 < n := by omega
    have hTn : ¬ T < 0 := by omega
    have M1 : ∀ wy, MDs G (up (up c 0 6 wy) 62 0 0) T := fun wy => (M.ki ki_up7).agr (agr_0 _)
    have r64 : ∀ wy, up (up c 0 6 wy) 62 0 0 64 = c 64 := fun wy => by funext j; rw [up_na (by decide), up_na (by decide)]
    have rT : ∀ wy k, up (up c 0 6 wy) 62 0 0 T k = c T k := fun wy k => by rw [up_na (by omega), up_na (by omega)]
    have rTT : ∀ wy (a : Int), 0 ≤ a → up (up c 0 6 wy) 62 0 0 (T + a) = c (T + a) := fun wy a ha => by funext j; rw [up_na (by omega), up_na (by omega)]
    have rS : ∀ wy a b, sld (up (up c 0 6 wy) 62 0 0) T a b = sld c T a b := fun wy a b => sld_eq (fun a j q => by rw [up_na (by omega), up_na (by omega)]) hT
    have hS : ∀ a b, 0 ≤ a → a < u → 0 ≤ b → b < n → sld c T a b = dg (g a) b := fun a b h1 h2 h3 h4 => by unfold sld; rw [v4, if_pos h2]; exact V.tk a b h1 h2 h3 h4
    have V1 : ∀ wy, TV G (up (up c 0 6 wy) 62 0 0) t T n m u q w x s ka ki g := fun wy => (V.kp ki_up7).kp (ki_agr (agr_0 _))
    skip
    refine ev_X10_could (d + 39) _ G c 0 (by decide) ?_
    simp only [q_isTube _ _ _ _ t I, q_isPerson _ _ _ _ t I, q_isSlot _ _ _ _ t I, q_isTurn _ _ _ _ t I, q_areTwo _ _ _ _ t I, q_isPlace _ _ _ _ t I, e0, e1, e3, e4, hnp, ↓reduceIte]
    have e5' : c t 5 = x := V.e5
    have b7 := M.b7
    rw [V.v7] at b7
    have N8 := shl1_le b7.1 b7.2
    have hff := tv_fitf V
    have hft := tv_fit V
    obtain ⟨hq1, hq2, hq3, hq4⟩ := chkQ_of b7.1 b7.2 hft.1.1 hft.1.2
    have eFT : ∀ wy, FTB (up (up c 0 6 wy) 62 0 0) t = FTB c t := fun wy => by
      funext y
      have r : ∀ a j, a = t ∨ (t + 1 ≤ a ∧ a ≤ t + 17) → up (up c 0 6 wy) 62 0 0 a j = c a j := fun a j h => by rw [up_na (by omega), up_na (by omega)]
      unfold FTB unl stB hmS hld
      simp only [r t _ (Or.inl rfl), r (t + 2) _ (Or.inr (by omega)), r (t + 4) _ (Or.inr (by omega)), r (t + 5) _ (Or.inr (by omega)), r (t + 14) _ (Or.inr (by omega)), r (t + 14 + 1) _ (Or.inr (by omega)), r (t + 14 + 2) _ (Or.inr (by omega)), r (t + 14 + 3) _ (Or.inr (by omega))]
    have eft : ∀ wy, fit (up (up c 0 6 wy) 62 0 0) t = fit c t := fun wy => by
      rw [fit_bs, fit_bs, eFT]
      rw [show up (up c 0 6 wy) 62 0 0 t 5 = c t 5 by rw [up_na (by omega), up_na (by omega)]]
    simp only [I.p0, q_fitting _ _ _ _ t I.H]
    refine And.intro (by omega) ?_
    refine l_could (x := x) (d + 38) _ I e5' b7.1 b7.2 (o_shl 1 x).toNat 0 0 (by omega) (by omega) ?_
    rw [show fo (fun y s => if bt (fit c t) y = 1 then o_or s y else o_or s 0) (o_shl 1 x).toNat 0 0 = fO (Fb (fit c t)) (o_shl 1 x).toNat from hq2]
    refine ev_X12_could (d + 39) _ G _ 62 (by decide) ⟨by decide, ?_⟩
    rintro _ rfl
    simp only [q_misSlot _ _ _ _ T (M1 _), q_misPerson _ _ _ _ T (M1 _), q_misTurn _ _ _ _ T (M1 _), q_mareTwo _ _ _ _ T (M1 _), q_misPlace _ _ _ _ T (M1 _), (M1 _).p3, hTn, rT, v1, v3, v4, ↓reduceIte, Int.reduceLE, true_and]
    refine f_fitting (d + 36) _ (V1 _) (-1) (fun c' A h30 h31 h32 h75 => ?_)
    rw [eFT] at h30 h31 h32
    dsimp only
    rw [h31]
    rw [hff.2.1]
    simp only [q_mgood]
    exact ⟨rfl, rfl, IV.q H0 (by decide) ((agr_0 _).tr A)⟩
theorem k_surely (d : Nat) (G : MG) (c : MC) (H : IV G c) : EvI (d + 40) mX10_surely [mR 16 0] (G, c) (fun r1 ν1 => EvI (d + 40) mX12_surely [mR 18 62] (ν1.1, ν1.2) (fun r2 ν2 => K2 G r1 r2 ν2)) := by
  obtain ⟨hr, t, z, S, V⟩ := H
  have H0 : IV0 G c := ⟨t, z, S, V⟩
  rcases V with V | ⟨T, n, m, u, q, w, x, s, ka, ki, g, V⟩
  · have I := S.ciN V
    have e1 := V.e1; have e3 := V.e3; have e4 := V.e4; have N := V.T
    have N1 : ∀ wy, up (up c 0 6 wy) 62 0 0 62 3 = -1 := fun wy => by rw [up_nj (by decide), up_na (by decide)]; exact N
    refine ev_X10_surely (d + 39) _ G c 0 (by decide) ?_
    simp only [z_isTube _ _ _ _ t I e1, z_isPerson _ _ _ _ t I _ e3, z_isSlot _ _ _ _ t I _ e1, z_isTurn _ _ _ _ t I _ e4, z_areTwo _ _ _ _ t I _ _ e3, z_isPlace _ _ _ _ t I _ e1, ↓reduceIte, q_refused]
    refine ev_X12_surely (d + 39) _ G _ 62 (by decide) ⟨by decide, ?_⟩
    rintro _ rfl
    simp only [q_nisSlot _ _ _ _ (N1 _), q_nisPerson _ _ _ _ (N1 _), q_nisTurn _ _ _ _ (N1 _), q_nareTwo _ _ _ _ (N1 _), q_nisPlace _ _ _ _ (N1 _), N1, ↓reduceIte, q_mrefused, Int.reduceNeg, Int.reduceLT, Int.reduceLE, true_and]
    exact ⟨rfl, rfl, IV.q H0 (by decide) (agr_0 _)⟩
  · have I := S.ciT V
    have M := V.M; have hT := M.T; have ht := V.t
    have v1 := V.v1; have v3 := V.v3; have v4 := V.v4; have e0 := V.e0; have e1 := V.e1; have e3 := V.e3; have e4 := V.e4; have e5 := V.e5
    have b0 := M.b0; have b1 := M.b1; have b3 := M.b3; have b4 := M.b4
    rw [v1] at b1; rw [v3] at b3; rw [v4] at b4
    have hnp : 0 < n := by omega
    have hTn : ¬ T < 0 := by omega
    have M1 : ∀ wy, MDs G (up (up c 0 6 wy) 62 0 0) T := fun wy => (M.ki ki_up7).agr (agr_0 _)
    have r64 : ∀ wy, up (up c 0 6 wy) 62 0 0 64 = c 64 := fun wy => by funext j; rw [up_na (by decide), up_na (by decide)]
    have rT : ∀ wy k, up (up c 0 6 wy) 62 0 0 T k = c T k := fun wy k => by rw [up_na (by omega), up_na (by omega)]
    have rTT : ∀ wy (a : Int), 0 ≤ a → up (up c 0 6 wy) 62 0 0 (T + a) = c (T + a) := fun wy a ha => by funext j; rw [up_na (by omega), up_na (by omega)]
    have rS : ∀ wy a b, sld (up (up c 0 6 wy) 62 0 0) T a b = sld c T a b := fun wy a b => sld_eq (fun a j q => by rw [up_na (by omega), up_na (by omega)]) hT
    have hS : ∀ a b, 0 ≤ a → a < u → 0 ≤ b → b < n → sld c T a b = dg (g a) b := fun a b h1 h2 h3 h4 => by unfold sld; rw [v4, if_pos h2]; exact V.tk a b h1 h2 h3 h4
    have V1 : ∀ wy, TV G (up (up c 0 6 wy) 62 0 0) t T n m u q w x s ka ki g := fun wy => (V.kp ki_up7).kp (ki_agr (agr_0 _))
    skip
    refine ev_X10_surely (d + 39) _ G c 0 (by decide) ?_
    simp only [q_isTube _ _ _ _ t I, q_isPerson _ _ _ _ t I, q_isSlot _ _ _ _ t I, q_isTurn _ _ _ _ t I, q_areTwo _ _ _ _ t I, q_isPlace _ _ _ _ t I, e0, e1, e3, e4, hnp, ↓reduceIte]
    have e5' : c t 5 = x := V.e5
    have b7 := M.b7
    rw [V.v7] at b7
    have N8 := shl1_le b7.1 b7.2
    have hff := tv_fitf V
    have hft := tv_fit V
    obtain ⟨hq1, hq2, hq3, hq4⟩ := chkQ_of b7.1 b7.2 hft.1.1 hft.1.2
    have eFT : ∀ wy, FTB (up (up c 0 6 wy) 62 0 0) t = FTB c t := fun wy => by
      funext y
      have r : ∀ a j, a = t ∨ (t + 1 ≤ a ∧ a ≤ t + 17) → up (up c 0 6 wy) 62 0 0 a j = c a j := fun a j h => by rw [up_na (by omega), up_na (by omega)]
      unfold FTB unl stB hmS hld
      simp only [r t _ (Or.inl rfl), r (t + 2) _ (Or.inr (by omega)), r (t + 4) _ (Or.inr (by omega)), r (t + 5) _ (Or.inr (by omega)), r (t + 14) _ (Or.inr (by omega)), r (t + 14 + 1) _ (Or.inr (by omega)), r (t + 14 + 2) _ (Or.inr (by omega)), r (t + 14 + 3) _ (Or.inr (by omega))]
    have eft : ∀ wy, fit (up (up c 0 6 wy) 62 0 0) t = fit c t := fun wy => by
      rw [fit_bs, fit_bs, eFT]
      rw [show up (up c 0 6 wy) 62 0 0 t 5 = c t 5 by rw [up_na (by omega), up_na (by omega)]]
    simp only [I.p0, q_fitting _ _ _ _ t I.H]
    refine And.intro (by omega) ?_
    simp only [q_unsureSets _ _ _ _ t I.H, e5']
    have fin : ∀ v, v = (if fit c t = 0 then 0 else w32 (o_shl 1 x - 1)) → At (d + 39 + 1) mX10_surely 41 [mR 16 0, mI (fit c t), mI v, mI 0] [] (G, c) (QI fun r1 ν1 => EvI (d + 40) mX12_surely [mR 18 62] (ν1.1, ν1.2) (fun r2 ν2 => K2 G r1 r2 ν2)) := by
      intro v hv
      refine l_surely (x := x) (d + 38) _ I e5' b7.1 b7.2 (o_shl 1 x).toNat 0 v (by omega) (by omega) ?_
      rw [hv, show fo (fun y s => if bt (fit c t) y = 1 then o_and s y else o_and s s) (o_shl 1 x).toNat 0 (if fit c t = 0 then 0 else w32 (o_shl 1 x - 1)) = _ from hq3]
      refine ev_X12_surely (d + 39) _ G _ 62 (by decide) ⟨by decide, ?_⟩
      rintro _ rfl
      simp only [q_misSlot _ _ _ _ T (M1 _), q_misPerson _ _ _ _ T (M1 _), q_misTurn _ _ _ _ T (M1 _), q_mareTwo _ _ _ _ T (M1 _), q_misPlace _ _ _ _ T (M1 _), (M1 _).p3, hTn, rT, v1, v3, v4, ↓reduceIte, Int.reduceLE, true_and]
      refine f_fitting (d + 36) _ (V1 _) (-1) (fun c' A h30 h31 h32 h75 => ?_)
      rw [eFT] at h30 h31 h32
      dsimp only
      rw [h32]
      rw [hff.1, hff.2.2.1]
      simp only [q_mgood]
      exact ⟨rfl, rfl, IV.q H0 (by decide) ((agr_0 _).tr A)⟩
    by_cases hz : fit c t = 0
    · rw [if_pos hz]
      exact fin 0 (by rw [if_pos hz])
    · rw [if_neg hz]
      exact ⟨by omega, fin _ (by rw [if_neg hz])⟩
theorem k_ask (d : Nat) (G : MG) (c : MC) (H : IV G c) : EvI (d + 40) mX10_ask [mR 16 0] (G, c) (fun r1 ν1 => EvI (d + 40) mX12_ask [mR 18 62] (ν1.1, ν1.2) (fun r2 ν2 => K2 G r1 r2 ν2)) := by
  obtain ⟨hr, t, z, S, V⟩ := H
  have H0 : IV0 G c := ⟨t, z, S, V⟩
  rcases V with V | ⟨T, n, m, u, q, w, x, s, ka, ki, g, V⟩
  · have I := S.ciN V
    have e1 := V.e1; have e3 := V.e3; have e4 := V.e4; have N := V.T
    have N1 : ∀ wy, up (up c 0 6 wy) 62 0 0 62 3 = -1 := fun wy => by rw [up_nj (by decide), up_na (by decide)]; exact N
    refine ev_X10_ask (d + 39) _ G c 0 (by decide) ?_
    simp only [z_isTube _ _ _ _ t I e1, z_isPerson _ _ _ _ t I _ e3, z_isSlot _ _ _ _ t I _ e1, z_isTurn _ _ _ _ t I _ e4, z_areTwo _ _ _ _ t I _ _ e3, z_isPlace _ _ _ _ t I _ e1, ↓reduceIte, q_refused]
    refine ev_X12_ask (d + 39) _ G _ 62 (by decide) ⟨by decide, ?_⟩
    rintro _ rfl
    simp only [q_nisSlot _ _ _ _ (N1 _), q_nisPerson _ _ _ _ (N1 _), q_nisTurn _ _ _ _ (N1 _), q_nareTwo _ _ _ _ (N1 _), q_nisPlace _ _ _ _ (N1 _), N1, ↓reduceIte, q_mrefused, Int.reduceNeg, Int.reduceLT, Int.reduceLE, true_and]
    exact ⟨rfl, rfl, IV.q H0 (by decide) (agr_0 _)⟩
  · have I := S.ciT V
    have M := V.M; have hT := M.T; have ht := V.t
    have v1 := V.v1; have v3 := V.v3; have v4 := V.v4; have e0 := V.e0; have e1 := V.e1; have e3 := V.e3; have e4 := V.e4; have e5 := V.e5
    have b0 := M.b0; have b1 := M.b1; have b3 := M.b3; have b4 := M.b4
    rw [v1] at b1; rw [v3] at b3; rw [v4] at b4
    have hnp : 0 < n := by omega
    have hTn : ¬ T < 0 := by omega
    have M1 : ∀ wy, MDs G (up (up c 0 6 wy) 62 0 0) T := fun wy => (M.ki ki_up7).agr (agr_0 _)
    have r64 : ∀ wy, up (up c 0 6 wy) 62 0 0 64 = c 64 := fun wy => by funext j; rw [up_na (by decide), up_na (by decide)]
    have rT : ∀ wy k, up (up c 0 6 wy) 62 0 0 T k = c T k := fun wy k => by rw [up_na (by omega), up_na (by omega)]
    have rTT : ∀ wy (a : Int), 0 ≤ a → up (up c 0 6 wy) 62 0 0 (T + a) = c (T + a) := fun wy a ha => by funext j; rw [up_na (by omega), up_na (by omega)]
    have rS : ∀ wy a b, sld (up (up c 0 6 wy) 62 0 0) T a b = sld c T a b := fun wy a b => sld_eq (fun a j q => by rw [up_na (by omega), up_na (by omega)]) hT
    have hS : ∀ a b, 0 ≤ a → a < u → 0 ≤ b → b < n → sld c T a b = dg (g a) b := fun a b h1 h2 h3 h4 => by unfold sld; rw [v4, if_pos h2]; exact V.tk a b h1 h2 h3 h4
    have V1 : ∀ wy, TV G (up (up c 0 6 wy) 62 0 0) t T n m u q w x s ka ki g := fun wy => (V.kp ki_up7).kp (ki_agr (agr_0 _))
    skip
    refine ev_X10_ask (d + 39) _ G c 0 (by decide) ?_
    simp only [q_isTube _ _ _ _ t I, q_isPerson _ _ _ _ t I, q_isSlot _ _ _ _ t I, q_isTurn _ _ _ _ t I, q_areTwo _ _ _ _ t I, q_isPlace _ _ _ _ t I, e0, e1, e3, e4, hnp, ↓reduceIte]
    have e5' : c t 5 = x := V.e5
    have b7 := M.b7
    rw [V.v7] at b7
    have N8 := shl1_le b7.1 b7.2
    have hff := tv_fitf V
    have hft := tv_fit V
    obtain ⟨hq1, hq2, hq3, hq4⟩ := chkQ_of b7.1 b7.2 hft.1.1 hft.1.2
    have eFT : ∀ wy, FTB (up (up c 0 6 wy) 62 0 0) t = FTB c t := fun wy => by
      funext y
      have r : ∀ a j, a = t ∨ (t + 1 ≤ a ∧ a ≤ t + 17) → up (up c 0 6 wy) 62 0 0 a j = c a j := fun a j h => by rw [up_na (by omega), up_na (by omega)]
      unfold FTB unl stB hmS hld
      simp only [r t _ (Or.inl rfl), r (t + 2) _ (Or.inr (by omega)), r (t + 4) _ (Or.inr (by omega)), r (t + 5) _ (Or.inr (by omega)), r (t + 14) _ (Or.inr (by omega)), r (t + 14 + 1) _ (Or.inr (by omega)), r (t + 14 + 2) _ (Or.inr (by omega)), r (t + 14 + 3) _ (Or.inr (by omega))]
    have eft : ∀ wy, fit (up (up c 0 6 wy) 62 0 0) t = fit c t := fun wy => by
      rw [fit_bs, fit_bs, eFT]
      rw [show up (up c 0 6 wy) 62 0 0 t 5 = c t 5 by rw [up_na (by omega), up_na (by omega)]]
    simp only [I.p0, q_fitting _ _ _ _ t I.H, q_whom (x := x) _ _ I _ e5' b7.1 b7.2, q_fine]
    refine And.intro (by omega) ?_
    refine ev_X12_ask (d + 39) _ G _ 62 (by decide) ⟨by decide, ?_⟩
    rintro _ rfl
    simp only [q_misSlot _ _ _ _ T (M1 _), q_misPerson _ _ _ _ T (M1 _), q_misTurn _ _ _ _ T (M1 _), q_mareTwo _ _ _ _ T (M1 _), q_misPlace _ _ _ _ T (M1 _), (M1 _).p3, hTn, rT, v1, v3, v4, ↓reduceIte, Int.reduceLE, true_and]
    refine f_asks (d + 35) _ (V1 _) (fun c' A h34 => ?_)
    rw [eft]
    simp only [q_mgood]
    exact ⟨rfl, rfl, IV.q H0 (by decide) ((agr_0 _).tr A)⟩
theorem k_askLeaves (d : Nat) (G : MG) (c : MC) (H : IV G c) : EvI (d + 40) mX10_askLeaves [mR 16 0] (G, c) (fun r1 ν1 => EvI (d + 40) mX12_askLeaves [mR 18 62] (ν1.1, ν1.2) (fun r2 ν2 => K2 G r1 r2 ν2)) := by
  obtain ⟨hr, t, z, S, V⟩ := H
  have H0 : IV0 G c := ⟨t, z, S, V⟩
  rcases V with V | ⟨T, n, m, u, q, w, x, s, ka, ki, g, V⟩
  · have I := S.ciN V
    have e1 := V.e1; have e3 := V.e3; have e4 := V.e4; have N := V.T
    have N1 : ∀ wy, up (up c 0 6 wy) 62 0 0 62 3 = -1 := fun wy => by rw [up_nj (by decide), up_na (by decide)]; exact N
    refine ev_X10_askLeaves (d + 39) _ G c 0 (by decide) ?_
    simp only [z_isTube _ _ _ _ t I e1, z_isPerson _ _ _ _ t I _ e3, z_isSlot _ _ _ _ t I _ e1, z_isTurn _ _ _ _ t I _ e4, z_areTwo _ _ _ _ t I _ _ e3, z_isPlace _ _ _ _ t I _ e1, ↓reduceIte, q_refused]
    refine ev_X12_askLeaves (d + 39) _ G _ 62 (by decide) ⟨by decide, ?_⟩
    rintro _ rfl
    simp only [q_nisSlot _ _ _ _ (N1 _), q_nisPerson _ _ _ _ (N1 _), q_nisTurn _ _ _ _ (N1 _), q_nareTwo _ _ _ _ (N1 _), q_nisPlace _ _ _ _ (N1 _), N1, ↓reduceIte, q_mrefused, Int.reduceNeg, Int.reduceLT, Int.reduceLE, true_and]
    exact ⟨rfl, rfl, IV.q H0 (by decide) (agr_0 _)⟩
  · have I := S.ciT V
    have M := V.M; have hT := M.T; have ht := V.t
    have v1 := V.v1; have v3 := V.v3; have v4 := V.v4; have e0 := V.e0; have e1 := V.e1; have e3 := V.e3; have e4 := V.e4; have e5 := V.e5
    have b0 := M.b0; have b1 := M.b1; have b3 := M.b3; have b4 := M.b4
    rw [v1] at b1; rw [v3] at b3; rw [v4] at b4
    have hnp : 0 < n := by omega
    have hTn : ¬ T < 0 := by omega
    have M1 : ∀ wy, MDs G (up (up c 0 6 wy) 62 0 0) T := fun wy => (M.ki ki_up7).agr (agr_0 _)
    have r64 : ∀ wy, up (up c 0 6 wy) 62 0 0 64 = c 64 := fun wy => by funext j; rw [up_na (by decide), up_na (by decide)]
    have rT : ∀ wy k, up (up c 0 6 wy) 62 0 0 T k = c T k := fun wy k => by rw [up_na (by omega), up_na (by omega)]
    have rTT : ∀ wy (a : Int), 0 ≤ a → up (up c 0 6 wy) 62 0 0 (T + a) = c (T + a) := fun wy a ha => by funext j; rw [up_na (by omega), up_na (by omega)]
    have rS : ∀ wy a b, sld (up (up c 0 6 wy) 62 0 0) T a b = sld c T a b := fun wy a b => sld_eq (fun a j q => by rw [up_na (by omega), up_na (by omega)]) hT
    have hS : ∀ a b, 0 ≤ a → a < u → 0 ≤ b → b < n → sld c T a b = dg (g a) b := fun a b h1 h2 h3 h4 => by unfold sld; rw [v4, if_pos h2]; exact V.tk a b h1 h2 h3 h4
    have V1 : ∀ wy, TV G (up (up c 0 6 wy) 62 0 0) t T n m u q w x s ka ki g := fun wy => (V.kp ki_up7).kp (ki_agr (agr_0 _))
    skip
    refine ev_X10_askLeaves (d + 39) _ G c 0 (by decide) ?_
    simp only [q_isTube _ _ _ _ t I, q_isPerson _ _ _ _ t I, q_isSlot _ _ _ _ t I, q_isTurn _ _ _ _ t I, q_areTwo _ _ _ _ t I, q_isPlace _ _ _ _ t I, e0, e1, e3, e4, hnp, ↓reduceIte]
    have e5' : c t 5 = x := V.e5
    have b7 := M.b7
    rw [V.v7] at b7
    have N8 := shl1_le b7.1 b7.2
    have hff := tv_fitf V
    have hft := tv_fit V
    obtain ⟨hq1, hq2, hq3, hq4⟩ := chkQ_of b7.1 b7.2 hft.1.1 hft.1.2
    have eFT : ∀ wy, FTB (up (up c 0 6 wy) 62 0 0) t = FTB c t := fun wy => by
      funext y
      have r : ∀ a j, a = t ∨ (t + 1 ≤ a ∧ a ≤ t + 17) → up (up c 0 6 wy) 62 0 0 a j = c a j := fun a j h => by rw [up_na (by omega), up_na (by omega)]
      unfold FTB unl stB hmS hld
      simp only [r t _ (Or.inl rfl), r (t + 2) _ (Or.inr (by omega)), r (t + 4) _ (Or.inr (by omega)), r (t + 5) _ (Or.inr (by omega)), r (t + 14) _ (Or.inr (by omega)), r (t + 14 + 1) _ (Or.inr (by omega)), r (t + 14 + 2) _ (Or.inr (by omega)), r (t + 14 + 3) _ (Or.inr (by omega))]
    have eft : ∀ wy, fit (up (up c 0 6 wy) 62 0 0) t = fit c t := fun wy => by
      rw [fit_bs, fit_bs, eFT]
      rw [show up (up c 0 6 wy) 62 0 0 t 5 = c t 5 by rw [up_na (by omega), up_na (by omega)]]
    simp only [I.p0, q_fitting _ _ _ _ t I.H, q_whom (x := x) _ _ I _ e5' b7.1 b7.2, q_leftAtMost _ _ _ _ t _ _ I.H, q_fine]
    refine And.intro (by omega) ?_
    have el : ∀ k, lam c t (fit c t) k = laC (o_shl 1 x) (fit c t) k := fun k => by unfold lam laC; rw [e5']
    have fin : ∀ v, v = lvC (o_shl 1 x) x (fit c t) → EvI (d + 40) mX12_askLeaves [mR 18 62] (G, up c 0 6 0) (fun r2 ν2 => K2 G v r2 ν2) := by
      intro v hv
      refine ev_X12_askLeaves (d + 39) _ G _ 62 (by decide) ⟨by decide, ?_⟩
      rintro _ rfl
      simp only [q_misSlot _ _ _ _ T (M1 _), q_misPerson _ _ _ _ T (M1 _), q_misTurn _ _ _ _ T (M1 _), q_mareTwo _ _ _ _ T (M1 _), q_misPlace _ _ _ _ T (M1 _), (M1 _).p3, hTn, rT, v1, v3, v4, ↓reduceIte, Int.reduceLE, true_and]
      refine f_asks (d + 35) _ (V1 _) (fun c' A h34 => ?_)
      rw [eft] at h34
      dsimp only
      rw [h34, ← hv]
      simp only [q_mgood]
      exact ⟨rfl, rfl, IV.q H0 (by decide) ((agr_0 _).tr A)⟩
    by_cases hw : whC (o_shl 1 x) x (fit c t) = -2
    · rw [if_pos hw]
      exact fin (-2) (by unfold lvC; rw [if_pos hw])
    · rw [if_neg hw]
      exact ⟨by omega, fin _ (by unfold lvC; rw [if_neg hw, el])⟩
theorem k_fitAt (d : Nat) (G : MG) (c : MC) (a : Int) (H : IV G c) (hb : a < 2147483648) : EvI (d + 40) mX10_fitAt [mR 16 0, mI a] (G, c) (fun r1 ν1 => EvI (d + 40) mX12_fitAt [mR 18 62, mI a] (ν1.1, ν1.2) (fun r2 ν2 => K2 G r1 r2 ν2)) := by
  obtain ⟨hr, t, z, S, V⟩ := H
  have H0 : IV0 G c := ⟨t, z, S, V⟩
  rcases V with V | ⟨T, n, m, u, q, w, x, s, ka, ki, g, V⟩
  · have I := S.ciN V
    have e1 := V.e1; have e3 := V.e3; have e4 := V.e4; have N := V.T
    have N1 : ∀ wy, up (up c 0 6 wy) 62 0 0 62 3 = -1 := fun wy => by rw [up_nj (by decide), up_na (by decide)]; exact N
    refine ev_X10_fitAt (d + 39) _ G c 0 a (by decide) ?_
    simp only [z_isTube _ _ _ _ t I e1, z_isPerson _ _ _ _ t I _ e3, z_isSlot _ _ _ _ t I _ e1, z_isTurn _ _ _ _ t I _ e4, z_areTwo _ _ _ _ t I _ _ e3, z_isPlace _ _ _ _ t I _ e1, ↓reduceIte, q_refused]
    refine ev_X12_fitAt (d + 39) _ G _ 62 a (by decide) ⟨by decide, ?_⟩
    rintro _ rfl
    simp only [q_nisSlot _ _ _ _ (N1 _), q_nisPerson _ _ _ _ (N1 _), q_nisTurn _ _ _ _ (N1 _), q_nareTwo _ _ _ _ (N1 _), q_nisPlace _ _ _ _ (N1 _), N1, ↓reduceIte, q_mrefused, Int.reduceNeg, Int.reduceLT, Int.reduceLE, true_and]
    exact ⟨rfl, rfl, IV.q H0 (by decide) (agr_0 _)⟩
  · have I := S.ciT V
    have M := V.M; have hT := M.T; have ht := V.t
    have v1 := V.v1; have v3 := V.v3; have v4 := V.v4; have e0 := V.e0; have e1 := V.e1; have e3 := V.e3; have e4 := V.e4; have e5 := V.e5
    have b0 := M.b0; have b1 := M.b1; have b3 := M.b3; have b4 := M.b4
    rw [v1] at b1; rw [v3] at b3; rw [v4] at b4
    have hnp : 0 < n := by omega
    have hTn : ¬ T < 0 := by omega
    have M1 : ∀ wy, MDs G (up (up c 0 6 wy) 62 0 0) T := fun wy => (M.ki ki_up7).agr (agr_0 _)
    have r64 : ∀ wy, up (up c 0 6 wy) 62 0 0 64 = c 64 := fun wy => by funext j; rw [up_na (by decide), up_na (by decide)]
    have rT : ∀ wy k, up (up c 0 6 wy) 62 0 0 T k = c T k := fun wy k => by rw [up_na (by omega), up_na (by omega)]
    have rTT : ∀ wy (a : Int), 0 ≤ a → up (up c 0 6 wy) 62 0 0 (T + a) = c (T + a) := fun wy a ha => by funext j; rw [up_na (by omega), up_na (by omega)]
    have rS : ∀ wy a b, sld (up (up c 0 6 wy) 62 0 0) T a b = sld c T a b := fun wy a b => sld_eq (fun a j q => by rw [up_na (by omega), up_na (by omega)]) hT
    have hS : ∀ a b, 0 ≤ a → a < u → 0 ≤ b → b < n → sld c T a b = dg (g a) b := fun a b h1 h2 h3 h4 => by unfold sld; rw [v4, if_pos h2]; exact V.tk a b h1 h2 h3 h4
    have V1 : ∀ wy, TV G (up (up c 0 6 wy) 62 0 0) t T n m u q w x s ka ki g := fun wy => (V.kp ki_up7).kp (ki_agr (agr_0 _))
    skip
    refine ev_X10_fitAt (d + 39) _ G c 0 a (by decide) ?_
    simp only [q_isTube _ _ _ _ t I, q_isPerson _ _ _ _ t I, q_isSlot _ _ _ _ t I, q_isTurn _ _ _ _ t I, q_areTwo _ _ _ _ t I, q_isPlace _ _ _ _ t I, e0, e1, e3, e4, hnp, ↓reduceIte]
    have e5' : c t 5 = x := V.e5
    have b7 := M.b7
    rw [V.v7] at b7
    have N8 := shl1_le b7.1 b7.2
    have hff := tv_fitf V
    have hft := tv_fit V
    obtain ⟨hq1, hq2, hq3, hq4⟩ := chkQ_of b7.1 b7.2 hft.1.1 hft.1.2
    have eFT : ∀ wy, FTB (up (up c 0 6 wy) 62 0 0) t = FTB c t := fun wy => by
      funext y
      have r : ∀ a j, a = t ∨ (t + 1 ≤ a ∧ a ≤ t + 17) → up (up c 0 6 wy) 62 0 0 a j = c a j := fun a j h => by rw [up_na (by omega), up_na (by omega)]
      unfold FTB unl stB hmS hld
      simp only [r t _ (Or.inl rfl), r (t + 2) _ (Or.inr (by omega)), r (t + 4) _ (Or.inr (by omega)), r (t + 5) _ (Or.inr (by omega)), r (t + 14) _ (Or.inr (by omega)), r (t + 14 + 1) _ (Or.inr (by omega)), r (t + 14 + 2) _ (Or.inr (by omega)), r (t + 14 + 3) _ (Or.inr (by omega))]
    have eft : ∀ wy, fit (up (up c 0 6 wy) 62 0 0) t = fit c t := fun wy => by
      rw [fit_bs, fit_bs, eFT]
      rw [show up (up c 0 6 wy) 62 0 0 t 5 = c t 5 by rw [up_na (by omega), up_na (by omega)]]
    have md : ∀ wy, 0 ≤ a → EvI (d + 39) mX12_fitting [mR 18 62, mI a] (G, up (up c 0 6 wy) 62 0 0) (fun r ν => r = fX (FTB c t) a (o_shl 1 x).toNat ∧ ν.1 = G ∧ Agr (up (up c 0 6 wy) 62 0 0) ν.2) := fun wy _ => f_fitting (d + 36) _ (V1 wy) a (fun c' A h30 h31 h32 h75 => ⟨by rw [eFT], rfl, A⟩)
    by_cases ha : a < 0
    · rw [if_pos ha, q_refused]
      refine ev_X12_fitAt (d + 39) _ G _ 62 a (by decide) ⟨by decide, ?_⟩
      rintro _ rfl
      simp only [q_misSlot _ _ _ _ T (M1 _), q_misPerson _ _ _ _ T (M1 _), q_misTurn _ _ _ _ T (M1 _), q_mareTwo _ _ _ _ T (M1 _), q_misPlace _ _ _ _ T (M1 _), (M1 _).p3, hTn, rT, v1, v3, v4, ↓reduceIte, Int.reduceLE, true_and, ha, q_mrefused]
      exact ⟨rfl, rfl, IV.q H0 (by decide) (agr_0 _)⟩
    rw [if_neg ha]
    simp only [I.p0, q_fitting _ _ _ _ t I.H]
    refine And.intro (by omega) ?_
    have hFi : ∀ y, 0 ≤ y → y < o_shl 1 x → (FTB c t y = true ↔ bt (fit c t) y = 1) := fun y y0 y1 => by rw [← hft.2 y y0 y1]; unfold Fb; exact decide_eq_true_iff
    refine l_fitAt (x := x) (d + 38) _ I (F := FTB c t) (a := a) (by omega) hb e5' b7.1 b7.2 hFi (fun y y0 hy => ?_) (fun hy => ?_) (o_shl 1 x).toNat 0 a (by omega) (by omega) (by omega) (by rw [show cnt (FTB c t) 0 = 0 from rfl]; omega) rfl
    · refine ev_X12_fitAt (d + 39) _ G _ 62 a (by decide) ⟨by decide, ?_⟩
      rintro _ rfl
      simp only [q_misSlot _ _ _ _ T (M1 _), q_misPerson _ _ _ _ T (M1 _), q_misTurn _ _ _ _ T (M1 _), q_mareTwo _ _ _ _ T (M1 _), q_misPlace _ _ _ _ T (M1 _), (M1 _).p3, hTn, rT, v1, v3, v4, ↓reduceIte, Int.reduceLE, true_and, ha]
      refine f_fitting (d + 36) _ (V1 _) a (fun c' A h30 h31 h32 h75 => ?_)
      rw [eFT, hy, if_neg (by omega)]
      simp only [q_mgood]
      exact ⟨rfl, rfl, IV.q H0 (by decide) ((agr_0 _).tr A)⟩
    · refine ev_X12_fitAt (d + 39) _ G _ 62 a (by decide) ⟨by decide, ?_⟩
      rintro _ rfl
      simp only [q_misSlot _ _ _ _ T (M1 _), q_misPerson _ _ _ _ T (M1 _), q_misTurn _ _ _ _ T (M1 _), q_mareTwo _ _ _ _ T (M1 _), q_misPlace _ _ _ _ T (M1 _), (M1 _).p3, hTn, rT, v1, v3, v4, ↓reduceIte, Int.reduceLE, true_and, ha]
      refine f_fitting (d + 36) _ (V1 _) a (fun c' A h30 h31 h32 h75 => ?_)
      rw [eFT, hy, if_pos rfl]
      simp only [q_mrefused]
      exact ⟨rfl, rfl, IV.q H0 (by decide) ((agr_0 _).tr A)⟩
theorem stB_0 {c : MC} {t : Int} (h : c t 5 ≤ 8) : stB c t 0 = hmS c t := by
  unfold stB
  have : ∀ (j : Nat) (i r : Int), 0 ≤ i → i + j ≤ 8 → fo (fun i s => if bt 0 i = 1 then wth s (c (t + 4) i) (c (t + 5) i) else s) j i r = r := by
    intro j
    induction j with
    | zero => intro i r _ _; rfl
    | succ j ih =>
      intro i r i0 hi
      simp only [fo]
      have h0 : bt 0 i = 0 := by
        have hk : alln 8 (fun i => decide (bt 0 i = 0)) = true := by decide +kernel
        obtain ⟨i, rfl⟩ := Int.eq_ofNat_of_zero_le i0
        simpa using alln_at hk i (by omega)
      rw [h0, if_neg (by decide)]
      exact ih _ _ (by omega) (by omega)
  exact this _ 0 _ (by omega) (by omega)
theorem k_judge (d : Nat) (G : MG) (c : MC) (H : IV G c) : EvI (d + 40) mX10_judge [mR 16 0] (G, c) (fun r1 ν1 => EvI (d + 40) mX12_judge [mR 18 62] (ν1.1, ν1.2) (fun r2 ν2 => K2 G r1 r2 ν2)) := by
  obtain ⟨hr, t, z, S, V⟩ := H
  have H0 : IV0 G c := ⟨t, z, S, V⟩
  rcases V with V | ⟨T, n, m, u, q, w, x, s, ka, ki, g, V⟩
  · have I := S.ciN V
    have e1 := V.e1; have e3 := V.e3; have e4 := V.e4; have N := V.T
    have N1 : ∀ wy, up (up c 0 6 wy) 62 0 0 62 3 = -1 := fun wy => by rw [up_nj (by decide), up_na (by decide)]; exact N
    refine ev_X10_judge (d + 39) _ G c 0 (by decide) ?_
    simp only [z_isTube _ _ _ _ t I e1, z_isPerson _ _ _ _ t I _ e3, z_isSlot _ _ _ _ t I _ e1, z_isTurn _ _ _ _ t I _ e4, z_areTwo _ _ _ _ t I _ _ e3, z_isPlace _ _ _ _ t I _ e1, ↓reduceIte, q_refused]
    refine ev_X12_judge (d + 39) _ G _ 62 (by decide) ⟨by decide, ?_⟩
    rintro _ rfl
    simp only [q_nisSlot _ _ _ _ (N1 _), q_nisPerson _ _ _ _ (N1 _), q_nisTurn _ _ _ _ (N1 _), q_nareTwo _ _ _ _ (N1 _), q_nisPlace _ _ _ _ (N1 _), N1, ↓reduceIte, q_mrefused, Int.reduceNeg, Int.reduceLT, Int.reduceLE, true_and]
    exact ⟨rfl, rfl, IV.q H0 (by decide) (agr_0 _)⟩
  · have I := S.ciT V
    have M := V.M; have hT := M.T; have ht := V.t
    have v1 := V.v1; have v3 := V.v3; have v4 := V.v4; have e0 := V.e0; have e1 := V.e1; have e3 := V.e3; have e4 := V.e4; have e5 := V.e5
    have b0 := M.b0; have b1 := M.b1; have b3 := M.b3; have b4 := M.b4
    rw [v1] at b1; rw [v3] at b3; rw [v4] at b4
    have hnp : 0 < n := by omega
    have hTn : ¬ T < 0 := by omega
    have M1 : ∀ wy, MDs G (up (up c 0 6 wy) 62 0 0) T := fun wy => (M.ki ki_up7).agr (agr_0 _)
    have r64 : ∀ wy, up (up c 0 6 wy) 62 0 0 64 = c 64 := fun wy => by funext j; rw [up_na (by decide), up_na (by decide)]
    have rT : ∀ wy k, up (up c 0 6 wy) 62 0 0 T k = c T k := fun wy k => by rw [up_na (by omega), up_na (by omega)]
    have rTT : ∀ wy (a : Int), 0 ≤ a → up (up c 0 6 wy) 62 0 0 (T + a) = c (T + a) := fun wy a ha => by funext j; rw [up_na (by omega), up_na (by omega)]
    have rS : ∀ wy a b, sld (up (up c 0 6 wy) 62 0 0) T a b = sld c T a b := fun wy a b => sld_eq (fun a j q => by rw [up_na (by omega), up_na (by omega)]) hT
    have hS : ∀ a b, 0 ≤ a → a < u → 0 ≤ b → b < n → sld c T a b = dg (g a) b := fun a b h1 h2 h3 h4 => by unfold sld; rw [v4, if_pos h2]; exact V.tk a b h1 h2 h3 h4
    have V1 : ∀ wy, TV G (up (up c 0 6 wy) 62 0 0) t T n m u q w x s ka ki g := fun wy => (V.kp ki_up7).kp (ki_agr (agr_0 _))
    skip
    refine ev_X10_judge (d + 39) _ G c 0 (by decide) ?_
    simp only [q_isTube _ _ _ _ t I, q_isPerson _ _ _ _ t I, q_isSlot _ _ _ _ t I, q_isTurn _ _ _ _ t I, q_areTwo _ _ _ _ t I, q_isPlace _ _ _ _ t I, e0, e1, e3, e4, hnp, ↓reduceIte]
    simp only [I.p0, q_homeStand _ _ _ _ t I.H, I.H.p13, q_firstBroken _ _ _ _ _ _ _ I.H.s, q_fine]
    refine ⟨by omega, by omega, by omega, ?_⟩
    have b8 := M.b8; have b7 := M.b7
    rw [V.v8] at b8; rw [V.v7] at b7
    have hv : fi (fun i => decide (bt (hld c (t + 14) (hmS c t)) i = 0)) (fun i => i) (-2) (c (t + 14) 3).toNat 0 = wsF c T s (dg (stB c t 0)) := by
      rw [tv_hld V, V.es, stB_0 (by omega)]
      unfold wsF
      apply fi_congr
      intro k k0 k1
      obtain ⟨A1, A2, A3⟩ := bs_all (fun k => decide (bes (dg (hmS c t) (c (T + 9) k)) (dg (hmS c t) (c (T + 10) k)) = mbt (c T 17) k)) (n := s) (by omega) (by omega)
      refine ⟨?_, rfl⟩
      rw [A3 k k0 (by omega)]
      by_cases h : bes (dg (hmS c t) (c (T + 9) k)) (dg (hmS c t) (c (T + 10) k)) = mbt (c T 17) k
      · rw [if_pos ⟨by omega, decide_eq_true h⟩]; simp [h]
      · rw [if_neg (fun q => h (of_decide_eq_true q.2))]; simp [h]
    rw [hv]
    have eS : stB (up (up c 0 6 0) 62 0 0) t 0 = stB c t 0 := by
      have r : ∀ a j, a = t ∨ (t + 1 ≤ a ∧ a ≤ t + 17) → up (up c 0 6 0) 62 0 0 a j = c a j := fun a j h => by rw [up_na (by omega), up_na (by omega)]
      unfold stB hmS
      simp only [r t _ (Or.inl rfl), r (t + 2) _ (Or.inr (by omega)), r (t + 4) _ (Or.inr (by omega)), r (t + 5) _ (Or.inr (by omega))]
    have eW : ∀ xf, wsF (up (up c 0 6 0) 62 0 0) T s xf = wsF c T s xf := fun xf => by
      unfold wsF
      simp only [rTT 0 9 (by decide), rTT 0 10 (by decide), rT]
    refine ev_X12_judge (d + 39) _ G _ 62 (by decide) ⟨by decide, ?_⟩
    rintro _ rfl
    simp only [q_misSlot _ _ _ _ T (M1 _), q_misPerson _ _ _ _ T (M1 _), q_misTurn _ _ _ _ T (M1 _), q_mareTwo _ _ _ _ T (M1 _), q_misPlace _ _ _ _ T (M1 _), (M1 _).p3, hTn, rT, v1, v3, v4, ↓reduceIte, Int.reduceLE, true_and]
    refine f_lays (d + 37) (V1 _) _ Agr.rf 0 (fun c2 h65 hc2 => ?_)
    have A2 : Agr (up (up c 0 6 0) 62 0 0) c2 := fun a b h => hc2 a b (by unfold scr at h; omega)
    dsimp only
    rw [f_wrong (d + 37) _ (V1 _) A2 _ h65, eS, eW]
    simp only [q_mgood]
    exact ⟨rfl, rfl, IV.q H0 (by decide) ((agr_0 _).tr A2)⟩
