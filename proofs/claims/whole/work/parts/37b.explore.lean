def TG (G : MG) (c : MC) (t m : Int) (g : Int → Int) (n : Int) : Prop := (t = 1 ∨ t = 24) ∧ (c t 1 = n) ∧ (c t 4 = m) ∧ (c t 8 = t + 3) ∧ (gLn G (t + 3) = 3) ∧ (0 ≤ m ∧ m ≤ 3) ∧ (∀ i, 0 ≤ i → i < m → c (t + 3) i = g i)
theorem TG.t {G : MG} {c : MC} {t m : Int} {g : Int → Int} {n : Int} (h : TG G c t m g n) : t = 1 ∨ t = 24 := h.1
theorem TG.n {G : MG} {c : MC} {t m : Int} {g : Int → Int} {n : Int} (h : TG G c t m g n) : c t 1 = n := h.2.1
theorem TG.m {G : MG} {c : MC} {t m : Int} {g : Int → Int} {n : Int} (h : TG G c t m g n) : c t 4 = m := h.2.2.1
theorem TG.p {G : MG} {c : MC} {t m : Int} {g : Int → Int} {n : Int} (h : TG G c t m g n) : c t 8 = t + 3 := h.2.2.2.1
theorem TG.l {G : MG} {c : MC} {t m : Int} {g : Int → Int} {n : Int} (h : TG G c t m g n) : gLn G (t + 3) = 3 := h.2.2.2.2.1
theorem TG.b {G : MG} {c : MC} {t m : Int} {g : Int → Int} {n : Int} (h : TG G c t m g n) : 0 ≤ m ∧ m ≤ 3 := h.2.2.2.2.2.1
theorem TG.g {G : MG} {c : MC} {t m : Int} {g : Int → Int} {n : Int} (h : TG G c t m g n) : ∀ i, 0 ≤ i → i < m → c (t + 3) i = g i := h.2.2.2.2.2.2
theorem TG.fr {G : MG} {c c' : MC} {t m n r : Int} {g : Int → Int} (h : TG G c t m g n) (hr : r = 45 ∨ r = 52) (f : FrR r c c') : TG G c' t m g n := by
  have ht := h.t
  refine ⟨h.t, ?_, ?_, ?_, h.l, h.b, fun i a b => ?_⟩
  · rw [f t 1 (by omega)]; exact h.n
  · rw [f t 4 (by omega)]; exact h.m
  · rw [f t 8 (by omega)]; exact h.p
  · rw [f (t + 3) i (by omega)]; exact h.g i a b
section
variable (d : Nat) (P0 : MM → Prop) (G : MG)
theorem l_ex100 {r n nt t m mi ow i : Int} {g : Int → Int} (h2 : 2 ≤ n) (h6 : n ≤ 6) (hg : ∀ t, 0 ≤ t → t < nt → PM (g t) n) (hm : (mi = 0 ∧ nt = m) ∨ (mi = 1 ∧ nt = m + 1 ∧ g m = ow)) (i0 : 0 ≤ i) :
    ∀ (j : Nat) (u : Int) (c S : MC), BV n g nt S → CBT G c r n S → TG G c t m g n → i < S 0 0 → i < 720 → 0 ≤ u → u + j = m →
    (∀ c', CBT G c' r n (bT n g S i (nt - u).toNat u) → FrR r c c' → c' r 0 = c r 0 → At (d + 4) mX4_explore 80 [mR 11 r, mR 15 t, mI mi, mI ow, mI (i + 1), MU] [] (G, c') (QV P0)) →
    At (d + 4) mX4_explore 100 [mR 11 r, mR 15 t, mI mi, mI ow, mI i, mI u] [] (G, c) (QV P0) := by
  intro j
  induction j with
  | zero =>
    intro u c S B C D iw i7 u0 hu hk
    have hr := C.h.r; have ht := D.t; have hb := D.b
    have wi : w32 (i + 1) = i + 1 := w32i (by omega) (by omega)
    apply wp_X4_explore_100
    simp only [D.m, wi, C.h.p3, C.h.l1, C.n, q_X7_through _ _ G c _ _ n (show n ≤ 1000 by omega)]
    refine ⟨by omega, ?_⟩
    rw [if_neg (by omega)]
    rcases hm with ⟨m0, m1⟩ | ⟨m0, m1, m2⟩
    · rw [if_pos m0]
      have : (nt - u).toNat = 0 := by omega
      rw [this] at hk
      exact hk c C FrR.rf rfl
    · rw [if_neg (by omega)]
      refine ⟨by omega, ⟨by omega, by omega, by omega⟩, by omega, by omega, ?_⟩
      have : (nt - u).toNat = 0 + 1 := by omega
      rw [this] at hk
      rw [(C.e i i0 iw).1, ← m2]
      refine f_find d _ G (g := g) (nt := nt) h2 h6 B C (thr_pm (by omega) (by omega) (B.2.1 i i0 iw).1 (hg m (by omega) (by omega))) (Or.inr ⟨i0, iw, by omega, by omega, rfl⟩) (fun c' C' f' e' => ?_)
      rw [show u = m by omega] at hk
      rw [m2]
      exact hk c' C' f' e'
  | succ j ih =>
    intro u c S B C D iw i7 u0 hu hk
    have hr := C.h.r; have ht := D.t; have hb := D.b
    have wu : w32 (u + 1) = u + 1 := w32i (by omega) (by omega)
    apply wp_X4_explore_100
    simp only [D.m, D.p, D.l, wu, C.h.p3, C.h.l1, C.n, q_X7_through _ _ G c _ _ n (show n ≤ 1000 by omega)]
    refine ⟨by omega, ?_⟩
    rw [if_pos (by omega)]
    refine ⟨by omega, ⟨by omega, by omega, by omega⟩, by omega, ⟨by omega, by omega, by omega⟩, by omega, ?_⟩
    rw [(C.e i i0 iw).1, D.g u u0 (by omega)]
    have hp := thr_pm (by omega) (by omega) (B.2.1 i i0 iw).1 (hg u (by omega) (by omega))
    have hs : (i = -1 ∧ u = -1 ∧ S 0 0 = 0 ∧ thr (S 1 i) (g u) n = sam n) ∨ (0 ≤ i ∧ i < S 0 0 ∧ 0 ≤ u ∧ u < nt ∧ thr (S 1 i) (g u) n = thr (S 1 i) (g u) n) := Or.inr ⟨i0, iw, by omega, by omega, rfl⟩
    have hB := bF_BV h2 h6 B hp hs
    refine f_find d _ G (g := g) (nt := nt) h2 h6 B C hp hs (fun c' C' f' e' => ?_)
    refine ih (u + 1) c' _ hB.1 C' (D.fr hr f') (by have := hB.2.1.1; omega) i7 (by omega) (by omega) (fun c2 C2 f2 e2 => ?_)
    refine hk c2 ?_ (f'.tr f2) (e2.trans e')
    have : (nt - u).toNat = (nt - (u + 1)).toNat + 1 := by omega
    rw [this]
    exact C2
theorem l_ex80 {r n nt t m mi ow : Int} {g : Int → Int} (h2 : 2 ≤ n) (h6 : n ≤ 6) (hg : ∀ t, 0 ≤ t → t < nt → PM (g t) n) (hm : (mi = 0 ∧ nt = m) ∨ (mi = 1 ∧ nt = m + 1 ∧ g m = ow)) :
    ∀ (f : Nat) (i : Int) (c S : MC), BV n g nt S → CBT G c r n S → TG G c t m g n → 0 ≤ i → i + f = 720 → i ≤ S 0 0 →
    (∀ c', CBT G c' r n (bO n g nt f i S) → FrR r c c' → c' r 0 = 1 → P0 (G, c')) →
    At (d + 4) mX4_explore 80 [mR 11 r, mR 15 t, mI mi, mI ow, mI i, MU] [] (G, c) (QV P0) := by
  intro f
  induction f with
  | zero =>
    intro i c S B C D i0 hi iw hk
    have hr := C.h.r; have hw := B.w
    apply wp_X4_explore_80
    simp only [C.w]
    refine ⟨by omega, ?_⟩
    rw [if_neg (by omega)]
    refine ⟨by omega, by omega, ?_⟩
    rintro c' rfl
    refine hk _ ⟨⟨hr, ?_, ?_, ?_, ?_, ?_, ?_, C.h.l1, C.h.l2, C.h.l3, C.h.l4, C.h.l5, C.h.l6⟩, ?_, ?_, fun k a b => ?_, fun q a b => ?_, fun q a b => ?_⟩ (fun a j q => ?_) up_eq
    · rw [up_nj (by omega)]; exact C.h.p3
    · rw [up_nj (by omega)]; exact C.h.p4
    · rw [up_nj (by omega)]; exact C.h.p5
    · rw [up_nj (by omega)]; exact C.h.p6
    · rw [up_nj (by omega)]; exact C.h.p7
    · rw [up_nj (by omega)]; exact C.h.p8
    · rw [up_nj (by omega)]; exact C.n
    · rw [up_nj (by omega)]; exact C.w
    · rw [up_na (by omega), up_na (by omega), up_na (by omega), up_na (by omega)]; exact C.e k a b
    · rw [up_na (by omega)]; exact C.x q a b
    · rw [up_na (by omega)]; exact C.y q a b
    · rw [up_na (by omega)]
  | succ f ih =>
    intro i c S B C D i0 hi iw hk
    have hr := C.h.r; have hw := B.w; have hb := D.b
    apply wp_X4_explore_80
    simp only [C.w]
    refine ⟨by omega, ?_⟩
    simp only [bO] at hk
    by_cases hlt : i < S 0 0
    · rw [if_pos hlt, if_pos (by omega)]
      rw [if_pos hlt] at hk
      have hT := bT_BV h2 h6 hg nt.toNat 0 i S B i0 hlt (by omega) (by omega)
      refine l_ex100 d P0 G h2 h6 hg hm i0 m.toNat 0 c S B C D hlt (by omega) (by omega) (by omega) (fun c' C' f' e' => ?_)
      rw [show (nt - 0).toNat = nt.toNat by omega] at C'
      refine ih (i + 1) c' _ hT.1 C' (D.fr hr f') (by omega) (by omega) (by have := hT.2.1.1; omega) (fun c2 C2 f2 e2 => ?_)
      exact hk c2 C2 (f'.tr f2) e2
    · rw [if_neg hlt]
      rw [if_neg hlt] at hk
      refine ⟨by omega, by omega, ?_⟩
      rintro c' rfl
      refine hk _ ⟨⟨hr, ?_, ?_, ?_, ?_, ?_, ?_, C.h.l1, C.h.l2, C.h.l3, C.h.l4, C.h.l5, C.h.l6⟩, ?_, ?_, fun k a b => ?_, fun q a b => ?_, fun q a b => ?_⟩ (fun a j q => ?_) up_eq
      · rw [up_nj (by omega)]; exact C.h.p3
      · rw [up_nj (by omega)]; exact C.h.p4
      · rw [up_nj (by omega)]; exact C.h.p5
      · rw [up_nj (by omega)]; exact C.h.p6
      · rw [up_nj (by omega)]; exact C.h.p7
      · rw [up_nj (by omega)]; exact C.h.p8
      · rw [up_nj (by omega)]; exact C.n
      · rw [up_nj (by omega)]; exact C.w
      · rw [up_na (by omega), up_na (by omega), up_na (by omega), up_na (by omega)]; exact C.e k a b
      · rw [up_na (by omega)]; exact C.x q a b
      · rw [up_na (by omega)]; exact C.y q a b
      · rw [up_na (by omega)]
/-- the class comes to all ways -/
theorem f_explore {c : MC} {r n nt t m mi : Int} {g : Int → Int} (R : RCs G c r) (h2 : 2 ≤ n) (h6 : n ≤ 6) (hg : ∀ t, 0 ≤ t → t < nt → PM (g t) n) (D : TG G c t m g n) (hm : (mi = 0 ∧ nt = m) ∨ (mi = 1 ∧ nt = m + 1 ∧ g m = owr n))
    (hk : ∀ c', CBT G c' r n (bfs n g nt) → FrR r c c' → c' r 0 = 1 → P0 (G, c')) : EvV (d + 4) mX4_explore [mR 11 r, mR 15 t, mI mi] (G, c) P0 := by
  have hr := R.r; have ht := D.t
  have hb := D.b
  refine ev_X4_explore (d + 3) P0 G c r t mi (by omega) ?_
  rw [D.n]
  refine ⟨by omega, by omega, ?_⟩
  rintro c1 rfl
  refine ⟨by omega, ?_⟩
  rintro c2 rfl
  have loop2 : ∀ (j : Nat) (i : Int) (c' : MC), 0 ≤ i → i + j = 7 → RCs G c' r → c' r 1 = n → c' r 2 = 0 → (∀ q, 0 ≤ q → q < 720 → c' (r + 5) q = -1) → (∀ q, 0 ≤ q → q < i → c' (r + 6) q = 0) → FrR r c c' → At (d + 4) mX4_explore 37 [mR 11 r, mR 15 t, mI mi, mI i, MU, MU] [] (G, c') (QV P0) := by
    intro j
    induction j with
    | zero =>
      intro i c' i0 hi R' e1 e2 ex ey ef
      apply wp_X4_explore_37
      rw [if_pos (by omega)]
      simp only [e1, q_X7_same]
      refine ⟨by omega, ?_⟩
      have hsm := (sam_all (n := n) (by omega) h6).1
      have C0 : CBT G c' r n bS0 := ⟨R', e1, e2, fun k a b => absurd b (by have : bS0 0 0 = 0 := rfl; omega), fun q a b => ex q a b, fun q a b => by rw [ey q a (by omega)]; rfl⟩
      refine f_find d _ G (g := g) (nt := nt) (src := -1) (tn := -1) h2 h6 bS0_BV C0 hsm (Or.inl ⟨rfl, rfl, rfl, rfl⟩) (fun c3 C3 f3 e3 => ?_)
      refine ⟨by omega, ?_⟩
      simp only [C3.n, q_X7_otherWayRound _ _ G _ n (show n ≤ 1000 by omega)]
      have B1 := bS1_BV (g := g) (nt := nt) h2 h6
      exact l_ex80 d P0 G h2 h6 hg hm 720 0 c3 (bS1 n) B1.1 C3 (D.fr hr (ef.tr f3)) (by omega) (by omega) (by omega) (fun c4 C4 f4 e4 => hk c4 C4 ((ef.tr f3).tr f4) e4)
    | succ j ih =>
      intro i c' i0 hi R' e1 e2 ex ey ef
      have wi : w32 (i + 1) = i + 1 := w32i (by omega) (by omega)
      apply wp_X4_explore_37
      rw [if_neg (by omega)]
      simp only [R'.p8, R'.l6, wi]
      refine ⟨by omega, ⟨by omega, by omega, by omega⟩, ?_⟩
      rintro c4 rfl
      refine ih (i + 1) _ (by omega) (by omega) ⟨hr, ?_, ?_, ?_, ?_, ?_, ?_, R'.l1, R'.l2, R'.l3, R'.l4, R'.l5, R'.l6⟩ ?_ ?_ (fun q a b => ?_) (fun q a b => ?_) (fun a j q => ?_)
      · rw [up_na (by omega)]; exact R'.p3
      · rw [up_na (by omega)]; exact R'.p4
      · rw [up_na (by omega)]; exact R'.p5
      · rw [up_na (by omega)]; exact R'.p6
      · rw [up_na (by omega)]; exact R'.p7
      · rw [up_na (by omega)]; exact R'.p8
      · rw [up_na (by omega)]; exact e1
      · rw [up_na (by omega)]; exact e2
      · rw [up_na (by omega)]; exact ex q a b
      · by_cases e : q = i
        · rw [e, up_eq]
        · rw [up_nj e]; exact ey q a (by omega)
      · rw [up_na (by omega)]; exact ef a j q
  have loop1 : ∀ (j : Nat) (i : Int) (c' : MC), 0 ≤ i → i + j = 720 → RCs G c' r → c' r 1 = n → c' r 2 = 0 → (∀ q, 0 ≤ q → q < i → c' (r + 5) q = -1) → FrR r c c' → At (d + 4) mX4_explore 15 [mR 11 r, mR 15 t, mI mi, mI i, MU, MU] [] (G, c') (QV P0) := by
    intro j
    induction j with
    | zero =>
      intro i c' i0 hi R' e1 e2 ex ef
      apply wp_X4_explore_15
      rw [if_neg (by omega)]
      exact loop2 7 0 c' (by omega) (by omega) R' e1 e2 (fun q a b => ex q a (by omega)) (fun q a b => by omega) ef
    | succ j ih =>
      intro i c' i0 hi R' e1 e2 ex ef
      have wi : w32 (i + 1) = i + 1 := w32i (by omega) (by omega)
      apply wp_X4_explore_15
      rw [if_pos (by omega)]
      simp only [R'.p7, R'.l5, wi]
      refine ⟨by omega, ⟨by omega, by omega, by omega⟩, ?_⟩
      rintro c4 rfl
      refine ih (i + 1) _ (by omega) (by omega) ⟨hr, ?_, ?_, ?_, ?_, ?_, ?_, R'.l1, R'.l2, R'.l3, R'.l4, R'.l5, R'.l6⟩ ?_ ?_ (fun q a b => ?_) (fun a j q => ?_)
      · rw [up_na (by omega)]; exact R'.p3
      · rw [up_na (by omega)]; exact R'.p4
      · rw [up_na (by omega)]; exact R'.p5
      · rw [up_na (by omega)]; exact R'.p6
      · rw [up_na (by omega)]; exact R'.p7
      · rw [up_na (by omega)]; exact R'.p8
      · rw [up_na (by omega)]; exact e1
      · rw [up_na (by omega)]; exact e2
      · by_cases e : q = i
        · rw [e, up_eq]
        · rw [up_nj e]; exact ex q a (by omega)
      · rw [up_na (by omega)]; exact ef a j q
  refine loop1 720 0 _ (by omega) (by omega) ⟨hr, ?_, ?_, ?_, ?_, ?_, ?_, R.l1, R.l2, R.l3, R.l4, R.l5, R.l6⟩ ?_ ?_ (fun q a b => by omega) (fun a j q => ?_)
  · rw [up_nj (by omega), up_nj (by omega)]; exact R.p3
  · rw [up_nj (by omega), up_nj (by omega)]; exact R.p4
  · rw [up_nj (by omega), up_nj (by omega)]; exact R.p5
  · rw [up_nj (by omega), up_nj (by omega)]; exact R.p6
  · rw [up_nj (by omega), up_nj (by omega)]; exact R.p7
  · rw [up_nj (by omega), up_nj (by omega)]; exact R.p8
  · rw [up_nj (by omega), up_eq]
  · rw [up_eq]
  · rw [up_na (by omega), up_na (by omega)]
end
