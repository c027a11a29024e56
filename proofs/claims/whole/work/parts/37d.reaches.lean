/-- the turns of the reference slide as the words g do -/
def TM (c : MC) (T n nt : Int) (g : Int → Int) : Prop := ∀ t k, 0 ≤ t → t < nt → 0 ≤ k → k < n → sld c T t k = dg (g t) k
theorem sld_eq {c c' : MC} {T t k : Int} (e : ∀ a j, 80 ≤ a → c' a j = c a j) (hT : 80 ≤ T) : sld c' T t k = sld c T t k := by
  unfold sld
  rw [e T 4 hT, e T 1 hT, e (T + 4) _ (by omega)]
theorem TM.fr {c c' : MC} {T n nt : Int} {g : Int → Int} (h : TM c T n nt g) (e : ∀ a j, 80 ≤ a → c' a j = c a j) (hT : 80 ≤ T) : TM c' T n nt g := fun t k a b x y => by
  rw [sld_eq e hT]; exact h t k a b x y
section
variable (d : Nat) (P0 : MM → Prop) (G : MG)
theorem l_re99 {c : MC} {T n nt ov i t : Int} {g : Int → Int} {S : MC} (M : MDs G c T) (hn : c T 1 = n) (B : BV n g nt S) (Mb : MBT c n S) (D : TM c T n nt g) (hg : ∀ t, 0 ≤ t → t < nt → PM (g t) n) (i0 : 0 ≤ i) (iw : i < S 0 0) (t0 : 0 ≤ t) (tn : t < nt) (hnt : nt ≤ 4)
    (hk : ∀ c', MBT c' n (bF n S (thr (S 1 i) (g t) n) i t) → FrM c c' → At (d + 2) mX12_reaches 75 [mR 18 62, mI ov, mI i, mI (t + 1), MU] [] (G, c') (QV P0)) :
    At (d + 2) mX12_reaches 99 [mR 18 62, mI ov, mI i, mI t, mI 0] [] (G, c) (QV P0) := by
  have hT := M.T; have b1 := M.b1; have b4 := M.b4
  have h2 : 2 ≤ n := by omega
  have h6 : n ≤ 6 := by omega
  have hw := B.w
  have hpi := (B.2.1 i i0 iw).1
  have hp := thr_pm (by omega) (by omega) hpi (hg t t0 tn)
  have wt : w32 (t + 1) = t + 1 := w32i (by omega) (by omega)
  have loop : ∀ (j : Nat) (k : Int), 0 ≤ k → k + j = n → At (d + 2) mX12_reaches 99 [mR 18 62, mI ov, mI i, mI t, mI k] [] (G, wr c 73 0 k (fun k => sld c T t (c 68 (6 * i + k)))) (QV P0) := by
    intro j
    induction j with
    | zero =>
      intro k a b
      have ek : k = n := by omega
      subst ek
      have M' : MDs G (wr c 73 0 k (fun k => sld c T t (c 68 (6 * i + k)))) T := M.kp (fun a j q => wr_ne (by unfold Kp at q; omega))
      have x1 : wr c 73 0 k (fun k => sld c T t (c 68 (6 * i + k))) T 1 = k := by rw [wr_ne (by omega)]; exact hn
      have ho : One (wr c 73 0 k (fun k => sld c T t (c 68 (6 * i + k)))) (thr (S 1 i) (g t) k) k := fun q q0 q1 => by
        rw [wr_in (by omega) (by omega), Mb.e i q i0 iw q0 q1, D t _ t0 tn (hpi.rg q q0 q1).1 (hpi.rg q q0 q1).2, (thr_all (by omega) (by omega)).2 q q0 q1]
      have Mb' : MBT (wr c 73 0 k (fun k => sld c T t (c 68 (6 * i + k)))) k S := Mb.one (fun a j q => wr_ne q)
      have fr : FrM c (wr c 73 0 k (fun k => sld c T t (c 68 (6 * i + k)))) := fun a j p q => wr_ne (by omega)
      obtain ⟨k0, k1⟩ := rnk_rg h2 h6 hp
      apply wp_X12_reaches_99
      have hq := q_ranked d (fun r3 ν3 => 0 ≤ (62 : Int) ∧ (0 ≤ ((ν3.2) 62 23) ∧ 0 ≤ r3 ∧ r3 < gLn (ν3.1) ((ν3.2) 62 23)) ∧ (if ((ν3.2) ((ν3.2) 62 23) r3) = (-1) then EvV (d + 1) mX12_adds [mR 18 62, mI r3, mI i, mI t] (ν3.1, ν3.2) (fun ν4 => At (d + 2) mX12_reaches 75 [mR 18 62, mI ov, mI i, mI (w32 (t + 1)), MU] [] (ν4.1, ν4.2) (QV P0)) else At (d + 2) mX12_reaches 75 [mR 18 62, mI ov, mI i, mI (w32 (t + 1)), MU] [] (ν3.1, ν3.2) (QV P0))) G _ T M' (thr (S 1 i) (g t) k) (by rw [x1]; exact ho) (by rw [x1]; exact hp)
      rw [x1] at hq
      simp only [M'.p3, x1]
      refine ⟨by omega, by omega, ?_⟩
      rw [if_neg (by omega)]
      refine hq.mpr ?_
      simp only [M'.p23, M'.l69, wt]
      refine ⟨by omega, ⟨by omega, k0, k1⟩, ?_⟩
      rw [Mb'.x _ k0 k1]
      by_cases hN : S 5 (rnk (thr (S 1 i) (g t) k) k) = -1
      · rw [if_pos hN]
        exact f_adds d _ G M' x1 B Mb' ho hp hN (Or.inr ⟨i0, iw⟩) (fun c' C' f' => hk c' C' (fr.tr f'))
      · rw [if_neg hN]
        exact hk _ (by rw [bF_old hN]; exact Mb') fr
    | succ j ih =>
      intro k a b
      have wk : w32 (k + 1) = k + 1 := w32i (by omega) (by omega)
      have w6 : w32 (6 * i) = 6 * i := w32i (by omega) (by omega)
      have w7 : w32 (6 * i + k) = 6 * i + k := w32i (by omega) (by omega)
      have M' : MDs G (wr c 73 0 k (fun k => sld c T t (c 68 (6 * i + k)))) T := M.kp (fun a j q => wr_ne (by unfold Kp at q; omega))
      have x1 : wr c 73 0 k (fun k => sld c T t (c 68 (6 * i + k))) T 1 = n := by rw [wr_ne (by omega)]; exact hn
      have x68 : wr c 73 0 k (fun k => sld c T t (c 68 (6 * i + k))) 68 (6 * i + k) = c 68 (6 * i + k) := wr_ne (by decide)
      have hv : 0 ≤ c 68 (6 * i + k) ∧ c 68 (6 * i + k) < n := by rw [Mb.e i k i0 iw a (by omega)]; exact hpi.rg k a (by omega)
      apply wp_X12_reaches_99
      simp only [M'.p3, x1, M'.p22, M'.p27, M'.l68, wk, w6, w7, x68]
      refine ⟨by omega, by omega, ?_⟩
      rw [if_pos (by omega)]
      refine ⟨by omega, by omega, ⟨by omega, by omega, by omega⟩, ?_⟩
      rw [q_slid d _ G _ T M' t _ t0 (by omega) hv.1 (by omega)]
      simp only [M'.l73]
      refine ⟨⟨by omega, by omega, by omega⟩, ?_⟩
      rintro c2 rfl
      rw [sld_eq (c := c) (c' := wr c 73 0 k (fun k => sld c T t (c 68 (6 * i + k)))) (fun a j q => wr_ne (by omega)) hT, wr_up a (by omega) rfl]
      exact ih (k + 1) (by omega) (by omega)
  have := loop n.toNat 0 (by omega) (by omega)
  rw [wr_zero (by omega)] at this
  exact this
theorem l_re75 {T n nt ov i : Int} {g : Int → Int} (hg : ∀ t, 0 ≤ t → t < nt → PM (g t) n) (hnt : nt ≤ 4) (i0 : 0 ≤ i) (i7 : i < 720) :
    ∀ (j : Nat) (t : Int) (c S : MC), MDs G c T → c T 1 = n → BV n g nt S → MBT c n S → TM c T n nt g → ((ov = 0 ∧ nt = c T 4) ∨ (ov = 1 ∧ nt = c T 4 + 1)) → i < S 0 0 → 0 ≤ t → t + j = nt →
    (∀ c', MBT c' n (bT n g S i j t) → FrM c c' → At (d + 2) mX12_reaches 65 [mR 18 62, mI ov, mI (i + 1), MU, MU] [] (G, c') (QV P0)) →
    At (d + 2) mX12_reaches 75 [mR 18 62, mI ov, mI i, mI t, MU] [] (G, c) (QV P0) := by
  have wi : w32 (i + 1) = i + 1 := w32i (by omega) (by omega)
  intro j
  induction j with
  | zero =>
    intro t c S M hn B Mb D ho iw t0 tn hk
    have hT := M.T; have b4 := M.b4
    have w0 : w32 (c T 4 + 0) = c T 4 + 0 := w32i (by omega) (by omega)
    have w1 : w32 (c T 4 + 1) = c T 4 + 1 := w32i (by omega) (by omega)
    apply wp_X12_reaches_75
    simp only [M.p3, wi, w0, w1]
    refine ⟨by omega, by omega, ?_⟩
    rcases ho with ⟨a, b⟩ | ⟨a, b⟩
    · rw [if_pos a, if_neg (by omega)]; exact hk c Mb FrM.rf
    · rw [if_neg (by omega), if_neg (by omega)]; exact hk c Mb FrM.rf
  | succ j ih =>
    intro t c S M hn B Mb D ho iw t0 tn hk
    have hT := M.T; have b4 := M.b4; have b1 := M.b1
    have w0 : w32 (c T 4 + 0) = c T 4 + 0 := w32i (by omega) (by omega)
    have w1 : w32 (c T 4 + 1) = c T 4 + 1 := w32i (by omega) (by omega)
    have hB := bF_BV (n := n) (src := i) (tn := t) (by omega) (by omega) B (thr_pm (by omega) (by omega) (B.2.1 i i0 iw).1 (hg t t0 (by omega))) (Or.inr ⟨i0, iw, t0, by omega, rfl⟩)
    have go : At (d + 2) mX12_reaches 99 [mR 18 62, mI ov, mI i, mI t, mI 0] [] (G, c) (QV P0) := by
      refine l_re99 d P0 G M hn B Mb D hg i0 iw t0 (by omega) hnt (fun c' C' f' => ?_)
      have e4 : c' T 4 = c T 4 := f' T 4 (by omega) (by omega)
      refine ih (t + 1) c' _ (M.frm f') (by rw [f' T 1 (by omega) (by omega)]; exact hn) hB.1 C' (D.fr (fun a j q => f' a j (by omega) (by omega)) hT) (by rw [e4]; exact ho) (by have := hB.2.1.1; omega) (by omega) (by omega) (fun c2 C2 f2 => hk c2 C2 (f'.tr f2))
    apply wp_X12_reaches_75
    simp only [M.p3, wi, w0, w1]
    refine ⟨by omega, by omega, ?_⟩
    rcases ho with ⟨a, b⟩ | ⟨a, b⟩
    · rw [if_pos a, if_pos (by omega)]; exact go
    · rw [if_neg (by omega), if_pos (by omega)]; exact go
theorem l_re65 {T n nt ov : Int} {g : Int → Int} (hg : ∀ t, 0 ≤ t → t < nt → PM (g t) n) (hnt : nt ≤ 4) (hnt0 : 0 ≤ nt) :
    ∀ (f : Nat) (i : Int) (c S : MC), MDs G c T → c T 1 = n → BV n g nt S → MBT c n S → TM c T n nt g → ((ov = 0 ∧ nt = c T 4) ∨ (ov = 1 ∧ nt = c T 4 + 1)) → 0 ≤ i → i + f = 720 → i ≤ S 0 0 →
    (∀ c', MBT c' n (bO n g nt f i S) → FrM c c' → P0 (G, c')) →
    At (d + 2) mX12_reaches 65 [mR 18 62, mI ov, mI i, MU, MU] [] (G, c) (QV P0) := by
  intro f
  induction f with
  | zero =>
    intro i c S M hn B Mb D ho i0 hi iw hk
    have hw := B.w
    apply wp_X12_reaches_65
    simp only [Mb.w]
    refine ⟨by omega, ?_⟩
    rw [if_neg (by omega)]
    exact hk c Mb FrM.rf
  | succ f ih =>
    intro i c S M hn B Mb D ho i0 hi iw hk
    have hT := M.T; have b1 := M.b1
    apply wp_X12_reaches_65
    simp only [Mb.w]
    refine ⟨by omega, ?_⟩
    simp only [bO] at hk
    by_cases hlt : i < S 0 0
    · rw [if_pos hlt]
      rw [if_pos hlt] at hk
      have hB := bT_BV (n := n) (by omega) (by omega) hg nt.toNat 0 i S B i0 hlt (by omega) (by omega)
      refine l_re75 d P0 G hg hnt i0 (by omega) nt.toNat 0 c S M hn B Mb D ho hlt (by omega) (by omega) (fun c' C' f' => ?_)
      have e4 : c' T 4 = c T 4 := f' T 4 (by omega) (by omega)
      exact ih (i + 1) c' _ (M.frm f') (by rw [f' T 1 (by omega) (by omega)]; exact hn) hB.1 C' (D.fr (fun a j q => f' a j (by omega) (by omega)) hT) (by rw [e4]; exact ho) (by omega) (by omega) (by have := hB.2.1.1; omega) (fun c2 C2 f2 => hk c2 C2 (f'.tr f2))
    · rw [if_neg hlt]
      rw [if_neg hlt] at hk
      exact hk c Mb FrM.rf
/-- the reference comes to all ways -/
theorem f_reaches {c : MC} {T n nt ov : Int} {g : Int → Int} (M : MDs G c T) (hn : c T 1 = n) (D : TM c T n nt g) (hg : ∀ t, 0 ≤ t → t < nt → PM (g t) n) (hnt : nt ≤ 4) (hnt0 : 0 ≤ nt) (ho : (ov = 0 ∧ nt = c T 4) ∨ (ov = 1 ∧ nt = c T 4 + 1))
    (hk : ∀ c', MBT c' n (bfs n g nt) → FrM c c' → P0 (G, c')) : EvV (d + 2) mX12_reaches [mR 18 62, mI ov] (G, c) P0 := by
  have hT := M.T; have b1 := M.b1
  have h2 : 2 ≤ n := by omega
  have h6 : n ≤ 6 := by omega
  have hsm := sam_all (n := n) (by omega) h6
  have loop2 : ∀ (j : Nat) (k : Int) (c' : MC), 0 ≤ k → k + j = n → (∀ q, 0 ≤ q → q < 720 → c' 69 q = -1) → (∀ q, 0 ≤ q → q < k → c' 73 q = q) → FrM c c' → At (d + 2) mX12_reaches 24 [mR 18 62, mI ov, mI k, MU, MU] [] (G, c') (QV P0) := by
    intro j
    induction j with
    | zero =>
      intro k c' k0 hk' hx ho' f'
      have M' := M.frm f'
      have e1 : c' T 1 = n := by rw [f' T 1 (by omega) (by omega)]; exact hn
      apply wp_X12_reaches_24
      simp only [M'.p3, e1]
      refine ⟨by omega, by omega, ?_⟩
      rw [if_neg (by omega)]
      refine ⟨by omega, ?_⟩
      rintro c2 rfl
      have fr : FrM c (up c' 62 28 0) := f'.tr (fun a j p q => by
        by_cases e : a = 62
        · exact up_nj (by omega)
        · exact up_na e)
      have M2 := M.frm fr
      have e2 : up c' 62 28 0 T 1 = n := by rw [fr T 1 (by omega) (by omega)]; exact hn
      have ho2 : One (up c' 62 28 0) (sam n) n := fun q a b => by rw [up_na (by decide), ho' q a (by omega), hsm.2.1 q a b]
      have Mb : MBT (up c' 62 28 0) n bS0 := ⟨up_eq, fun i k a b => absurd b (by have : bS0 0 0 = 0 := rfl; omega), fun i a b => absurd b (by have : bS0 0 0 = 0 := rfl; omega), fun q a b => by rw [up_na (by decide)]; exact hx q a b⟩
      have hq := q_ranked d (fun r3 ν3 => EvV (d + 1) mX12_adds [mR 18 62, mI r3, mI (-1), mI (-1)] (ν3.1, ν3.2) (fun ν4 => At (d + 2) mX12_reaches 65 [mR 18 62, mI ov, mI 0, MU, MU] [] (ν4.1, ν4.2) (QV P0))) G _ T M2 (sam n) (by rw [e2]; exact ho2) (by rw [e2]; exact hsm.1)
      rw [e2] at hq
      refine hq.mpr ?_
      refine f_adds d _ G (g := g) (nt := nt) M2 e2 bS0_BV Mb ho2 hsm.1 rfl (Or.inl rfl) (fun c3 C3 f3 => ?_)
      have fr3 := fr.tr f3
      have e4 : c3 T 4 = c T 4 := fr3 T 4 (by omega) (by omega)
      have B1 := bS1_BV (g := g) (nt := nt) h2 h6
      exact l_re65 d P0 G hg hnt hnt0 720 0 c3 (bS1 n) (M.frm fr3) (by rw [fr3 T 1 (by omega) (by omega)]; exact hn) B1.1 C3 (D.fr (fun a j q => fr3 a j (by omega) (by omega)) hT) (by rw [e4]; exact ho) (by omega) (by omega) (by omega) (fun c4 C4 f4 => hk c4 C4 (fr3.tr f4))
    | succ j ih =>
      intro k c' k0 hk' hx ho' f'
      have M' := M.frm f'
      have e1 : c' T 1 = n := by rw [f' T 1 (by omega) (by omega)]; exact hn
      have wk : w32 (k + 1) = k + 1 := w32i (by omega) (by omega)
      apply wp_X12_reaches_24
      simp only [M'.p3, e1, M'.p27, M'.l73, wk]
      refine ⟨by omega, by omega, ?_⟩
      rw [if_pos (by omega)]
      refine ⟨by omega, ⟨by omega, by omega, by omega⟩, ?_⟩
      rintro c2 rfl
      refine ih (k + 1) _ (by omega) (by omega) (fun q a b => ?_) (fun q a b => ?_) (f'.tr fun a j p q => up_na (by omega))
      · rw [up_na (by decide)]; exact hx q a b
      · by_cases e : q = k
        · rw [e, up_eq]
        · rw [up_nj e]; exact ho' q a (by omega)
  have loop1 : ∀ (j : Nat) (k : Int) (c' : MC), 0 ≤ k → k + j = 720 → (∀ q, 0 ≤ q → q < k → c' 69 q = -1) → FrM c c' → At (d + 2) mX12_reaches 2 [mR 18 62, mI ov, mI k, MU, MU] [] (G, c') (QV P0) := by
    intro j
    induction j with
    | zero =>
      intro k c' k0 hk' hx f'
      apply wp_X12_reaches_2
      rw [if_neg (by omega)]
      exact loop2 n.toNat 0 c' (by omega) (by omega) (fun q a b => hx q a (by omega)) (fun q a b => by omega) f'
    | succ j ih =>
      intro k c' k0 hk' hx f'
      have M' := M.frm f'
      have wk : w32 (k + 1) = k + 1 := w32i (by omega) (by omega)
      apply wp_X12_reaches_2
      simp only [M'.p23, M'.l69, wk]
      rw [if_pos (by omega)]
      refine ⟨by omega, ⟨by omega, by omega, by omega⟩, ?_⟩
      rintro c2 rfl
      refine ih (k + 1) _ (by omega) (by omega) (fun q a b => ?_) (f'.tr fun a j p q => up_na (by omega))
      by_cases e : q = k
      · rw [e, up_eq]
      · rw [up_nj e]; exact hx q a (by omega)
  exact ev_X12_reaches (d + 1) P0 G c 62 ov (by decide) (loop1 720 0 c (by omega) (by omega) (fun q a b => by omega) FrM.rf)
end
