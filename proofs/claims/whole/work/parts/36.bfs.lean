/-! all ways that turns come to, in the order in which they do -/
def bF (n : Int) (S : MC) (x src tn : Int) : MC := if S 5 (rnk x n) = -1 then up (up (up (up (up (up S 5 (rnk x n) (S 0 0)) 1 (S 0 0) x) 2 (S 0 0) (if src = -1 then 0 else S 2 src + 1)) 3 (S 0 0) src) 4 (S 0 0) tn) 0 0 (S 0 0 + 1) else S
theorem bF_new {n : Int} {S : MC} {x src tn : Int} (h : S 5 (rnk x n) = -1) :
    bF n S x src tn 0 0 = S 0 0 + 1 ∧ (∀ i, bF n S x src tn 1 i = if i = S 0 0 then x else S 1 i) ∧ (∀ i, bF n S x src tn 2 i = if i = S 0 0 then (if src = -1 then 0 else S 2 src + 1) else S 2 i) ∧ (∀ i, bF n S x src tn 3 i = if i = S 0 0 then src else S 3 i) ∧ (∀ i, bF n S x src tn 4 i = if i = S 0 0 then tn else S 4 i) ∧ (∀ q, bF n S x src tn 5 q = if q = rnk x n then S 0 0 else S 5 q) := by
  unfold bF
  rw [if_pos h]
  refine ⟨?_, fun i => ?_, fun i => ?_, fun i => ?_, fun i => ?_, fun i => ?_⟩ <;> simp [up]
theorem bF_old {n : Int} {S : MC} {x src tn : Int} (h : S 5 (rnk x n) ≠ -1) : bF n S x src tn = S := by unfold bF; rw [if_neg h]
def BV (n : Int) (g : Int → Int) (nt : Int) (S : MC) : Prop :=
  S 0 0 = cnt (fun q => decide (S 5 q ≠ -1)) 720 ∧
  (∀ i, 0 ≤ i → i < S 0 0 → PM (S 1 i) n ∧ S 5 (rnk (S 1 i) n) = i ∧ 0 ≤ S 2 i ∧ S 2 i ≤ i ∧ ((i = 0 ∧ S 3 i = -1 ∧ S 4 i = -1 ∧ S 2 i = 0 ∧ S 1 i = sam n) ∨ (0 < i ∧ 0 ≤ S 3 i ∧ S 3 i < i ∧ 0 ≤ S 4 i ∧ S 4 i < nt ∧ S 2 i = S 2 (S 3 i) + 1 ∧ S 1 i = thr (S 1 (S 3 i)) (g (S 4 i)) n))) ∧
  (∀ q, 0 ≤ q → q < 720 → S 5 q = -1 ∨ (0 ≤ S 5 q ∧ S 5 q < S 0 0 ∧ rnk (S 1 (S 5 q)) n = q))
theorem BV.w {n nt : Int} {g : Int → Int} {S : MC} (h : BV n g nt S) : 0 ≤ S 0 0 ∧ S 0 0 ≤ 720 := by
  rw [h.1]
  exact cnt_rg _ 720 0
theorem BV.lt {n nt : Int} {g : Int → Int} {S : MC} (h : BV n g nt S) {r : Int} (h0 : 0 ≤ r) (h1 : r < 720) (hr : S 5 r = -1) : S 0 0 < 720 := by
  rw [h.1]
  exact cnt_lt _ 720 0 r (by omega) (by omega) (by simp [hr])
def Ext (S S' : MC) : Prop := S 0 0 ≤ S' 0 0 ∧ (∀ k i, 1 ≤ k → k ≤ 4 → i < S 0 0 → S' k i = S k i) ∧ (∀ q, S 5 q ≠ -1 → S' 5 q = S 5 q)
theorem Ext.rf {S : MC} : Ext S S := ⟨Int.le_refl _, fun _ _ _ _ _ => rfl, fun _ _ => rfl⟩
theorem Ext.tr {S S' S'' : MC} (h : Ext S S') (h' : Ext S' S'') : Ext S S'' := ⟨Int.le_trans h.1 h'.1, fun k i a b e => (h'.2.1 k i a b (Int.lt_of_lt_of_le e h.1)).trans (h.2.1 k i a b e), fun q hq => by rw [h'.2.2 q (by rw [h.2.2 q hq]; exact hq), h.2.2 q hq]⟩
theorem bF_BV {n nt : Int} {g : Int → Int} {S : MC} {x src tn : Int} (h2 : 2 ≤ n) (h6 : n ≤ 6) (B : BV n g nt S) (hx : PM x n)
    (hs : (src = -1 ∧ tn = -1 ∧ S 0 0 = 0 ∧ x = sam n) ∨ (0 ≤ src ∧ src < S 0 0 ∧ 0 ≤ tn ∧ tn < nt ∧ x = thr (S 1 src) (g tn) n)) :
    BV n g nt (bF n S x src tn) ∧ Ext S (bF n S x src tn) ∧ bF n S x src tn 5 (rnk x n) ≠ -1 := by
  by_cases h : S 5 (rnk x n) = -1
  · obtain ⟨e0, e1, e2, e3, e4, e5⟩ := bF_new (src := src) (tn := tn) h
    obtain ⟨r0, r1⟩ := rnk_rg h2 h6 hx
    have hw := B.w
    have hlt := B.lt r0 r1 h
    refine ⟨⟨?_, fun i hi0 hi => ?_, fun q hq0 hq => ?_⟩, ⟨by omega, fun k i hk hk' hi => ?_, fun q hq => ?_⟩, ?_⟩
    · rw [e0, B.1]
      unfold cnt
      have := cnt_upd (p := fun q => decide (S 5 q ≠ -1)) (q := fun q => decide (bF n S x src tn 5 q ≠ -1)) (rnk x n) (by simp [h]) (by simp only [e5]; simp; omega) (fun i hi => by simp only [e5, if_neg hi]) 720 0
      rw [show (720 : Int).toNat = 720 from rfl, this, if_pos (by omega)]
    · rw [e0] at hi
      by_cases ei : i = S 0 0
      · rw [e1, e2, e3, e4, e5, if_pos ei, if_pos ei, if_pos ei, if_pos ei, if_pos rfl]
        refine ⟨hx, ei.symm, ?_⟩
        rcases hs with ⟨a1, a2, a3, a4⟩ | ⟨a1, a2, a3, a4, a5⟩
        · rw [if_pos a1]
          exact ⟨by omega, by omega, Or.inl ⟨by omega, a1, a2, rfl, a4⟩⟩
        · rw [if_neg (by omega)]
          have hb := B.2.1 src a1 a2
          refine ⟨by omega, by omega, Or.inr ⟨by omega, a1, by omega, a3, a4, ?_, ?_⟩⟩
          · rw [e2, if_neg (by omega)]
          · rw [e1, if_neg (by omega)]; exact a5
      · have hb := B.2.1 i hi0 (by omega)
        rw [e1, e2, e3, e4, if_neg ei, if_neg ei, if_neg ei, if_neg ei, e5, if_neg (fun q => by rw [q] at hb; omega)]
        refine ⟨hb.1, hb.2.1, hb.2.2.1, hb.2.2.2.1, ?_⟩
        rcases hb.2.2.2.2 with a | ⟨a1, a2, a3, a4, a5, a6, a7⟩
        · exact Or.inl a
        · refine Or.inr ⟨a1, a2, a3, a4, a5, ?_, ?_⟩
          · rw [e2, if_neg (by omega)]; exact a6
          · rw [e1, if_neg (by omega)]; exact a7
    · rw [e5, e0]
      by_cases eq : q = rnk x n
      · rw [if_pos eq]
        refine Or.inr ⟨by omega, by omega, ?_⟩
        rw [e1, if_pos rfl]; exact eq.symm
      · rw [if_neg eq]
        rcases B.2.2 q hq0 hq with a | ⟨a1, a2, a3⟩
        · exact Or.inl a
        · refine Or.inr ⟨a1, by omega, ?_⟩
          rw [e1, if_neg (by omega)]; exact a3
    · have : k = 1 ∨ k = 2 ∨ k = 3 ∨ k = 4 := by omega
      rcases this with rfl | rfl | rfl | rfl
      · rw [e1, if_neg (by omega)]
      · rw [e2, if_neg (by omega)]
      · rw [e3, if_neg (by omega)]
      · rw [e4, if_neg (by omega)]
    · rw [e5, if_neg (fun a => by rw [a] at hq; exact hq h)]
    · rw [e5, if_pos rfl]; omega
  · rw [bF_old h]
    exact ⟨B, Ext.rf, h⟩
def bT (n : Int) (g : Int → Int) (S : MC) (i : Int) (j : Nat) (t : Int) : MC := fo (fun t S => bF n S (thr (S 1 i) (g t) n) i t) j t S
theorem bT_BV {n nt : Int} {g : Int → Int} (h2 : 2 ≤ n) (h6 : n ≤ 6) (hg : ∀ t, 0 ≤ t → t < nt → PM (g t) n) : ∀ (j : Nat) (t i : Int) (S : MC), BV n g nt S → 0 ≤ i → i < S 0 0 → 0 ≤ t → t + j = nt →
    BV n g nt (bT n g S i j t) ∧ Ext S (bT n g S i j t) ∧ ∀ u, t ≤ u → u < nt → bT n g S i j t 5 (rnk (thr (S 1 i) (g u) n) n) ≠ -1 := by
  intro j
  induction j with
  | zero => intro t i S B _ _ _ _; exact ⟨B, Ext.rf, fun u _ _ => by omega⟩
  | succ j ih =>
    intro t i S B i0 iw t0 tn
    have hp := thr_pm (by omega) (by omega) (B.2.1 i i0 iw).1 (hg t t0 (by omega))
    obtain ⟨B1, E1, N1⟩ := bF_BV (src := i) (tn := t) h2 h6 B hp (Or.inr ⟨i0, iw, t0, by omega, rfl⟩)
    obtain ⟨B2, E2, N2⟩ := ih (t + 1) i _ B1 i0 (by have := E1.1; omega) (by omega) (by omega)
    have hs : bF n S (thr (S 1 i) (g t) n) i t 1 i = S 1 i := E1.2.1 1 i (by omega) (by omega) iw
    refine ⟨B2, E1.tr E2, fun u hu hu' => ?_⟩
    by_cases e : u = t
    · subst e
      show bT n g (bF n S (thr (S 1 i) (g u) n) i u) i j (u + 1) 5 _ ≠ -1
      rw [E2.2.2 _ N1]
      exact N1
    · have := N2 u (by omega) hu'
      rw [hs] at this
      exact this
def bO (n : Int) (g : Int → Int) (nt : Int) : Nat → Int → MC → MC
  | 0, _, S => S
  | f + 1, i, S => if i < S 0 0 then bO n g nt f (i + 1) (bT n g S i nt.toNat 0) else S
def Cls (n : Int) (g : Int → Int) (nt k : Int) (S : MC) : Prop := ∀ i t, 0 ≤ i → i < k → 0 ≤ t → t < nt → S 5 (rnk (thr (S 1 i) (g t) n) n) ≠ -1
theorem bO_BV {n nt : Int} {g : Int → Int} (h2 : 2 ≤ n) (h6 : n ≤ 6) (hnt : 0 ≤ nt) (hg : ∀ t, 0 ≤ t → t < nt → PM (g t) n) : ∀ (f : Nat) (i : Int) (S : MC), BV n g nt S → 0 ≤ i → i + f = 720 → i ≤ S 0 0 → Cls n g nt i S → BV n g nt (bO n g nt f i S) ∧ Ext S (bO n g nt f i S) ∧ Cls n g nt (bO n g nt f i S 0 0) (bO n g nt f i S) := by
  intro f
  induction f with
  | zero =>
    intro i S B i0 hi hw C
    have := B.w
    refine ⟨B, Ext.rf, ?_⟩
    simp only [bO]
    rw [show S 0 0 = i by omega]
    exact C
  | succ f ih =>
    intro i S B i0 hi hw C
    simp only [bO]
    split
    · rename_i hlt
      obtain ⟨B1, E1, N1⟩ := bT_BV h2 h6 hg nt.toNat 0 i S B i0 hlt (by omega) (by omega)
      have hC : Cls n g nt (i + 1) (bT n g S i nt.toNat 0) := fun k t k0 hk t0 ht => by
        rw [E1.2.1 1 k (by omega) (by omega) (by omega)]
        by_cases e : k = i
        · subst e; exact N1 t t0 ht
        · have := C k t k0 (by omega) t0 ht
          rw [E1.2.2 _ this]; exact this
      obtain ⟨B2, E2, C2⟩ := ih (i + 1) _ B1 (by omega) (by omega) (by have := E1.1; omega) hC
      exact ⟨B2, E1.tr E2, C2⟩
    · rename_i hge
      refine ⟨B, Ext.rf, ?_⟩
      rw [show S 0 0 = i by omega]
      exact C
def bS0 : MC := fun a _ => if a = 5 then -1 else 0
theorem bS0_BV {n nt : Int} {g : Int → Int} : BV n g nt bS0 := by
  refine ⟨by decide +kernel, fun i h0 h1 => ?_, fun q _ _ => Or.inl rfl⟩
  have : bS0 0 0 = 0 := rfl
  omega
def bS1 (n : Int) : MC := bF n bS0 (sam n) (-1) (-1)
def bfs (n : Int) (g : Int → Int) (nt : Int) : MC := bO n g nt 720 0 (bS1 n)
theorem bS1_BV {n nt : Int} {g : Int → Int} (h2 : 2 ≤ n) (h6 : n ≤ 6) : BV n g nt (bS1 n) ∧ bS1 n 0 0 = 1 ∧ bS1 n 1 0 = sam n := by
  have h := bF_BV (g := g) (nt := nt) (src := -1) (tn := -1) h2 h6 bS0_BV (sam_all (by omega) h6).1 (Or.inl ⟨rfl, rfl, rfl, rfl⟩)
  have e := bF_new (n := n) (S := bS0) (x := sam n) (src := -1) (tn := -1) rfl
  exact ⟨h.1, e.1, e.2.1 0⟩
theorem bfs_all {n nt : Int} {g : Int → Int} (h2 : 2 ≤ n) (h6 : n ≤ 6) (hnt : 0 ≤ nt) (hg : ∀ t, 0 ≤ t → t < nt → PM (g t) n) : BV n g nt (bfs n g nt) ∧ 1 ≤ bfs n g nt 0 0 ∧ bfs n g nt 1 0 = sam n ∧ Cls n g nt (bfs n g nt 0 0) (bfs n g nt) := by
  obtain ⟨B1, e0, e1⟩ := bS1_BV (g := g) (nt := nt) h2 h6
  obtain ⟨B, E, C⟩ := bO_BV h2 h6 hnt hg 720 0 (bS1 n) B1 (by omega) (by omega) (by omega) (fun i t a b => by omega)
  exact ⟨B, by have := E.1; unfold bfs; omega, by unfold bfs; rw [E.2.1 1 0 (by omega) (by omega) (by omega)]; exact e1, C⟩
/-! what is come to is closed under ways behind ways, and each way can be undone -/
def In (n : Int) (S : MC) (x : Int) : Prop := PM x n ∧ S 5 (rnk x n) ≠ -1
theorem In.at {n nt : Int} {g : Int → Int} {S : MC} (h2 : 2 ≤ n) (h6 : n ≤ 6) (B : BV n g nt S) {x : Int} (h : In n S x) : 0 ≤ S 5 (rnk x n) ∧ S 5 (rnk x n) < S 0 0 ∧ S 1 (S 5 (rnk x n)) = x := by
  obtain ⟨r0, r1⟩ := rnk_rg h2 h6 h.1
  rcases B.2.2 _ r0 r1 with a | ⟨a1, a2, a3⟩
  · exact absurd a h.2
  · exact ⟨a1, a2, rnk_inj h2 h6 (B.2.1 _ a1 a2).1 h.1 a3⟩
def RM (n : Int) (S : MC) (y : Int) : Prop := PM y n ∧ ∀ x, In n S x → In n S (thr x y n)
theorem RM.sam {n : Int} {S : MC} (h2 : 2 ≤ n) (h6 : n ≤ 6) : RM n S (sam n) := ⟨(sam_all (by omega) h6).1, fun x hx => by rw [thr_sam (by omega) h6 hx.1]; exact hx⟩
theorem RM.gen {n nt : Int} {g : Int → Int} {S : MC} (h2 : 2 ≤ n) (h6 : n ≤ 6) (B : BV n g nt S) (C : Cls n g nt (S 0 0) S) (hg : ∀ t, 0 ≤ t → t < nt → PM (g t) n) {t : Int} (t0 : 0 ≤ t) (t1 : t < nt) : RM n S (g t) := ⟨hg t t0 t1, fun x hx => by
  obtain ⟨a1, a2, a3⟩ := hx.at h2 h6 B
  have := C _ t a1 a2 t0 t1
  rw [a3] at this
  exact ⟨thr_pm (by omega) (by omega) hx.1 (hg t t0 t1), this⟩⟩
theorem RM.mul {n : Int} {S : MC} (h2 : 2 ≤ n) (h6 : n ≤ 6) {a b : Int} (ha : RM n S a) (hb : RM n S b) : RM n S (thr a b n) := ⟨thr_pm (by omega) (by omega) ha.1 hb.1, fun x hx => by
  rw [← thr_assoc (by omega) h6 hx.1 ha.1 hb.1]
  exact hb.2 _ (ha.2 _ hx)⟩
theorem RM.all {n nt : Int} {g : Int → Int} {S : MC} (h2 : 2 ≤ n) (h6 : n ≤ 6) (B : BV n g nt S) (C : Cls n g nt (S 0 0) S) (hg : ∀ t, 0 ≤ t → t < nt → PM (g t) n) : ∀ (k : Nat) (i : Int), 0 ≤ i → i < k → i < S 0 0 → RM n S (S 1 i) := by
  intro k
  induction k with
  | zero => intro i a b; omega
  | succ k ih =>
    intro i a b e
    rcases (B.2.1 i a e).2.2.2.2 with ⟨q1, q2, q3, q4, q5⟩ | ⟨q1, q2, q3, q4, q5, q6, q7⟩
    · rw [q5]; exact RM.sam h2 h6
    · rw [q7]; exact (ih _ q2 (by omega) (by omega)).mul h2 h6 (RM.gen h2 h6 B C hg q4 q5)
theorem RM.inv {n nt : Int} {g : Int → Int} {S : MC} (h2 : 2 ≤ n) (h6 : n ≤ 6) (B : BV n g nt S) (hw : 0 < S 0 0) (h0 : S 1 0 = CStreetTubeLaw_law_r8614_698fbe.sam n) {y : Int} (hy : RM n S y) : In n S (inv6 y n) := by
  have hsam : In n S (CStreetTubeLaw_law_r8614_698fbe.sam n) := by
    have := B.2.1 0 (by omega) hw
    rw [h0] at this
    exact ⟨this.1, by rw [this.2.1]; omega⟩
  obtain ⟨k, hk⟩ := inv_pw h2 h6 hy.1
  rw [hk]
  have : ∀ k, In n S (pw y n k) := by
    intro k
    induction k with
    | zero => exact hsam
    | succ k ih => exact hy.2 _ ih
  exact this k
theorem RM.in {n nt : Int} {g : Int → Int} {S : MC} (h2 : 2 ≤ n) (h6 : n ≤ 6) (B : BV n g nt S) (hw : 0 < S 0 0) (h0 : S 1 0 = CStreetTubeLaw_law_r8614_698fbe.sam n) {y : Int} (hy : RM n S y) : In n S y := by
  have := B.2.1 0 (by omega) hw
  rw [h0] at this
  have h := hy.2 _ ⟨this.1, by rw [this.2.1]; omega⟩
  rw [sam_thr (by omega) h6 hy.1] at h
  exact h
