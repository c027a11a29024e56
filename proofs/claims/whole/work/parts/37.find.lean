/-! the class's way of coming to all ways -/
theorem fo_succ {α : Type} (f : Int → α → α) : ∀ (j : Nat) (i : Int) (s : α), fo f (j + 1) i s = f (i + j) (fo f j i s) := by
  intro j
  induction j with
  | zero => intro i s; simp [fo]
  | succ j ih =>
    intro i s
    rw [show fo f (j + 1 + 1) i s = fo f (j + 1) (i + 1) (f i s) from rfl, ih, show fo f (j + 1) i s = fo f j (i + 1) (f i s) from rfl]
    congr 1
    omega
theorem cnt_succ (p : Int → Bool) {n : Int} (h : 0 ≤ n) : cnt p (n + 1) = cnt p n + if p n = true then 1 else 0 := by
  unfold cnt
  rw [show (n + 1).toNat = n.toNat + 1 by omega, fo_succ, show (0 : Int) + (n.toNat : Nat) = n by omega]
  split <;> omega
theorem cnt_congr {p q : Int → Bool} {n : Int} (h : ∀ i, 0 ≤ i → i < n → p i = q i) : cnt p n = cnt q n := by
  unfold cnt
  apply fo_congr
  intro k s h1 h2
  rw [h k h1 (by omega)]
theorem cnt_b (p : Int → Bool) {n : Int} (h : 0 ≤ n) : 0 ≤ cnt p n ∧ cnt p n ≤ n := by
  have := cnt_rg p n.toNat 0
  unfold cnt
  omega
def RCs (G : MG) (c : MC) (r : Int) : Prop := (r = 45 ∨ r = 52) ∧ (c r 3 = r + 1) ∧ (c r 4 = r + 2) ∧ (c r 5 = r + 3) ∧ (c r 6 = r + 4) ∧ (c r 7 = r + 5) ∧ (c r 8 = r + 6) ∧ (gLn G (r + 1) = 720) ∧ (gLn G (r + 2) = 720) ∧ (gLn G (r + 3) = 720) ∧ (gLn G (r + 4) = 720) ∧ (gLn G (r + 5) = 720) ∧ (gLn G (r + 6) = 7)
theorem RCs.r {G : MG} {c : MC} {r : Int} (h : RCs G c r) : r = 45 ∨ r = 52 := h.1
theorem RCs.p3 {G : MG} {c : MC} {r : Int} (h : RCs G c r) : c r 3 = r + 1 := h.2.1
theorem RCs.p4 {G : MG} {c : MC} {r : Int} (h : RCs G c r) : c r 4 = r + 2 := h.2.2.1
theorem RCs.p5 {G : MG} {c : MC} {r : Int} (h : RCs G c r) : c r 5 = r + 3 := h.2.2.2.1
theorem RCs.p6 {G : MG} {c : MC} {r : Int} (h : RCs G c r) : c r 6 = r + 4 := h.2.2.2.2.1
theorem RCs.p7 {G : MG} {c : MC} {r : Int} (h : RCs G c r) : c r 7 = r + 5 := h.2.2.2.2.2.1
theorem RCs.p8 {G : MG} {c : MC} {r : Int} (h : RCs G c r) : c r 8 = r + 6 := h.2.2.2.2.2.2.1
theorem RCs.l1 {G : MG} {c : MC} {r : Int} (h : RCs G c r) : gLn G (r + 1) = 720 := h.2.2.2.2.2.2.2.1
theorem RCs.l2 {G : MG} {c : MC} {r : Int} (h : RCs G c r) : gLn G (r + 2) = 720 := h.2.2.2.2.2.2.2.2.1
theorem RCs.l3 {G : MG} {c : MC} {r : Int} (h : RCs G c r) : gLn G (r + 3) = 720 := h.2.2.2.2.2.2.2.2.2.1
theorem RCs.l4 {G : MG} {c : MC} {r : Int} (h : RCs G c r) : gLn G (r + 4) = 720 := h.2.2.2.2.2.2.2.2.2.2.1
theorem RCs.l5 {G : MG} {c : MC} {r : Int} (h : RCs G c r) : gLn G (r + 5) = 720 := h.2.2.2.2.2.2.2.2.2.2.2.1
theorem RCs.l6 {G : MG} {c : MC} {r : Int} (h : RCs G c r) : gLn G (r + 6) = 7 := h.2.2.2.2.2.2.2.2.2.2.2.2
def CBT (G : MG) (c : MC) (r n : Int) (S : MC) : Prop := (RCs G c r) ∧ (c r 1 = n) ∧ (c r 2 = S 0 0) ∧ (∀ i, 0 ≤ i → i < S 0 0 → c (r + 1) i = S 1 i ∧ c (r + 2) i = S 2 i ∧ c (r + 3) i = S 3 i ∧ c (r + 4) i = S 4 i) ∧ (∀ q, 0 ≤ q → q < 720 → c (r + 5) q = S 5 q) ∧ (∀ q, 0 ≤ q → q ≤ 6 → c (r + 6) q = cnt (fun i => decide (cyc (S 1 i) n = q)) (S 0 0))
theorem CBT.h {G : MG} {c : MC} {r n : Int} {S : MC} (h : CBT G c r n S) : RCs G c r := h.1
theorem CBT.n {G : MG} {c : MC} {r n : Int} {S : MC} (h : CBT G c r n S) : c r 1 = n := h.2.1
theorem CBT.w {G : MG} {c : MC} {r n : Int} {S : MC} (h : CBT G c r n S) : c r 2 = S 0 0 := h.2.2.1
theorem CBT.e {G : MG} {c : MC} {r n : Int} {S : MC} (h : CBT G c r n S) : ∀ i, 0 ≤ i → i < S 0 0 → c (r + 1) i = S 1 i ∧ c (r + 2) i = S 2 i ∧ c (r + 3) i = S 3 i ∧ c (r + 4) i = S 4 i := h.2.2.2.1
theorem CBT.x {G : MG} {c : MC} {r n : Int} {S : MC} (h : CBT G c r n S) : ∀ q, 0 ≤ q → q < 720 → c (r + 5) q = S 5 q := h.2.2.2.2.1
theorem CBT.y {G : MG} {c : MC} {r n : Int} {S : MC} (h : CBT G c r n S) : ∀ q, 0 ≤ q → q ≤ 6 → c (r + 6) q = cnt (fun i => decide (cyc (S 1 i) n = q)) (S 0 0) := h.2.2.2.2.2
def FrR (r : Int) (c c' : MC) : Prop := ∀ a j, a < r ∨ r + 6 < a → c' a j = c a j
theorem FrR.rf {r : Int} {c : MC} : FrR r c c := fun _ _ _ => rfl
theorem FrR.tr {r : Int} {a b c : MC} (h : FrR r a b) (h' : FrR r b c) : FrR r a c := fun x j q => (h' x j q).trans (h x j q)
section
variable (d : Nat) (P0 : MM → Prop) (G : MG)
theorem f_find {c : MC} {r n nt : Int} {g : Int → Int} {S : MC} {x src tn : Int} (h2 : 2 ≤ n) (h6 : n ≤ 6) (B : BV n g nt S) (C : CBT G c r n S) (hx : PM x n)
    (hs : (src = -1 ∧ tn = -1 ∧ S 0 0 = 0 ∧ x = sam n) ∨ (0 ≤ src ∧ src < S 0 0 ∧ 0 ≤ tn ∧ tn < nt ∧ x = thr (S 1 src) (g tn) n))
    (hP : ∀ c', CBT G c' r n (bF n S x src tn) → FrR r c c' → c' r 0 = c r 0 → P0 (G, c')) : EvV (d + 3) mX4_find [mR 11 r, mI x, mI src, mI tn] (G, c) P0 := by
  have hr := C.h.r
  have r0 : 0 ≤ r := by omega
  obtain ⟨k0, k1⟩ := rnk_rg h2 h6 hx
  obtain ⟨y0, y1⟩ := cyc_rg h2 h6 hx
  have hw := B.w
  have hix := C.x _ k0 k1
  refine ev_X4_find (d + 2) P0 G c r x src tn r0 ?_
  simp only [C.n, q_X7_rank d _ G c x n (by omega), C.h.p7, C.h.l5]
  refine ⟨r0, ?_⟩
  rw [if_neg (show ¬ rnk x n < 0 by omega), if_pos k1]
  refine ⟨r0, ⟨by omega, k0, k1⟩, ?_⟩
  by_cases hN : S 5 (rnk x n) = -1
  · have hlt := B.lt k0 k1 hN
    obtain ⟨e0, e1, e2, e3, e4, e5⟩ := bF_new (n := n) (S := S) (x := x) (src := src) (tn := tn) hN
    rw [if_pos (hix.trans hN)]
    rw [if_pos (by rw [C.w]; exact hlt)]
    refine ⟨r0, r0, r0, ⟨by omega, k0, k1⟩, ?_⟩
    have key : ∀ far, far = (if src = -1 then 0 else S 2 src + 1) → ∀ c3, c3 = up (up c (r + 5) (rnk x n) (S 0 0)) (r + 1) (S 0 0) x → At (d + 3) mX4_find 91 [mR 11 r, mI x, mI src, mI tn, MU] [mI far, mI (S 0 0), mR 4 (r + 2)] (G, c3) (QV P0) := by
      rintro far hfar c3 rfl
      apply wp_X4_find_91
      refine ⟨⟨by omega, by omega, by rw [C.h.l2]; exact hlt⟩, ?_⟩
      rintro c4 rfl
      have a5 : up (up (up c (r + 5) (rnk x n) (S 0 0)) (r + 1) (S 0 0) x) (r + 2) (S 0 0) far r 5 = r + 3 := by rw [up_na (by omega), up_na (by omega), up_na (by omega)]; exact C.h.p5
      have a2 : up (up (up c (r + 5) (rnk x n) (S 0 0)) (r + 1) (S 0 0) x) (r + 2) (S 0 0) far r 2 = S 0 0 := by rw [up_na (by omega), up_na (by omega), up_na (by omega)]; exact C.w
      simp only [a5, a2, C.h.l3]
      refine ⟨r0, r0, ⟨by omega, by omega, hlt⟩, ?_⟩
      rintro c5 rfl
      have b6 : up (up (up (up c (r + 5) (rnk x n) (S 0 0)) (r + 1) (S 0 0) x) (r + 2) (S 0 0) far) (r + 3) (S 0 0) src r 6 = r + 4 := by rw [up_na (by omega), up_na (by omega), up_na (by omega), up_na (by omega)]; exact C.h.p6
      have b2 : up (up (up (up c (r + 5) (rnk x n) (S 0 0)) (r + 1) (S 0 0) x) (r + 2) (S 0 0) far) (r + 3) (S 0 0) src r 2 = S 0 0 := by rw [up_na (by omega)]; exact a2
      simp only [b6, b2, C.h.l4]
      refine ⟨r0, r0, ⟨by omega, by omega, hlt⟩, ?_⟩
      rintro c6 rfl
      have d1 : up (up (up (up (up c (r + 5) (rnk x n) (S 0 0)) (r + 1) (S 0 0) x) (r + 2) (S 0 0) far) (r + 3) (S 0 0) src) (r + 4) (S 0 0) tn r 1 = n := by rw [up_na (by omega), up_na (by omega), up_na (by omega), up_na (by omega), up_na (by omega)]; exact C.n
      have d8 : up (up (up (up (up c (r + 5) (rnk x n) (S 0 0)) (r + 1) (S 0 0) x) (r + 2) (S 0 0) far) (r + 3) (S 0 0) src) (r + 4) (S 0 0) tn r 8 = r + 6 := by rw [up_na (by omega), up_na (by omega), up_na (by omega), up_na (by omega), up_na (by omega)]; exact C.h.p8
      have d2 : up (up (up (up (up c (r + 5) (rnk x n) (S 0 0)) (r + 1) (S 0 0) x) (r + 2) (S 0 0) far) (r + 3) (S 0 0) src) (r + 4) (S 0 0) tn r 2 = S 0 0 := by rw [up_na (by omega)]; exact b2
      have dy : up (up (up (up (up c (r + 5) (rnk x n) (S 0 0)) (r + 1) (S 0 0) x) (r + 2) (S 0 0) far) (r + 3) (S 0 0) src) (r + 4) (S 0 0) tn (r + 6) (cyc x n) = cnt (fun i => decide (cyc (S 1 i) n = cyc x n)) (S 0 0) := by rw [up_na (by omega), up_na (by omega), up_na (by omega), up_na (by omega), up_na (by omega)]; exact C.y _ (by omega) (by omega)
      have hc := cnt_b (fun i => decide (cyc (S 1 i) n = cyc x n)) hw.1
      simp only [d1, d8, q_X7_cycles d _ G _ x n (by omega), C.h.l6, dy]
      refine ⟨r0, r0, ⟨by omega, by omega, by omega⟩, ⟨by omega, by omega, by omega⟩, ?_⟩
      rintro c7 rfl
      rw [up_na (by omega), d2, w32i (x := S 0 0 + 1) (by omega) (by omega), w32i (x := cnt (fun i => decide (cyc (S 1 i) n = cyc x n)) (S 0 0) + 1) (by omega) (by omega)]
      refine ⟨r0, r0, ?_⟩
      rintro c8 rfl
      refine hP _ ⟨⟨hr, ?_, ?_, ?_, ?_, ?_, ?_, C.h.l1, C.h.l2, C.h.l3, C.h.l4, C.h.l5, C.h.l6⟩, ?_, ?_, fun i i0 hi => ?_, fun q q0 q1 => ?_, fun q q0 q1 => ?_⟩ (fun a j h => ?_) ?_
      · rw [up_nj (by omega), up_na (by omega), up_na (by omega), up_na (by omega), up_na (by omega), up_na (by omega), up_na (by omega)]; exact C.h.p3
      · rw [up_nj (by omega), up_na (by omega), up_na (by omega), up_na (by omega), up_na (by omega), up_na (by omega), up_na (by omega)]; exact C.h.p4
      · rw [up_nj (by omega), up_na (by omega), up_na (by omega), up_na (by omega), up_na (by omega), up_na (by omega), up_na (by omega)]; exact C.h.p5
      · rw [up_nj (by omega), up_na (by omega), up_na (by omega), up_na (by omega), up_na (by omega), up_na (by omega), up_na (by omega)]; exact C.h.p6
      · rw [up_nj (by omega), up_na (by omega), up_na (by omega), up_na (by omega), up_na (by omega), up_na (by omega), up_na (by omega)]; exact C.h.p7
      · rw [up_nj (by omega), up_na (by omega), up_na (by omega), up_na (by omega), up_na (by omega), up_na (by omega), up_na (by omega)]; exact C.h.p8
      · rw [up_nj (by omega), up_na (by omega)]; exact d1
      · rw [up_eq, e0]
      · rw [e0] at hi
        rw [e1, e2, e3, e4]
        by_cases ei : i = S 0 0
        · rw [if_pos ei, if_pos ei, if_pos ei, if_pos ei]
          subst ei
          refine ⟨?_, ?_, ?_, ?_⟩
          · rw [up_na (by omega), up_na (by omega), up_na (by omega), up_na (by omega), up_na (by omega), up_eq]
          · rw [up_na (by omega), up_na (by omega), up_na (by omega), up_na (by omega), up_eq, hfar]
          · rw [up_na (by omega), up_na (by omega), up_na (by omega), up_eq]
          · rw [up_na (by omega), up_na (by omega), up_eq]
        · rw [if_neg ei, if_neg ei, if_neg ei, if_neg ei]
          have he := C.e i i0 (by omega)
          refine ⟨?_, ?_, ?_, ?_⟩
          · rw [up_na (by omega), up_na (by omega), up_na (by omega), up_na (by omega), up_na (by omega), up_nj ei, up_na (by omega)]; exact he.1
          · rw [up_na (by omega), up_na (by omega), up_na (by omega), up_na (by omega), up_nj ei, up_na (by omega), up_na (by omega)]; exact he.2.1
          · rw [up_na (by omega), up_na (by omega), up_na (by omega), up_nj ei, up_na (by omega), up_na (by omega), up_na (by omega)]; exact he.2.2.1
          · rw [up_na (by omega), up_na (by omega), up_nj ei, up_na (by omega), up_na (by omega), up_na (by omega), up_na (by omega)]; exact he.2.2.2
      · rw [e5, up_na (by omega), up_na (by omega), up_na (by omega), up_na (by omega), up_na (by omega), up_na (by omega)]
        by_cases eq : q = rnk x n
        · rw [if_pos eq, eq, up_eq]
        · rw [if_neg eq, up_nj eq]; exact C.x q q0 q1
      · rw [e0, cnt_succ _ hw.1, e1, if_pos rfl, up_na (by omega)]
        have hcc : cnt (fun i => decide (cyc (bF n S x src tn 1 i) n = q)) (S 0 0) = cnt (fun i => decide (cyc (S 1 i) n = q)) (S 0 0) := cnt_congr (fun i a b => by simp only [e1]; rw [if_neg (by omega)])
        rw [hcc]
        by_cases eq : q = cyc x n
        · rw [eq, up_eq]; simp
        · rw [up_nj eq, up_na (by omega), up_na (by omega), up_na (by omega), up_na (by omega), up_na (by omega), C.y q q0 q1]
          simp [Ne.symm eq]
      · rw [up_na (by omega), up_na (by omega), up_na (by omega), up_na (by omega), up_na (by omega), up_na (by omega), up_na (by omega)]
      · rw [up_nj (by omega), up_na (by omega), up_na (by omega), up_na (by omega), up_na (by omega), up_na (by omega), up_na (by omega)]
    rintro c2 rfl
    have f3 : up c (r + 5) (rnk x n) (c r 2) r 3 = r + 1 := by rw [up_na (by omega)]; exact C.h.p3
    have f2 : up c (r + 5) (rnk x n) (c r 2) r 2 = S 0 0 := by rw [up_na (by omega)]; exact C.w
    simp only [f3, f2, C.h.l1]
    refine ⟨r0, r0, ⟨by omega, by omega, hlt⟩, ?_⟩
    rintro c3 rfl
    have g2 : up (up c (r + 5) (rnk x n) (c r 2)) (r + 1) (S 0 0) x r 2 = S 0 0 := by rw [up_na (by omega)]; exact f2
    have g4 : up (up c (r + 5) (rnk x n) (c r 2)) (r + 1) (S 0 0) x r 4 = r + 2 := by rw [up_na (by omega), up_na (by omega)]; exact C.h.p4
    simp only [g2, g4, C.h.l2]
    refine ⟨r0, r0, ?_⟩
    split
    · rename_i hsrc
      exact key 0 (by rw [if_pos hsrc]) _ (by rw [C.w])
    · rename_i hsrc
      rcases hs with ⟨a1, _⟩ | ⟨a1, a2, a3, a4, a5⟩
      · exact absurd a1 hsrc
      · refine ⟨r0, ⟨by omega, a1, by omega⟩, ?_⟩
        have hf : up (up c (r + 5) (rnk x n) (c r 2)) (r + 1) (S 0 0) x (r + 2) src = S 2 src := by rw [up_na (by omega), up_na (by omega)]; exact (C.e src a1 a2).2.1
        have hb := B.2.1 src a1 a2
        rw [hf, w32i (by omega) (by omega)]
        exact key _ (by rw [if_neg hsrc]) _ (by rw [C.w])
  · rw [if_neg (by rw [hix]; exact hN)]
    exact hP c (by rw [bF_old hN]; exact C) FrR.rf rfl
end
