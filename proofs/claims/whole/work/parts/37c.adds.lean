def MBT (c : MC) (n : Int) (S : MC) : Prop := (c 62 28 = S 0 0) ∧ (∀ i k, 0 ≤ i → i < S 0 0 → 0 ≤ k → k < n → c 68 (6 * i + k) = dg (S 1 i) k) ∧ (∀ i, 0 ≤ i → i < S 0 0 → c 70 i = S 2 i ∧ c 71 i = S 3 i ∧ c 72 i = S 4 i) ∧ (∀ q, 0 ≤ q → q < 720 → c 69 q = S 5 q)
theorem MBT.w {c : MC} {n : Int} {S : MC} (h : MBT c n S) : c 62 28 = S 0 0 := h.1
theorem MBT.e {c : MC} {n : Int} {S : MC} (h : MBT c n S) : ∀ i k, 0 ≤ i → i < S 0 0 → 0 ≤ k → k < n → c 68 (6 * i + k) = dg (S 1 i) k := h.2.1
theorem MBT.f {c : MC} {n : Int} {S : MC} (h : MBT c n S) : ∀ i, 0 ≤ i → i < S 0 0 → c 70 i = S 2 i ∧ c 71 i = S 3 i ∧ c 72 i = S 4 i := h.2.2.1
theorem MBT.x {c : MC} {n : Int} {S : MC} (h : MBT c n S) : ∀ q, 0 ≤ q → q < 720 → c 69 q = S 5 q := h.2.2.2
def FrM (c c' : MC) : Prop := ∀ a j, ¬ (68 ≤ a ∧ a ≤ 73) → ¬ (a = 62 ∧ j = 28) → c' a j = c a j
theorem FrM.rf {c : MC} : FrM c c := fun _ _ _ _ => rfl
theorem FrM.tr {a b c : MC} (h : FrM a b) (h' : FrM b c) : FrM a c := fun x j p q => (h' x j p q).trans (h x j p q)
theorem MDs.frm {G : MG} {c c' : MC} {T : Int} (h : MDs G c T) (f : FrM c c') : MDs G c' T := h.kp (fun a j k => f a j (by unfold Kp at k; omega) (by unfold Kp at k; omega))
theorem MBT.one {c c' : MC} {n : Int} {S : MC} (h : MBT c n S) (f : ∀ a j, a ≠ 73 → c' a j = c a j) : MBT c' n S := ⟨by rw [f _ _ (by decide)]; exact h.w, fun i k a b x y => by rw [f _ _ (by decide)]; exact h.e i k a b x y, fun i a b => by rw [f _ _ (by decide), f _ _ (by decide), f _ _ (by decide)]; exact h.f i a b, fun q a b => by rw [f _ _ (by decide)]; exact h.x q a b⟩
section
variable (d : Nat) (P0 : MM → Prop) (G : MG)
theorem f_adds {c : MC} {T n nt : Int} {g : Int → Int} {S : MC} {x src tn : Int} (M : MDs G c T) (hn : c T 1 = n) (B : BV n g nt S) (Mb : MBT c n S) (ho : One c x n) (hx : PM x n) (hN : S 5 (rnk x n) = -1)
    (hs : src = -1 ∨ (0 ≤ src ∧ src < S 0 0)) (hP : ∀ c', MBT c' n (bF n S x src tn) → FrM c c' → P0 (G, c')) : EvV (d + 1) mX12_adds [mR 18 62, mI (rnk x n), mI src, mI tn] (G, c) P0 := by
  have hT := M.T; have b1 := M.b1
  have h2 : 2 ≤ n := by omega
  have h6 : n ≤ 6 := by omega
  obtain ⟨k0, k1⟩ := rnk_rg h2 h6 hx
  have hw := B.w
  have hlt := B.lt k0 k1 hN
  obtain ⟨e0, e1, e2, e3, e4, e5⟩ := bF_new (n := n) (S := S) (x := x) (src := src) (tn := tn) hN
  have fin : ∀ c1, c1 = wr c 68 (6 * S 0 0) n (fun k => c 73 (k - 6 * S 0 0)) → ∀ far, far = (if src = -1 then 0 else S 2 src + 1) → P0 (G, up (up (up (up (up c1 69 (rnk x n) (S 0 0)) 70 (S 0 0) far) 71 (S 0 0) src) 72 (S 0 0) tn) 62 28 (S 0 0 + 1)) := by
    rintro c1 rfl far hfar
    refine hP _ ⟨?_, fun i k i0 hi a b => ?_, fun i i0 hi => ?_, fun q q0 q1 => ?_⟩ (fun a j p q => ?_)
    · rw [up_eq, e0]
    · rw [e0] at hi
      rw [up_na (by decide), up_na (by decide), up_na (by decide), up_na (by decide), up_na (by decide), e1]
      by_cases ei : i = S 0 0
      · rw [if_pos ei, wr_in (by omega) (by omega), show 6 * i + k - 6 * S 0 0 = k by omega]
        exact ho k a b
      · rw [if_neg ei, wr_out (by omega)]
        exact Mb.e i k i0 (by omega) a b
    · rw [e0] at hi
      rw [e2, e3, e4]
      by_cases ei : i = S 0 0
      · rw [if_pos ei, if_pos ei, if_pos ei]
        subst ei
        refine ⟨?_, ?_, ?_⟩
        · rw [up_na (by decide), up_na (by decide), up_na (by decide), up_eq, hfar]
        · rw [up_na (by decide), up_na (by decide), up_eq]
        · rw [up_na (by decide), up_eq]
      · rw [if_neg ei, if_neg ei, if_neg ei]
        have hf := Mb.f i i0 (by omega)
        refine ⟨?_, ?_, ?_⟩
        · rw [up_na (by decide), up_na (by decide), up_na (by decide), up_nj ei, up_na (by decide), wr_ne (by decide)]; exact hf.1
        · rw [up_na (by decide), up_na (by decide), up_nj ei, up_na (by decide), up_na (by decide), wr_ne (by decide)]; exact hf.2.1
        · rw [up_na (by decide), up_nj ei, up_na (by decide), up_na (by decide), up_na (by decide), wr_ne (by decide)]; exact hf.2.2
    · rw [e5, up_na (by decide), up_na (by decide), up_na (by decide), up_na (by decide)]
      by_cases eq : q = rnk x n
      · rw [if_pos eq, eq, up_eq]
      · rw [if_neg eq, up_nj eq, wr_ne (by decide)]; exact Mb.x q q0 q1
    · by_cases e : a = 62
      · rw [up_nj (by omega), up_na (by omega), up_na (by omega), up_na (by omega), up_na (by omega), wr_ne (by omega)]
      · rw [up_na e, up_na (by omega), up_na (by omega), up_na (by omega), up_na (by omega), wr_ne (by omega)]
  have loop : ∀ (j : Nat) (k : Int), 0 ≤ k → k + j = n → At (d + 1) mX12_adds 3 [mR 18 62, mI (rnk x n), mI src, mI tn, mI k] [] (G, wr c 68 (6 * S 0 0) k (fun k => c 73 (k - 6 * S 0 0))) (QV P0) := by
    intro j
    induction j with
    | zero =>
      intro k a b
      have ek : k = n := by omega
      subst ek
      have M' : MDs G (wr c 68 (6 * S 0 0) k (fun k => c 73 (k - 6 * S 0 0))) T := M.kp (fun a j q => wr_ne (by unfold Kp at q; omega))
      have x1 : wr c 68 (6 * S 0 0) k (fun k => c 73 (k - 6 * S 0 0)) T 1 = k := by rw [wr_ne (by omega)]; exact hn
      have x28 : wr c 68 (6 * S 0 0) k (fun k => c 73 (k - 6 * S 0 0)) 62 28 = S 0 0 := by rw [wr_ne (by decide)]; exact Mb.w
      apply wp_X12_adds_3
      simp only [M'.p3, x1, M'.p23, M'.l69, x28]
      refine ⟨by omega, by omega, ?_⟩
      rw [if_neg (by omega)]
      refine ⟨by omega, by omega, ⟨by omega, k0, k1⟩, ?_⟩
      rintro c2 rfl
      have y24 : up (wr c 68 (6 * S 0 0) k (fun k => c 73 (k - 6 * S 0 0))) 69 (rnk x k) (S 0 0) 62 24 = 70 := by rw [up_na (by decide)]; exact M'.p24
      have y28 : up (wr c 68 (6 * S 0 0) k (fun k => c 73 (k - 6 * S 0 0))) 69 (rnk x k) (S 0 0) 62 28 = S 0 0 := by rw [up_na (by decide)]; exact x28
      have l70 := M.l70; have l71 := M.l71; have l72 := M.l72
      have rest : ∀ far, far = (if src = -1 then 0 else S 2 src + 1) → (0 ≤ (62 : Int) ∧ 0 ≤ (62 : Int) ∧ True) → ∀ c3, c3 = up (up (wr c 68 (6 * S 0 0) k (fun k => c 73 (k - 6 * S 0 0))) 69 (rnk x k) (S 0 0)) 70 (S 0 0) far → 0 ≤ (62 : Int) ∧ 0 ≤ (62 : Int) ∧ (0 ≤ (c3 62 25) ∧ 0 ≤ (c3 62 28) ∧ (c3 62 28) < gLn G (c3 62 25)) ∧ ∀ c4, c4 = up c3 (c3 62 25) (c3 62 28) src → 0 ≤ (62 : Int) ∧ 0 ≤ (62 : Int) ∧ (0 ≤ (c4 62 26) ∧ 0 ≤ (c4 62 28) ∧ (c4 62 28) < gLn G (c4 62 26)) ∧ ∀ c5, c5 = up c4 (c4 62 26) (c4 62 28) tn → 0 ≤ (62 : Int) ∧ 0 ≤ (62 : Int) ∧ ∀ c6, c6 = up c5 62 28 (w32 ((c5 62 28) + 1)) → P0 (G, c6) := by
        rintro far hfar - c3 rfl
        have z25 : up (up (wr c 68 (6 * S 0 0) k (fun k => c 73 (k - 6 * S 0 0))) 69 (rnk x k) (S 0 0)) 70 (S 0 0) far 62 25 = 71 := by rw [up_na (by decide), up_na (by decide)]; exact M'.p25
        have z28 : up (up (wr c 68 (6 * S 0 0) k (fun k => c 73 (k - 6 * S 0 0))) 69 (rnk x k) (S 0 0)) 70 (S 0 0) far 62 28 = S 0 0 := by rw [up_na (by decide)]; exact y28
        rw [z25, z28, l71]
        refine ⟨by omega, by omega, ⟨by omega, by omega, hlt⟩, ?_⟩
        rintro c4 rfl
        have u26 : up (up (up (wr c 68 (6 * S 0 0) k (fun k => c 73 (k - 6 * S 0 0))) 69 (rnk x k) (S 0 0)) 70 (S 0 0) far) 71 (S 0 0) src 62 26 = 72 := by rw [up_na (by decide), up_na (by decide), up_na (by decide)]; exact M'.p26
        have u28 : up (up (up (wr c 68 (6 * S 0 0) k (fun k => c 73 (k - 6 * S 0 0))) 69 (rnk x k) (S 0 0)) 70 (S 0 0) far) 71 (S 0 0) src 62 28 = S 0 0 := by rw [up_na (by decide)]; exact z28
        rw [u26, u28, l72]
        refine ⟨by omega, by omega, ⟨by omega, by omega, hlt⟩, ?_⟩
        rintro c5 rfl
        rw [up_na (by decide), u28, w32i (by omega) (by omega)]
        refine ⟨by omega, by omega, ?_⟩
        rintro c6 rfl
        exact fin _ rfl far hfar
      rw [y24, y28]
      refine ⟨by omega, by omega, ?_⟩
      split
      · rename_i hsrc
        rw [l70]
        refine ⟨⟨by omega, by omega, hlt⟩, ?_⟩
        exact rest 0 (by rw [if_pos hsrc]) ⟨by omega, by omega, trivial⟩
      · rename_i hsrc
        rcases hs with a1 | ⟨a1, a2⟩
        · exact absurd a1 hsrc
        · rw [l70]
          have hf : up (wr c 68 (6 * S 0 0) k (fun k => c 73 (k - 6 * S 0 0))) 69 (rnk x k) (S 0 0) 70 src = S 2 src := by rw [up_na (by decide), wr_ne (by decide)]; exact (Mb.f src a1 a2).1
          have hb := B.2.1 src a1 a2
          rw [hf, w32i (by omega) (by omega)]
          refine ⟨by omega, ⟨by omega, a1, by omega⟩, ⟨by omega, by omega, hlt⟩, ?_⟩
          exact rest _ (by rw [if_neg hsrc]) ⟨by omega, by omega, trivial⟩
    | succ j ih =>
      intro k a b
      have wi : w32 (k + 1) = k + 1 := w32i (by omega) (by omega)
      have w6 : w32 (6 * S 0 0) = 6 * S 0 0 := w32i (by omega) (by omega)
      have w7 : w32 (6 * S 0 0 + k) = 6 * S 0 0 + k := w32i (by omega) (by omega)
      have M' : MDs G (wr c 68 (6 * S 0 0) k (fun k => c 73 (k - 6 * S 0 0))) T := M.kp (fun a j q => wr_ne (by unfold Kp at q; omega))
      have x1 : wr c 68 (6 * S 0 0) k (fun k => c 73 (k - 6 * S 0 0)) T 1 = n := by rw [wr_ne (by omega)]; exact hn
      have x28 : wr c 68 (6 * S 0 0) k (fun k => c 73 (k - 6 * S 0 0)) 62 28 = S 0 0 := by rw [wr_ne (by decide)]; exact Mb.w
      apply wp_X12_adds_3
      simp only [M'.p3, x1, M'.p22, M'.p27, M'.l68, M'.l73, x28, wi, w6, w7]
      refine ⟨by omega, by omega, ?_⟩
      rw [if_pos (by omega)]
      refine ⟨by omega, by omega, by omega, ⟨by omega, by omega, by omega⟩, ⟨by omega, by omega, by omega⟩, ?_⟩
      rintro c2 rfl
      rw [wr_up a rfl (by rw [wr_ne (by decide), show 6 * S 0 0 + k - 6 * S 0 0 = k by omega])]
      exact ih (k + 1) (by omega) (by omega)
  refine ev_X12_adds d P0 G c 62 _ src tn (by decide) ?_
  have := loop n.toNat 0 (by omega) (by omega)
  rw [wr_zero (by omega)] at this
  exact this
end
