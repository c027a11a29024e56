def mv (g : Int → Int) (i k : Int) : Int := if i = 0 then k else dg (g (i - 1)) k
/-- whether the two are beside each other in the end, n turns being left -/
def VG (g : Int → Int) (u : Int) : Nat → Int → Int → Int → Int
  | 0, k, l, _ => bes k l
  | n + 1, k, l, w => fi (fun i => decide (VG g u n (mv g i k) (mv g i l) (1 - w) = w)) (fun _ => w) (1 - w) (u + 1).toNat 0
theorem fi_two {p : Int → Bool} {v e : Int} : ∀ (j : Nat) (i : Int), fi p (fun _ => v) e j i = v ∨ fi p (fun _ => v) e j i = e := by
  intro j
  induction j with
  | zero => intro i; exact Or.inr rfl
  | succ j ih => intro i; simp only [fi]; split
                 · exact Or.inl rfl
                 · exact ih _
theorem VG_01 (g : Int → Int) (u : Int) (n : Nat) (k l w : Int) (hw : w = 0 ∨ w = 1) : VG g u n k l w = 0 ∨ VG g u n k l w = 1 := by
  cases n with
  | zero => exact bes01 k l
  | succ n =>
    simp only [VG]
    rcases fi_two (p := fun i => decide (VG g u n (mv g i k) (mv g i l) (1 - w) = w)) (v := w) (e := 1 - w) (u + 1).toNat 0 with h | h <;> rw [h] <;> omega
section
variable {G : MG} {c : MC} {t z T n m u : Int} {g : Int → Int} (d : Nat) (P : Int → MM → Prop)
theorem e_ends (H : TLs G c t) (hu : c t 4 = u) (u0 : 0 ≤ u) (u3 : u ≤ 3) (hg : ∀ i, 0 ≤ i → i < u → c (t + 3) i = g i) : ∀ (j d : Nat) (P : Int → MM → Prop) (k l w : Int), j < 100 → (w = 0 ∨ w = 1) → EvI (d + j + 2) mX2_endsBeside [mR 15 t, mI k, mI l, mI j, mI w] (G, c) P = P (VG g u j k l w) (G, c) := by
  have ht := H.n
  intro j
  induction j with
  | zero =>
    intro d P k l w _ hw
    refine evI_eq (ev_X2_endsBeside (d + 1) _ G c t k l _ w ?_) P
    rw [if_neg (by omega), q_X7_areBeside]
    have := bes01 k l
    exact ⟨by omega, rfl, rfl⟩
  | succ j ih =>
    intro d P k l w hj hw
    have wj : w32 (((j + 1 : Nat) : Int) - 1) = (j : Int) := by rw [w32i (by omega) (by omega)]; omega
    refine evI_eq (ev_X2_endsBeside (d + j + 2) _ G c t k l _ w ?_) P
    rw [if_pos (by omega), wj, ih d _ k l 1 (by omega) (Or.inr rfl), ih d _ k l 0 (by omega) (Or.inl rfl)]
    have hV : VG g u (j + 1) k l w = if VG g u j k l (1 - w) = w then w else fi (fun i => decide (VG g u j (mv g i k) (mv g i l) (1 - w) = w)) (fun _ => w) (1 - w) u.toNat 1 := by
      simp only [VG]
      rw [show (u + 1).toNat = u.toNat + 1 by omega]
      simp only [fi]
      rw [show mv g 0 k = k from rfl, show mv g 0 l = l from rfl]
      simp only [decide_eq_true_eq]
      rfl
    have lp : ¬ VG g u j k l (1 - w) = w → ∀ (b : Nat) (i : Int), 0 ≤ i → i + b = u → VG g u (j + 1) k l w = fi (fun i => decide (VG g u j (mv g i k) (mv g i l) (1 - w) = w)) (fun _ => w) (1 - w) b (i + 1) → At (d + j + 2 + 1) mX2_endsBeside 40 [mR 15 t, mI k, mI l, mI ((j + 1 : Nat) : Int), mI w, mI i, MU] [] (G, c) (QI fun x ν' => x = VG g u (j + 1) k l w ∧ ν' = (G, c)) := by
      intro _ b
      induction b with
      | zero =>
        intro i i0 hi he
        apply wp_X2_endsBeside_40
        rw [hu, if_neg (by omega)]
        refine ⟨ht, ?_⟩
        have he' : VG g u (j + 1) k l w = 1 - w := he
        rcases hw with rfl | rfl
        · rw [if_pos rfl]; exact ⟨by omega, he'.symm, rfl⟩
        · rw [if_neg (by decide)]; exact ⟨by omega, he'.symm, rfl⟩
      | succ b ihb =>
        intro i i0 hi he
        have wi : w32 (i + 1) = i + 1 := w32i (by omega) (by omega)
        simp only [fi] at he
        have em : ∀ k, mv g (i + 1) k = dg (g i) k := fun k => by unfold mv; rw [if_neg (by omega), show i + 1 - 1 = i by omega]
        rw [em, em] at he
        apply wp_X2_endsBeside_40
        simp only [hu, H.p8, H.g3, hg i i0 (by omega), q_X7_at, wj, wi, ih d _ _ _ 1 (by omega) (Or.inr rfl), ih d _ _ _ 0 (by omega) (Or.inl rfl)]
        rw [if_pos (by omega)]
        refine ⟨ht, ht, ⟨by omega, by omega, by omega⟩, ?_⟩
        rcases hw with rfl | rfl
        · rw [if_pos rfl]
          by_cases h : VG g u j (dg (g i) k) (dg (g i) l) 1 = 0
          · rw [if_pos (decide_eq_true (show VG g u j (dg (g i) k) (dg (g i) l) (1 - 0) = 0 from h))] at he
            rw [if_pos h]
            exact ⟨by omega, he.symm, by first | rfl | trivial⟩
          · rw [if_neg (fun q => h (show VG g u j (dg (g i) k) (dg (g i) l) (1 - 0) = 0 from of_decide_eq_true q) : ¬ (decide (VG g u j (dg (g i) k) (dg (g i) l) (1 - 0) = 0) = true))] at he
            rw [if_neg h]
            exact ihb _ (by omega) (by omega) he
        · rw [if_neg (by decide)]
          by_cases h : VG g u j (dg (g i) k) (dg (g i) l) 0 = 1
          · rw [if_pos (decide_eq_true (show VG g u j (dg (g i) k) (dg (g i) l) (1 - 1) = 1 from h))] at he
            rw [if_pos h]
            exact ⟨by omega, he.symm, by first | rfl | trivial⟩
          · rw [if_neg (fun q => h (show VG g u j (dg (g i) k) (dg (g i) l) (1 - 1) = 1 from of_decide_eq_true q) : ¬ (decide (VG g u j (dg (g i) k) (dg (g i) l) (1 - 1) = 1) = true))] at he
            rw [if_neg h]
            exact ihb _ (by omega) (by omega) he
    rcases hw with rfl | rfl
    · rw [if_pos rfl]
      by_cases h : VG g u j k l 1 = 0
      · rw [if_pos h]
        rw [if_pos (show VG g u j k l (1 - 0) = 0 from h)] at hV
        exact ⟨by omega, hV.symm, rfl⟩
      · rw [if_neg h]
        rw [if_neg (show ¬ VG g u j k l (1 - 0) = 0 from h)] at hV
        exact lp h u.toNat 0 (by omega) (by omega) hV
    · rw [if_neg (by decide)]
      by_cases h : VG g u j k l 0 = 1
      · rw [if_pos h]
        rw [if_pos (show VG g u j k l (1 - 1) = 1 from h)] at hV
        exact ⟨by omega, hV.symm, rfl⟩
      · rw [if_neg h]
        rw [if_neg (show ¬ VG g u j k l (1 - 1) = 1 from h)] at hV
        exact lp h u.toNat 0 (by omega) (by omega) hV
/-- the turn that is best -/
def fiT (g : Int → Int) (u : Int) (j : Nat) (k l : Int) : Int := if VG g u j k l 0 = 0 then fi (fun i => decide (¬ VG g u j (dg (g i) k) (dg (g i) l) 0 = 0)) (fun i => i) (-2) u.toNat 0 else -2
theorem e_first (H : TLs G c t) (hu : c t 4 = u) (u0 : 0 ≤ u) (u3 : u ≤ 3) (hg : ∀ i, 0 ≤ i → i < u → c (t + 3) i = g i) (j : Nat) (hj : j < 99) (k l : Int) : EvI (d + j + 3) mX2_firstTurn [mR 15 t, mI k, mI l, mI ((j + 1 : Nat) : Int)] (G, c) P = P (fiT g u j k l) (G, c) := by
  have ht := H.n
  have wj : w32 (((j + 1 : Nat) : Int) - 1) = (j : Int) := by rw [w32i (by omega) (by omega)]; omega
  refine evI_eq (ev_X2_firstTurn (d + j + 2) _ G c t k l _ ?_) P
  rw [wj, e_ends H hu u0 u3 hg j d _ k l 0 (by omega) (Or.inl rfl)]
  unfold fiT
  by_cases h : VG g u j k l 0 = 0
  · rw [if_pos h, if_pos h]
    have lp : ∀ (b : Nat) (i v : Int), 0 ≤ i → i + b = u → v = fi (fun i => decide (¬ VG g u j (dg (g i) k) (dg (g i) l) 0 = 0)) (fun i => i) (-2) b i → At (d + j + 2 + 1) mX2_firstTurn 19 [mR 15 t, mI k, mI l, mI ((j + 1 : Nat) : Int), mI i, MU] [] (G, c) (QI fun x ν' => x = v ∧ ν' = (G, c)) := by
      intro b
      induction b with
      | zero =>
        intro i v i0 hi he
        apply wp_X2_firstTurn_19
        rw [hu, if_neg (by omega)]
        exact ⟨ht, he.symm, rfl⟩
      | succ b ihb =>
        intro i v i0 hi he
        have wi : w32 (i + 1) = i + 1 := w32i (by omega) (by omega)
        simp only [fi] at he
        apply wp_X2_firstTurn_19
        simp only [hu, H.p8, H.g3, hg i i0 (by omega), q_X7_at, wj, wi, e_ends H hu u0 u3 hg j d _ _ _ 0 (by omega) (Or.inl rfl)]
        rw [if_pos (by omega)]
        refine ⟨ht, ht, ⟨by omega, by omega, by omega⟩, ?_⟩
        by_cases h2 : VG g u j (dg (g i) k) (dg (g i) l) 0 = 0
        · rw [if_pos h2]
          rw [if_neg (by simp [h2])] at he
          exact ihb _ _ (by omega) (by omega) he
        · rw [if_neg h2]
          rw [if_pos (by simp [h2])] at he
          exact ⟨he.symm, by first | rfl | trivial⟩
    exact lp u.toNat 0 _ (by omega) (by omega) rfl
  · rw [if_neg h, if_neg h]; exact ⟨rfl, rfl⟩
end
