/-! rows of turns by digits -/
def tp : Nat → Int
  | 0 => 1
  | k + 1 => 10 * tp k
theorem tp_rg : ∀ k : Nat, k < 8 → 1 ≤ tp k ∧ tp k ≤ 10000000 := by decide
theorem tp_pos : ∀ k : Nat, 0 < tp k := by
  intro k
  induction k with
  | zero => decide
  | succ k ih => simp only [tp]; omega
theorem lay_i7 {i j : Nat} {k : Int} (hk : 0 ≤ k ∧ k ≤ 6) (hi : i + (j + 1) = k.toNat) : i + 1 < 8 ∧ (i : Int) < k ∧ (i : Int) < 7 := by omega
theorem tp_s (k : Nat) : tp (k + 1) = 10 * tp k := rfl
def mRw (g : Int → Int) (n u : Int) (row : Int) : Nat → Int → Option Int
  | 0, y => some y
  | k + 1, y => if 1 ≤ row / (tp k) % 10 ∧ row / (tp k) % 10 ≤ u then mRw g n u row k (thr y (g (row / (tp k) % 10 - 1)) n) else none
theorem mR_last {g : Int → Int} {n u : Int} : ∀ (k : Nat) (row y : Int), 0 ≤ row → mRw g n u row (k + 1) y = match mRw g n u (row / 10) k y with
    | some p => if 1 ≤ row % 10 ∧ row % 10 ≤ u then some (thr p (g (row % 10 - 1)) n) else none
    | none => none := by
  intro k
  induction k with
  | zero => intro row y h; simp only [mRw, show tp 0 = 1 from rfl, Int.ediv_one]
  | succ k ih =>
    intro row y h
    rw [show mRw g n u row (k + 1 + 1) y = if 1 ≤ row / tp (k + 1) % 10 ∧ row / tp (k + 1) % 10 ≤ u then mRw g n u row (k + 1) (thr y (g (row / tp (k + 1) % 10 - 1)) n) else none from rfl]
    rw [show mRw g n u (row / 10) (k + 1) y = if 1 ≤ row / 10 / (tp k) % 10 ∧ row / 10 / (tp k) % 10 ≤ u then mRw g n u (row / 10) k (thr y (g (row / 10 / (tp k) % 10 - 1)) n) else none from rfl]
    have e : row / 10 / (tp k) = row / tp (k + 1) := by
      rw [Int.ediv_ediv_of_nonneg (by omega), tp_s]
    rw [e]
    split
    · rw [ih row _ h]
    · rfl
theorem mR_pm {g : Int → Int} {n u : Int} (h0 : 0 ≤ n) (h6 : n ≤ 6) (hg : ∀ i, 0 ≤ i → i < u → PM (g i) n) : ∀ (k : Nat) (row y p : Int), PM y n → mRw g n u row k y = some p → PM p n := by
  intro k
  induction k with
  | zero => intro row y p hy h; simp only [mRw] at h; cases h; exact hy
  | succ k ih =>
    intro row y p hy h
    simp only [mRw] at h
    split at h
    · rename_i hd
      exact ih row _ p (thr_pm h0 (by omega) hy (hg _ (by omega) (by omega))) h
    · cases h
theorem mR_rm {g : Int → Int} {n u : Int} {S : MC} (h2 : 2 ≤ n) (h6 : n ≤ 6) (hg : ∀ i, 0 ≤ i → i < u → RM n S (g i)) : ∀ (k : Nat) (row y p : Int), RM n S y → mRw g n u row k y = some p → RM n S p := by
  intro k
  induction k with
  | zero => intro row y p hy h; simp only [mRw] at h; cases h; exact hy
  | succ k ih =>
    intro row y p hy h
    simp only [mRw] at h
    split at h
    · rename_i hd
      exact ih row _ p (hy.mul h2 h6 (hg _ (by omega) (by omega))) h
    · cases h
theorem chF_big {c : MC} {t : Int} : ∀ (j : Nat) (y l : Int), (tp j) ≤ l → l < 2147483648 → chF c t j y l = -1 := by
  intro j
  induction j with
  | zero => intro y l h h'; simp only [chF]; rw [if_neg (by have : tp 0 = 1 := rfl; omega)]
  | succ j ih =>
    intro y l h h'
    have hp := tp_pos j
    rw [tp_s] at h
    obtain ⟨r1, r2⟩ := rem10 (l := l) (by omega) h'
    simp only [chF]
    split
    · rfl
    · split
      · rfl
      · rw [r2]
        exact ih _ _ (by omega) (by omega)
theorem chF_eq {c : MC} {t n u : Int} {g : Int → Int} (h2 : 2 ≤ n) (h6 : n ≤ 6) (hu : u ≤ 3) (e1 : c t 1 = n) (e4 : c t 4 = u) (hg : ∀ i, 0 ≤ i → i < u → c (t + 3) i = g i ∧ PM (g i) n) : ∀ (j : Nat) (y l : Int), PM y n → 0 ≤ l → l < (tp j) → l < 2147483648 → chF c t j y l = match mRw g n u l j (sam n) with
    | some p => thr p y n
    | none => -1 := by
  intro j
  induction j with
  | zero =>
    intro y l hy l0 l1 _
    simp only [chF, mRw]
    rw [if_pos (by have : tp 0 = 1 := rfl; omega), sam_thr (by omega) h6 hy]
  | succ j ih =>
    intro y l hy l0 l1 l2
    have hp := tp_pos j
    rw [tp_s] at l1
    obtain ⟨r1, r2⟩ := rem10 l0 l2
    rw [mR_last j l _ l0]
    simp only [chF, r1, r2, e1, e4]
    by_cases hd : 1 ≤ l % 10 ∧ l % 10 ≤ u
    · rw [if_neg (by omega), if_neg (by omega), w32i (by omega) (by omega), (hg _ (show 0 ≤ l % 10 - 1 by omega) (by omega)).1]
      have hgp := (hg (l % 10 - 1) (by omega) (by omega)).2
      rw [ih _ _ (thr_pm (by omega) (by omega) hgp hy) (by omega) (by omega) (by omega)]
      cases hm : mRw g n u (l / 10) j (sam n) with
      | none => rfl
      | some p =>
        simp only [if_pos hd]
        rw [thr_assoc (by omega) h6 (mR_pm (by omega) h6 (fun i a b => (hg i a b).2) j _ _ p (sam_all (by omega) h6).1 hm) hgp hy]
    · have hr : ∀ (o : Option Int), (match (match o with | some p => if 1 ≤ l % 10 ∧ l % 10 ≤ u then some (thr p (g (l % 10 - 1)) n) else none | none => none) with | some p => thr p y n | none => -1) = -1 := by
        intro o
        cases o with
        | none => rfl
        | some p => simp only [if_neg hd]
      rw [hr]
      by_cases h1 : l % 10 < 1
      · rw [if_pos h1]
      · rw [if_neg h1, if_pos (by omega)]
/-- the row that both lay: none where it is refused -/
def rowF (g : Int → Int) (n u row k : Int) : Option Int := if (0 ≤ k ∧ k ≤ 6) ∧ 0 ≤ row ∧ row < tp k.toNat then mRw g n u row k.toNat (sam n) else none
theorem rowF_pm {g : Int → Int} {n u row k p : Int} (h0 : 0 ≤ n) (h6 : n ≤ 6) (hg : ∀ i, 0 ≤ i → i < u → PM (g i) n) (h : rowF g n u row k = some p) : PM p n := by
  unfold rowF at h
  split at h
  · exact mR_pm h0 h6 hg _ _ _ _ (sam_all h0 h6).1 h
  · cases h
section
variable {G : MG} {c : MC} {t T n m u q w x s ka ki : Int} {g : Int → Int}
theorem tv_chb (V : TV G c t T n m u q w x s ka ki g) (row k : Int) (hr : row < 2147483648) : chb c t row k = (rowF g n u row k).getD (-1) := by
  have b1 := V.M.b1; have b4 := V.M.b4
  rw [V.v1] at b1; rw [V.v4] at b4
  unfold chb rowF
  by_cases h : k < 0 ∨ 6 < k ∨ row < 0
  · rw [if_pos h, if_neg (by omega)]; rfl
  · rw [if_neg h]
    have hs := (sam_all (n := n) (by omega) (by omega)).1
    rw [V.e1]
    by_cases hl : row < tp k.toNat
    · rw [if_pos ⟨by omega, by omega, hl⟩, chF_eq (g := g) b1.1 b1.2 b4.2 V.e1 V.e4 (fun i a b => ⟨V.g i a b, V.gp i a b⟩) k.toNat _ _ hs (by omega) hl hr]
      cases hm : mRw g n u row k.toNat (sam n) with
      | none => rfl
      | some p => exact thr_sam (by omega) (by omega) (mR_pm (by omega) (by omega) V.gp _ _ _ _ hs hm)
    · rw [if_neg (by omega), chF_big _ _ _ (by omega) hr]; rfl
variable (d : Nat) (P : Int → MM → Prop)
theorem f_layRow (V : TV G c t T n m u q w x s ka ki g) (row k : Int) (hr : row < 2147483648) (hN : rowF g n u row k = none → ∀ c', Agr c c' → P 2 (G, c')) (hS : ∀ p, rowF g n u row k = some p → ∀ c', Agr c c' → One c' p n → P 0 (G, c')) : EvI (d + 2) mX12_layRow [mR 18 62, mI row, mI k] (G, c) P := by
  have M := V.M; have hT := M.T
  have b1 := M.b1; have b4 := M.b4; have v1 := V.v1; have v4 := V.v4
  rw [v1] at b1; rw [v4] at b4
  have hsm := sam_all (n := n) (by omega) (by omega)
  refine ev_X12_layRow (d + 1) P G c 62 row k (by decide) ?_
  simp only [M.p3, q_min]
  refine ⟨by omega, ?_⟩
  rw [if_neg (by omega)]
  by_cases hk : 0 ≤ k ∧ k ≤ 6
  · rw [if_pos hk, if_neg (by decide)]
    by_cases h0 : row < 0
    · rw [if_pos h0]; exact hN (by unfold rowF; rw [if_neg (by omega)]) c Agr.rf
    · rw [if_neg h0]
      have hS4 : ∀ c', Agr c c' → ∀ a b, 0 ≤ a → a < u → 0 ≤ b → b < n → sld c' T a b = dg (g a) b := fun c' A a b h1 h2 h3 h4 => by
        rw [sld_eq (fun a j q => A a j (by unfold scr; omega)) hT]
        unfold sld; rw [v4, if_pos h2]; exact V.tk a b h1 h2 h3 h4
      -- the loop over the digits
      have loop3 : ∀ (j : Nat) (i y : Int) (c' : MC), 0 ≤ i → i + j = k → Agr c c' → PM y n → One c' y n → row < tp k.toNat → (mRw g n u row j y = rowF g n u row k) → At (d + 2) mX12_layRow 87 [mR 18 62, mI row, mI k, mI ((tp j)), mI i, MU, MU] [] (G, c') (QI P) := by
        intro j
        induction j with
        | zero =>
          intro i y c' i0 hi A hy ho hlt hm
          apply wp_X12_layRow_87
          rw [if_neg (by omega)]
          exact hS y hm.symm c' A ho
        | succ j ih =>
          intro i y c' i0 hi A hy ho hlt hm
          have hp := tp_rg j (by omega)
          have hp1 := tp_rg (j + 1) (by omega)
          have M' := M.agr A
          have e1 : c' T 1 = n := by rw [A T 1 (by unfold scr; omega)]; exact v1
          have e4 : c' T 4 = u := by rw [A T 4 (by unfold scr; omega)]; exact v4
          have d1 : o_div (tp (j + 1)) 10 = (tp j) := by
            rw [o_div_of (by omega) (by omega) (by omega) (by omega), tp_s]
            omega
          have d2 : o_div row ((tp j)) = row / (tp j) := o_div_of (by omega) hr (by omega) (by omega)
          have hq0 : 0 ≤ row / (tp j) := Int.ediv_nonneg (by omega) (by omega)
          have hq1 : row / (tp j) ≤ row := Int.ediv_le_self _ (by omega)
          have d3 : o_rem (row / (tp j)) 10 = row / (tp j) % 10 := o_rem_of hq0 (by omega) (by omega) (by omega)
          apply wp_X12_layRow_87
          rw [if_pos (by omega), d1, d2, d3, w32i (x := row / (tp j) % 10 - 1) (by omega) (by omega)]
          refine ⟨by omega, by omega, by omega, ?_⟩
          rw [q_misTurn _ _ _ _ T M', e4]
          simp only [mRw] at hm
          by_cases hd : 1 ≤ row / (tp j) % 10 ∧ row / (tp j) % 10 ≤ u
          · rw [if_pos hd] at hm
            rw [if_pos (show 0 ≤ row / (tp j) % 10 - 1 ∧ row / (tp j) % 10 - 1 < u by omega), if_neg (by decide)]
            have hgp := V.gp (row / (tp j) % 10 - 1) (by omega) (by omega)
            -- the slots slide
            have loop4 : ∀ (f : Nat) (b : Int), 0 ≤ b → b + f = n → At (d + 2) mX12_layRow 122 [mR 18 62, mI row, mI k, mI ((tp j)), mI i, mI (row / (tp j) % 10 - 1), mI b] [] (G, wr c' 73 0 b (fun q => sld c' T (row / (tp j) % 10 - 1) (c' 73 q))) (QI P) := by
              intro f
              induction f with
              | zero =>
                intro b hb0 hb
                have eb : b = n := by omega
                subst eb
                have A2 : Agr c (wr c' 73 0 b (fun q => sld c' T (row / (tp j) % 10 - 1) (c' 73 q))) := A.w (fun j => by unfold scr; omega)
                have M2 := M.agr A2
                have e12 : wr c' 73 0 b (fun q => sld c' T (row / (tp j) % 10 - 1) (c' 73 q)) T 1 = b := by rw [wr_ne (by omega)]; exact e1
                have wi : w32 (i + 1) = i + 1 := w32i (by omega) (by omega)
                apply wp_X12_layRow_122
                simp only [M2.p3, e12, wi]
                refine ⟨by omega, by omega, ?_⟩
                rw [if_neg (by omega)]
                refine ih (i + 1) _ _ (by omega) (by omega) A2 (thr_pm (by omega) (by omega) hy hgp) (fun q q0 q1 => ?_) hlt hm
                rw [wr_in (by omega) (by omega), ho q q0 q1, hS4 c' A _ _ (by omega) (by omega) (hy.rg q q0 q1).1 (hy.rg q q0 q1).2, (thr_all (by omega) (by omega)).2 q q0 q1]
              | succ f ihf =>
                intro b hb0 hb
                have A2 : Agr c (wr c' 73 0 b (fun q => sld c' T (row / (tp j) % 10 - 1) (c' 73 q))) := A.w (fun j => by unfold scr; omega)
                have M2 := M.agr A2
                have e12 : wr c' 73 0 b (fun q => sld c' T (row / (tp j) % 10 - 1) (c' 73 q)) T 1 = n := by rw [wr_ne (by omega)]; exact e1
                have e73 : wr c' 73 0 b (fun q => sld c' T (row / (tp j) % 10 - 1) (c' 73 q)) 73 b = c' 73 b := wr_out (by omega)
                have wb : w32 (b + 1) = b + 1 := w32i (by omega) (by omega)
                have hv : 0 ≤ c' 73 b ∧ c' 73 b < n := by rw [ho b hb0 (by omega)]; exact hy.rg b hb0 (by omega)
                apply wp_X12_layRow_122
                simp only [M2.p3, e12, M2.p27, M2.l73, wb, e73]
                refine ⟨by omega, by omega, ?_⟩
                rw [if_pos (by omega)]
                refine ⟨by omega, by omega, ⟨by omega, by omega, by omega⟩, ?_⟩
                rw [q_slid _ _ _ _ T M2 _ _ (by omega) (by omega) hv.1 (by omega)]
                simp only [M2.l73]
                refine ⟨⟨by omega, by omega, by omega⟩, ?_⟩
                rintro _ rfl
                rw [sld_eq (c := c') (c' := wr c' 73 0 b (fun q => sld c' T (row / (tp j) % 10 - 1) (c' 73 q))) (fun a j q => wr_ne (by omega)) hT, wr_up hb0 (by omega) rfl]
                exact ihf (b + 1) (by omega) (by omega)
            have := loop4 n.toNat 0 (by omega) (by omega)
            rw [wr_zero (by omega)] at this
            exact this
          · rw [if_neg hd] at hm
            rw [if_neg (show ¬ (0 ≤ row / (tp j) % 10 - 1 ∧ row / (tp j) % 10 - 1 < u) by omega), if_pos rfl]
            exact hN hm.symm c' A
      -- one[k] = k
      have loop2 : ∀ (j : Nat) (b : Int) (c' : MC), 0 ≤ b → b + j = n → Agr c c' → (∀ q, 0 ≤ q → q < b → c' 73 q = q) → row < tp k.toNat → At (d + 2) mX12_layRow 57 [mR 18 62, mI row, mI k, mI (tp k.toNat), mI b, MU, MU] [] (G, c') (QI P) := by
        intro j
        induction j with
        | zero =>
          intro b c' hb0 hb A hq hlt
          have M' := M.agr A
          have e1 : c' T 1 = n := by rw [A T 1 (by unfold scr; omega)]; exact v1
          apply wp_X12_layRow_57
          simp only [M'.p3, e1]
          refine ⟨by omega, by omega, ?_⟩
          rw [if_neg (by omega)]
          exact loop3 k.toNat 0 (sam n) c' (by omega) (by omega) A hsm.1 (fun q q0 q1 => by rw [hq q q0 (by omega), hsm.2.1 q q0 q1]) hlt (by unfold rowF; rw [if_pos ⟨hk, by omega, hlt⟩])
        | succ j ih =>
          intro b c' hb0 hb A hq hlt
          have M' := M.agr A
          have e1 : c' T 1 = n := by rw [A T 1 (by unfold scr; omega)]; exact v1
          have wb : w32 (b + 1) = b + 1 := w32i (by omega) (by omega)
          apply wp_X12_layRow_57
          simp only [M'.p3, e1, M'.p27, M'.l73, wb]
          refine ⟨by omega, by omega, ?_⟩
          rw [if_pos (by omega)]
          refine ⟨by omega, ⟨by omega, by omega, by omega⟩, ?_⟩
          rintro _ rfl
          refine ih (b + 1) _ (by omega) (by omega) (A.u (by unfold scr; omega)) (fun q q0 q1 => ?_) hlt
          by_cases e : q = b
          · rw [e, up_eq]
          · rw [up_nj e]; exact hq q q0 (by omega)
      -- unit = (tp k)
      have loop1 : ∀ (j : Nat) (i : Nat), i + j = k.toNat → At (d + 2) mX12_layRow 30 [mR 18 62, mI row, mI k, mI ((tp i)), mI i, MU, MU] [] (G, c) (QI P) := by
        intro j
        induction j with
        | zero =>
          intro i hi
          have hp := tp_rg i (by omega)
          apply wp_X12_layRow_30
          rw [if_neg (by omega)]
          have ei : i = k.toNat := by omega
          subst ei
          by_cases hlt : row < tp k.toNat
          · rw [if_pos hlt]; exact loop2 n.toNat 0 c (by omega) (by omega) Agr.rf (fun q a b => by omega) hlt
          · rw [if_neg hlt]; exact hN (by unfold rowF; rw [if_neg (by omega)]) c Agr.rf
        | succ j ih =>
          intro i hi
          obtain ⟨hi7, hik, hi6⟩ := lay_i7 hk hi
          have wi : w32 ((i : Int) + 1) = ((i + 1 : Nat) : Int) := w32i (by omega) (by omega)
          have wp : w32 ((tp i) * 10) = tp (i + 1) := by
            have hp := tp_rg (i + 1) hi7
            rw [Int.mul_comm, ← tp_s]
            exact w32i (by omega) (by omega)
          apply wp_X12_layRow_30
          rw [if_pos hik, wi, wp]
          exact ih (i + 1) (by omega)
      have hl1 := loop1 k.toNat 0 (by omega)
      rw [show tp 0 = 1 from rfl, show ((0 : Nat) : Int) = 0 from rfl] at hl1
      exact hl1
  · rw [if_neg hk, if_pos rfl]; exact hN (by unfold rowF; rw [if_neg (by omega)]) c Agr.rf
end
