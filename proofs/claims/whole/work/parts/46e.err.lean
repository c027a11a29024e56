/-! errands and peace -/
theorem pfull_chk : alln 7 (fun k => alln (2 ^ k) (fun y => decide ((y : Int) = w32 (o_shl 1 k - 1) ↔ pop y = k) && decide ((y : Int) = 0 ↔ pop y = 0))) = true := by decide +kernel
theorem bs_full (p : Int → Bool) {k : Int} (h0 : 0 ≤ k) (h6 : k ≤ 6) : (bs p k = w32 (o_shl 1 k - 1) ↔ cnt p k = k) ∧ (bs p k = 0 ↔ cnt p k = 0) := by
  obtain ⟨A1, A2, A3⟩ := bs_all p h0 (by omega)
  rw [← A2]
  obtain ⟨y, hy⟩ := Int.eq_ofNat_of_zero_le A1.1
  obtain ⟨k, rfl⟩ := Int.eq_ofNat_of_zero_le h0
  rw [hy]
  have hlt : y < 2 ^ k := by
    have := A1.2
    rw [hy] at this
    exact_mod_cast this
  have := alln_at (alln_at pfull_chk k (by omega)) y hlt
  simp only [Bool.and_eq_true, decide_eq_true_eq] at this
  exact this
def Wf (c : MC) (i p : Int) : Int := c 68 (6 * i + c 64 p)
def wcn (c : MC) (T w i : Int) : Int := cnt (fun k => decide (bes (Wf c i (c (T + 5) k)) (Wf c i (c (T + 6) k)) ≠ mbt (c T 16) k)) w
def qcn (c : MC) (t q i : Int) : Int := cnt (fun k => decide (bes (Wf c i (c (t + 6 + 1) k)) (Wf c i (c (t + 6 + 2) k)) ≠ 0)) q
def erF (c : MC) (T w N : Int) : Int := fi (fun i => decide (wcn c T w i = w)) (fun i => i) (-1) N.toNat 0
def peF (c : MC) (t q N : Int) : Int := fi (fun i => decide (qcn c t q i = 0)) (fun i => i) (-1) N.toNat 0
theorem Wf_eq {c c' : MC} (e : ∀ a j, 62 ≤ a → a ≠ 65 → c' a j = c a j ∨ (a ≠ 64 ∧ a ≠ 68)) : Wf c' = Wf c := by
  funext i p
  unfold Wf
  have h1 : ∀ j, c' 64 j = c 64 j := fun j => (e 64 j (by omega) (by omega)).resolve_right (by omega)
  have h2 : ∀ j, c' 68 j = c 68 j := fun j => (e 68 j (by omega) (by omega)).resolve_right (by omega)
  rw [h1, h2]
theorem er_fr {c c' : MC} {t T : Int} (ht : t = 1 ∨ t = 24) (hT : 80 ≤ T) (h64 : ∀ j, c' 64 j = c 64 j) (h68 : ∀ j, c' 68 j = c 68 j) (hlo : ∀ a j, a < 42 → a ≠ 0 → c' a j = c a j) (hhi : ∀ a j, 80 ≤ a → c' a j = c a j) (w q N i : Int) : wcn c' T w i = wcn c T w i ∧ qcn c' t q i = qcn c t q i ∧ erF c' T w N = erF c T w N ∧ peF c' t q N = peF c t q N := by
  have hW : Wf c' = Wf c := by funext i p; unfold Wf; rw [h64, h68]
  have h1 : ∀ i, wcn c' T w i = wcn c T w i := fun i => by
    unfold wcn
    rw [hW, hhi T 16 hT]
    apply cnt_congr
    intro k _ _
    rw [hhi (T + 5) k (by omega), hhi (T + 6) k (by omega)]
  have h2 : ∀ i, qcn c' t q i = qcn c t q i := fun i => by
    unfold qcn
    rw [hW]
    apply cnt_congr
    intro k _ _
    rw [hlo (t + 6 + 1) k (by omega) (by omega), hlo (t + 6 + 2) k (by omega) (by omega)]
  refine ⟨h1 i, h2 i, ?_, ?_⟩
  · unfold erF; simp only [h1]
  · unfold peF; simp only [h2]
section
variable {G : MG} {c : MC} {t T n m u q w x s ka ki z : Int} {g : Int → Int}
theorem tv_wf (V : TV G c t T n m u q w x s ka ki g) {i : Int} (i0 : 0 ≤ i) (i1 : i < bfs n g u 0 0) : ∀ p, 0 ≤ p → p < m → dg (thr (c 42 0) (bfs n g u 1 i) m) p = Wf c i p := fun p a b => by
  have b3 := V.M.b3
  rw [V.v3] at b3
  rw [(thr_all (n := m) (by omega) (by omega)).2 p a b, (V.sv p a b).1]
  exact (V.B.e i _ i0 i1 (V.sv p a b).2.1 (V.sv p a b).2.2).symm
theorem tv_wfr (V : TV G c t T n m u q w x s ka ki g) {i : Int} (i0 : 0 ≤ i) (i1 : i < bfs n g u 0 0) (p : Int) (p0 : 0 ≤ p) (p1 : p < m) : 0 ≤ Wf c i p ∧ Wf c i p < n := by
  have B := (tv_bfs V).1
  unfold Wf
  rw [V.B.e i _ i0 i1 (V.sv p p0 p1).2.1 (V.sv p p0 p1).2.2]
  exact (B.2.1 i i0 i1).1.rg _ (V.sv p p0 p1).2.1 (V.sv p p0 p1).2.2
variable (d : Nat) (P : Int → MM → Prop)
theorem f_errandChange (V : TV G c t T n m u q w x s ka ki g) (S : SH G c t z) (hP : ∀ c', TV G c' t T n m u q w x s ka ki g → SH G c' t z → CBT G c' 45 n (bfs n g u) → FrR 45 c c' → P (erF c' T w (bfs n g u 0 0)) (G, c')) : EvI (d + 6) mX10_errandChange [mR 16 0] (G, c) P := by
  refine ev_X10_errandChange (d + 5) P G c 0 (by decide) ?_
  refine f_reached d _ V S (fun c' V' S' C f => ?_)
  have I := S'.ciT V'
  have b3 := V'.M.b3; have b6 := V'.M.b6; have ht := V'.t
  rw [V'.v3] at b3; rw [V'.v6] at b6
  have hw := (tv_bfs V').1.w
  simp only [I.p0, I.p3, I.H.p12, q_all _ _ _ _ (t + 10) 4 I.H.w, V'.e3, V'.ew]
  refine ⟨by omega, by omega, by omega, by omega, ?_⟩
  refine ⟨by omega, by omega, by omega, by omega, ?_⟩
  rw [q_firstHolding _ _ _ _ 45 n _ C hw (t + 10) 4 _ _ m I.H.w (by omega)]
  have e : fi (fun i => decide (hld c' (t + 10) (thr (c' 42 0) (bfs n g u 1 i) m) = w32 (o_shl 1 w - 1))) (fun i => i) (-1) (bfs n g u 0 0).toNat 0 = erF c' T w (bfs n g u 0 0) := by
    unfold erF
    apply fi_congr
    intro i i0 i1
    refine ⟨?_, rfl⟩
    rw [V'.wish (tv_wf V' i0 (by omega))]
    congr 1
    apply propext
    exact (bs_full _ (by omega) (by omega)).1
  rw [e]
  exact hP c' V' S' C f
theorem f_peaceChange (V : TV G c t T n m u q w x s ka ki g) (S : SH G c t z) (hP : ∀ c', TV G c' t T n m u q w x s ka ki g → SH G c' t z → CBT G c' 45 n (bfs n g u) → FrR 45 c c' → P (peF c' t q (bfs n g u 0 0)) (G, c')) : EvI (d + 6) mX10_peaceChange [mR 16 0] (G, c) P := by
  refine ev_X10_peaceChange (d + 5) P G c 0 (by decide) ?_
  refine f_reached d _ V S (fun c' V' S' C f => ?_)
  have I := S'.ciT V'
  have b3 := V'.M.b3; have b5 := V'.M.b5; have ht := V'.t
  rw [V'.v3] at b3; rw [V'.v5] at b5
  have hw := (tv_bfs V').1.w
  simp only [I.p0, I.p3, I.H.p11, V'.e3]
  refine ⟨by omega, by omega, by omega, by omega, by omega, by omega, ?_⟩
  rw [q_firstHolding _ _ _ _ 45 n _ C hw (t + 6) 6 _ _ m I.H.q (by omega)]
  have e : fi (fun i => decide (hld c' (t + 6) (thr (c' 42 0) (bfs n g u 1 i) m) = 0)) (fun i => i) (-1) (bfs n g u 0 0).toNat 0 = peF c' t q (bfs n g u 0 0) := by
    unfold peF
    apply fi_congr
    intro i i0 i1
    refine ⟨?_, rfl⟩
    rw [V'.quar (tv_wf V' i0 (by omega))]
    congr 1
    apply propext
    exact (bs_full _ (by omega) (by omega)).2
  rw [e]
  exact hP c' V' S' C f
theorem f_depthOrNot (V : TV G c t T n m u q w x s ka ki g) (S : SH G c t z) (r : Int) (hr : r = -1 ∨ (0 ≤ r ∧ r < bfs n g u 0 0)) (hP : ∀ c', TV G c' t T n m u q w x s ka ki g → SH G c' t z → FrR 45 c c' → P (if r = -1 then -2 else bfs n g u 2 r) (G, c')) : EvI (d + 6) mX10_depthOrNot [mR 16 0, mI r] (G, c) P := by
  refine ev_X10_depthOrNot (d + 5) P G c 0 r (by decide) ?_
  by_cases h : r = -1
  · rw [if_pos h]
    have := hP c V S FrR.rf
    rwa [if_pos h] at this
  · rw [if_neg h]
    have hr' := hr.resolve_left h
    refine f_reached d _ V S (fun c' V' S' C f => ?_)
    have hw := (tv_bfs V').1.w
    simp only [C.h.p4, C.h.l2, (C.e r hr'.1 hr'.2).2.1]
    refine ⟨by omega, ⟨by omega, by omega, by omega⟩, ?_⟩
    have := hP c' V' S' f
    rwa [if_neg h] at this
end
/-- where a search ends -/
theorem fi_at {p : Int → Bool} : ∀ (j : Nat) (i : Int), (fi p (fun i => i) (-1) j i = -1 ∨ (i ≤ fi p (fun i => i) (-1) j i ∧ fi p (fun i => i) (-1) j i < i + j)) := by
  intro j
  induction j with
  | zero => intro i; exact Or.inl rfl
  | succ j ih =>
    intro i
    simp only [fi]
    split
    · exact Or.inr ⟨by omega, by omega⟩
    · have := ih (i + 1); omega
section
variable {G : MG} {c : MC} {t T n m u q w x s ka ki z : Int} {g : Int → Int}
variable (d : Nat) (P : Int → MM → Prop)
/-- the reference's search -/
def dnF (c : MC) (t T w q N pe : Int) : Int := if pe = 0 then erF c T w N else peF c t q N
theorem f_isDone (V : TV G c t T n m u q w x s ka ki g) (xf : Int → Int) (hx : ∀ p, 0 ≤ p → p < m → c 65 p = xf p) (pe : Int) : EvI (d + 4) mX12_isDone [mR 18 62, mI pe] (G, c) P = P (if pe = 0 then (if cnt (fun k => decide (bes (xf (c (T + 5) k)) (xf (c (T + 6) k)) ≠ mbt (c T 16) k)) w = w then 1 else 0) else (if cnt (fun k => decide (bes (xf (c (t + 6 + 1) k)) (xf (c (t + 6 + 2) k)) ≠ 0)) q = 0 then 1 else 0)) (G, c) := evI_eq (ev_X12_isDone (d + 3) _ G c 62 pe (by decide) (by
  have M := V.M; have hT := M.T
  have b3 := M.b3; have b5 := M.b5; have b6 := M.b6
  rw [V.v3] at b3; rw [V.v5] at b5; rw [V.v6] at b6
  have hm : mtn c T (c 65) = bs (fun k => decide (bes (xf (c (T + 5) k)) (xf (c (T + 6) k)) ≠ mbt (c T 16) k)) w := by
    rw [mtn_bs c T _ (by rw [V.v6]; omega) (by rw [V.v6]; omega), V.v6]
    apply bs_congr
    intro k k0 k1
    have := V.wi k k0 k1
    rw [hx _ this.2.2.1.1 this.2.2.1.2, hx _ this.2.2.2.1.1 this.2.2.2.1.2]
  have hq : qrl (c 65) (c (T + 3)) m = cnt (fun k => decide (bes (xf (c (t + 6 + 1) k)) (xf (c (t + 6 + 2) k)) ≠ 0)) q := by
    rw [tv_qrl V]
    apply cnt_congr
    intro k k0 k1
    have := V.qu k k0 k1
    rw [hx _ this.1.1 this.1.2, hx _ this.2.1.1 this.2.1.2]
  obtain ⟨A1, A2, A3⟩ := bs_all (fun k => decide (bes (xf (c (T + 5) k)) (xf (c (T + 6) k)) ≠ mbt (c T 16) k)) (n := w) (by omega) (by omega)
  have h64 : (2 : Int) ^ w.toNat ≤ 64 := by
    have : w = 0 ∨ w = 1 ∨ w = 2 ∨ w = 3 ∨ w = 4 := by omega
    rcases this with rfl | rfl | rfl | rfl | rfl <;> decide
  by_cases hpe : pe = 0
  · rw [if_pos hpe, if_pos hpe, q_metNow _ _ _ _ T M (fun k a b => by rw [V.v6] at b; have := V.wi k a b; omega), hm]
    simp only [q_mbits _ _ _ _ _ A1.1 (by omega), M.p3, V.v6, A2]
    refine ⟨by omega, by omega, ?_⟩
    split <;> simp
  · rw [if_neg hpe, if_neg hpe, q_quarrelsNow _ _ _ _ T M (fun p a b => by rw [V.v3] at *; have := V.foeb (c 65) p a b; omega), V.v3, hq]
    split <;> simp)) P
theorem f_doneBy (V : TV G c t T n m u q w x s ka ki g) (pe : Int) (hP : ∀ c', Agr c c' → P (dnF c t T w q (bfs n g u 0 0) pe) (G, c')) : EvI (d + 5) mX12_doneBy [mR 18 62, mI pe] (G, c) P := by
  have M := V.M; have hT := M.T; have ht := V.t
  have hw := (tv_bfs V).1.w
  have b3 := M.b3; have b1 := M.b1
  rw [V.v3] at b3; rw [V.v1] at b1
  have loop : ∀ (j : Nat) (i : Int) (c' : MC), 0 ≤ i → i + j = bfs n g u 0 0 → Agr c c' → (∀ c2, Agr c c2 → P (if pe = 0 then fi (fun i => decide (wcn c T w i = w)) (fun i => i) (-1) j i else fi (fun i => decide (qcn c t q i = 0)) (fun i => i) (-1) j i) (G, c2)) → At (d + 5) mX12_doneBy 2 [mR 18 62, mI pe, mI i] [] (G, c') (QI P) := by
    intro j
    induction j with
    | zero =>
      intro i c' i0 hi A hk
      have Mb := V.B.ki (ki_agr A)
      apply wp_X12_doneBy_2
      simp only [Mb.w]
      refine ⟨by omega, ?_⟩
      rw [if_neg (by omega)]
      have := hk c' A
      simp only [fi, ite_self] at this
      exact this
    | succ j ih =>
      intro i c' i0 hi A hk
      have Mb := V.B.ki (ki_agr A)
      have V' := V.kp (ki_agr A)
      have M' := V'.M
      have wi : w32 (i + 1) = i + 1 := w32i (by omega) (by omega)
      apply wp_X12_doneBy_2
      simp only [Mb.w, wi]
      refine ⟨by omega, ?_⟩
      rw [if_pos (by omega), q_goesBy _ _ _ _ T M' (fun p a b => by rw [V'.v3] at b; have := V'.sv p a b; omega) i i0 (by omega), V'.v3]
      have A2 : Agr c (wr c' 65 0 m (fun p => c' 68 (6 * i + c' 64 p))) := A.w (fun j => by unfold scr; omega)
      have V2 := V.kp (ki_agr A2)
      have e64 : ∀ j, c' 64 j = c 64 j := fun j => A 64 j (by unfold scr; omega)
      have e68 : ∀ j, c' 68 j = c 68 j := fun j => A 68 j (by unfold scr; omega)
      simp only []
      rw [f_isDone (d := d) (P := _) V2 (Wf c i) (fun p a b => by rw [wr_in a (by omega), e64, e68]; rfl) pe]
      have hhi : ∀ a j, 80 ≤ a → wr c' 65 0 m (fun p => c' 68 (6 * i + c' 64 p)) a j = c a j := fun a j h => A2 a j (by unfold scr; omega)
      have hlo : ∀ a j, a < 42 → wr c' 65 0 m (fun p => c' 68 (6 * i + c' 64 p)) a j = c a j := fun a j h => A2 a j (by unfold scr; omega)
      have c1 : cnt (fun k => decide (bes (Wf c i (wr c' 65 0 m (fun p => c' 68 (6 * i + c' 64 p)) (T + 5) k)) (Wf c i (wr c' 65 0 m (fun p => c' 68 (6 * i + c' 64 p)) (T + 6) k)) ≠ mbt (wr c' 65 0 m (fun p => c' 68 (6 * i + c' 64 p)) T 16) k)) w = wcn c T w i := by
        unfold wcn
        apply cnt_congr
        intro k _ _
        rw [hhi (T + 5) k (by omega), hhi (T + 6) k (by omega), hhi T 16 hT]
      have c2 : cnt (fun k => decide (bes (Wf c i (wr c' 65 0 m (fun p => c' 68 (6 * i + c' 64 p)) (t + 6 + 1) k)) (Wf c i (wr c' 65 0 m (fun p => c' 68 (6 * i + c' 64 p)) (t + 6 + 2) k)) ≠ 0)) q = qcn c t q i := by
        unfold qcn
        apply cnt_congr
        intro k _ _
        rw [hlo (t + 6 + 1) k (by omega), hlo (t + 6 + 2) k (by omega)]
      rw [c1, c2]
      have hdone : ∀ (b : Prop) [Decidable b], (if pe = 0 then fi (fun i => decide (wcn c T w i = w)) (fun i => i) (-1) (j + 1) i else fi (fun i => decide (qcn c t q i = 0)) (fun i => i) (-1) (j + 1) i) = (if (if pe = 0 then decide (wcn c T w i = w) else decide (qcn c t q i = 0)) = true then i else (if pe = 0 then fi (fun i => decide (wcn c T w i = w)) (fun i => i) (-1) j (i + 1) else fi (fun i => decide (qcn c t q i = 0)) (fun i => i) (-1) j (i + 1))) := by
        intro b _
        simp only [fi]
        by_cases hpe : pe = 0 <;> simp [hpe]
      rw [hdone True] at hk
      by_cases hpe : pe = 0
      · simp only [if_pos hpe] at hk ⊢
        by_cases hc : wcn c T w i = w
        · rw [if_pos hc, if_neg (by decide)]
          rw [if_pos (by simpa using hc)] at hk
          exact hk _ A2
        · rw [if_neg hc, if_pos rfl]
          rw [if_neg (by simpa using hc)] at hk
          exact ih _ _ (by omega) (by omega) A2 (by simp only [if_pos hpe]; exact hk)
      · simp only [if_neg hpe] at hk ⊢
        by_cases hc : qcn c t q i = 0
        · rw [if_pos hc, if_neg (by decide)]
          rw [if_pos (by simpa using hc)] at hk
          exact hk _ A2
        · rw [if_neg hc, if_pos rfl]
          rw [if_neg (by simpa using hc)] at hk
          exact ih _ _ (by omega) (by omega) A2 (by simp only [if_neg hpe]; exact hk)
  refine ev_X12_doneBy (d + 4) P G c 62 pe (by decide) (loop (bfs n g u 0 0).toNat 0 c (by omega) (by omega) Agr.rf (fun c2 A2 => ?_))
  have := hP c2 A2
  unfold dnF erF peF at this
  exact this
end
