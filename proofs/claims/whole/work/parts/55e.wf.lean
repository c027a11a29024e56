/-! what is told stays well told -/
theorem ptF_set {one other : Int → Int} {m : Int} (hm : m ≤ 6) {p k : Int} (k0 : 0 ≤ k) (k8 : k < 8) : ∀ (j : Nat), (∀ i : Int, 0 ≤ i → i < j → (0 ≤ one i ∧ one i < m) ∧ (0 ≤ other i ∧ other i < m)) → ∀ i : Int, 0 ≤ i → i < j → ((one i = p ∧ other i = k) ∨ (one i ≠ p ∧ other i = p ∧ one i = k)) → bt (ptF one other p j) k = 1 := by
  intro j
  induction j with
  | zero => intro _ i i0 i1; omega
  | succ j ih =>
    intro hr i i0 i1 h
    have hj := hr j (by omega) (by omega)
    have hb := (ptF_all hm j (fun i a b => hr i a (by omega)) p).1
    have e : ptF one other p (j + 1) = if one j = p then o_or (ptF one other p j) (o_shl 1 (other j)) else if other j = p then o_or (ptF one other p j) (o_shl 1 (one j)) else ptF one other p j := by
      unfold ptF
      rw [fo_succ, show (0 : Int) + (j : Nat) = j by omega]
    rw [e]
    by_cases ei : i = j
    · subst ei
      rcases h with ⟨h1, h2⟩ | ⟨h1, h2, h3⟩
      · rw [if_pos h1, (or6 hb.1 hb.2 hj.2.1 (by omega)).2 k k0 k8, if_pos h2.symm]
      · rw [if_neg h1, if_pos h2, (or6 hb.1 hb.2 hj.1.1 (by omega)).2 k k0 k8, if_pos h3.symm]
    · have hi := ih (fun i a b => hr i a (by omega)) i i0 (by omega) h
      split
      · rw [(or6 hb.1 hb.2 hj.2.1 (by omega)).2 k k0 k8]
        split
        · rfl
        · exact hi
      · split
        · rw [(or6 hb.1 hb.2 hj.1.1 (by omega)).2 k k0 k8]
          split
          · rfl
          · exact hi
        · exact hi
theorem ptn_F (R : MC) (a p : Int) : ptn R a p = ptF (R (a + 1)) (R (a + 2)) p (R a 3).toNat := rfl
section
variable {R : MC} {tx : Int → Int} {e p : Int}
theorem wf_tube (W : WF R) (h1 : R 0 1 = 0) {x y v : Int} (hx : 2 ≤ x ∧ x ≤ 9) (hy : 2 ≤ y ∧ y ≤ 6) (hv : 0 ≤ v ∧ v ≤ 100) : WF (up (up (up R 0 0 x) 0 1 y) 0 2 v) := by
  have a := W.a
  have e0 : up (up (up R 0 0 x) 0 1 y) 0 2 v 0 0 = x := by rw [up_nj (by decide), up_nj (by decide), up_eq]
  have e1 : up (up (up R 0 0 x) 0 1 y) 0 2 v 0 1 = y := by rw [up_nj (by decide), up_eq]
  have e2 : up (up (up R 0 0 x) 0 1 y) 0 2 v 0 2 = v := up_eq
  have eo : ∀ a j, ¬ (a = 0 ∧ (j = 0 ∨ j = 1 ∨ j = 2)) → up (up (up R 0 0 x) 0 1 y) 0 2 v a j = R a j := fun a j h => by rw [up_o (by omega), up_o (by omega), up_o (by omega)]
  have e3 := eo 0 3 (by omega); have e4 := eo 0 4 (by omega); have e5 := eo 0 5 (by omega); have e6 := eo 6 3 (by omega); have e10 := eo 10 3 (by omega); have e14 := eo 14 3 (by omega); have e20 := eo 20 0 (by omega)
  have e22 : ∀ j, up (up (up R 0 0 x) 0 1 y) 0 2 v 22 j = R 22 j := fun j => eo 22 j (by omega)
  unfold WF
  rw [e0, e1, e2, e3, e4, e5, e6, e10, e14, e20]
  exact ⟨Or.inr (by omega), hv, W.p, W.t, W.x, W.q, W.w, W.s, W.n, fun i i0 i1 => by rw [e22]; exact W.nd i i0 i1, fun i i0 i1 => by omega, fun i i0 i1 => by omega, fun i i0 i1 => by omega, fun i j i0 i1 i2 => by omega, fun i i0 i1 => by omega, fun i i0 i1 => by omega, fun i i0 i1 => by omega⟩
theorem wf_pers (W : WF R) (h1 : R 0 1 ≠ 0) (h3 : R 0 3 ≤ 5) {v y h : Int} (hh : 0 ≤ h ∧ h ≤ R 0 1 - 1) : WF (up (up (up (nmU R v (R 0 3)) 1 (R 0 3) y) 2 (R 0 3) h) 0 3 (R 0 3 + 1)) := by
  have a := W.a; have hn := W.n; have hp := W.p
  generalize hR : up (up (up (nmU R v (R 0 3)) 1 (R 0 3) y) 2 (R 0 3) h) 0 3 (R 0 3 + 1) = R'
  have e0 : ∀ j, R' 0 j = if j = 3 then R 0 3 + 1 else R 0 j := fun j => by
    rw [← hR]
    by_cases q : j = 3
    · rw [q, up_eq, if_pos rfl]
    · rw [up_nj q, up_na (by decide), up_na (by decide), nmU_o (by decide), if_neg q]
  have e2 : ∀ j, R' 2 j = if j = R 0 3 then h else R 2 j := fun j => by
    rw [← hR, up_na (by decide)]
    by_cases q : j = R 0 3
    · rw [q, up_eq, if_pos rfl]
    · rw [up_nj q, up_na (by decide), nmU_o (by decide), if_neg q]
  have eo : ∀ a j, 3 ≤ a → a ≤ 17 → R' a j = R a j := fun a j x z => by rw [← hR, up_na (by omega), up_na (by omega), up_na (by omega), nmU_o z]
  have e20 : R' 20 0 = R 20 0 + 1 := by rw [← hR, up_na (by decide), up_na (by decide), up_na (by decide)]; unfold nmU; rw [up_eq]
  have e22 : ∀ j, R' 22 j = if j = R 20 0 then R 0 3 else R 22 j := fun j => by
    rw [← hR, up_na (by decide), up_na (by decide), up_na (by decide)]
    unfold nmU
    rw [up_na (by decide)]
    by_cases q : j = R 20 0
    · rw [q, up_eq, if_pos rfl]
    · rw [up_nj q, up_na (by decide), if_neg q]
  unfold WF
  simp only [e0, e2, e20, e22, eo 3 _ (by decide) (by decide), eo 4 _ (by decide) (by decide), eo 5 _ (by decide) (by decide), eo 6 _ (by decide) (by decide), eo 7 _ (by decide) (by decide), eo 8 _ (by decide) (by decide), eo 9 _ (by decide) (by decide), eo 10 _ (by decide) (by decide), eo 11 _ (by decide) (by decide), eo 12 _ (by decide) (by decide), eo 14 _ (by decide) (by decide), eo 15 _ (by decide) (by decide), eo 16 _ (by decide) (by decide), Int.reduceEq, ↓reduceIte]
  refine ⟨Or.inr (by omega), W.h, by omega, W.t, W.x, W.q, W.w, W.s, by omega, fun i i0 i1 => ?_, fun i i0 i1 => ?_, W.tp, fun i i0 i1 => ?_, W.qd, fun i i0 i1 => ?_, fun i i0 i1 => ?_, fun i i0 i1 => ?_⟩
  · by_cases q : i = R 20 0
    · rw [if_pos q]; omega
    · rw [if_neg q]; have := W.nd i i0 (by omega); omega
  · by_cases q : i = R 0 3
    · rw [if_pos q]; omega
    · rw [if_neg q]; exact W.ho i i0 (by omega)
  · have := W.qu i i0 i1; exact ⟨by omega, by omega, this.2.2⟩
  · have := W.wi i i0 i1; omega
  · have := W.un i i0 i1; omega
  · have := W.se i i0 i1; omega
theorem wf_turn (W : WF R) (h1 : R 0 1 ≠ 0) (h3 : R 0 4 ≤ 2) {v ch : Int} (hh : PM ch (R 0 1)) : WF (up (up (nmU R v (-1)) 3 (R 0 4) ch) 0 4 (R 0 4 + 1)) := by
  have a := W.a; have hn := W.n; have hp := W.p; have ht := W.t
  generalize hR : up (up (nmU R v (-1)) 3 (R 0 4) ch) 0 4 (R 0 4 + 1) = R'
  have e0 : ∀ j, R' 0 j = if j = 4 then R 0 4 + 1 else R 0 j := fun j => by
    rw [← hR]
    by_cases q : j = 4
    · rw [q, up_eq, if_pos rfl]
    · rw [up_nj q, up_na (by decide), nmU_o (by decide), if_neg q]
  have e3 : ∀ j, R' 3 j = if j = R 0 4 then ch else R 3 j := fun j => by
    rw [← hR, up_na (by decide)]
    by_cases q : j = R 0 4
    · rw [q, up_eq, if_pos rfl]
    · rw [up_nj q, nmU_o (by decide), if_neg q]
  have eo : ∀ a j, 1 ≤ a → a ≠ 3 → a ≤ 17 → R' a j = R a j := fun a j x y z => by rw [← hR, up_na (by omega), up_na (by omega), nmU_o z]
  have e20 : R' 20 0 = R 20 0 + 1 := by rw [← hR, up_na (by decide), up_na (by decide)]; unfold nmU; rw [up_eq]
  have e22 : ∀ j, R' 22 j = if j = R 20 0 then -1 else R 22 j := fun j => by
    rw [← hR, up_na (by decide), up_na (by decide)]
    unfold nmU
    rw [up_na (by decide)]
    by_cases q : j = R 20 0
    · rw [q, up_eq, if_pos rfl]
    · rw [up_nj q, up_na (by decide), if_neg q]
  unfold WF
  simp only [e0, e3, e20, e22, eo 2 _ (by decide) (by decide) (by decide), eo 4 _ (by decide) (by decide) (by decide), eo 5 _ (by decide) (by decide) (by decide), eo 6 _ (by decide) (by decide) (by decide), eo 7 _ (by decide) (by decide) (by decide), eo 8 _ (by decide) (by decide) (by decide), eo 9 _ (by decide) (by decide) (by decide), eo 10 _ (by decide) (by decide) (by decide), eo 11 _ (by decide) (by decide) (by decide), eo 12 _ (by decide) (by decide) (by decide), eo 14 _ (by decide) (by decide) (by decide), eo 15 _ (by decide) (by decide) (by decide), eo 16 _ (by decide) (by decide) (by decide), Int.reduceEq, ↓reduceIte]
  refine ⟨Or.inr (by omega), W.h, W.p, by omega, W.x, W.q, W.w, W.s, by omega, fun i i0 i1 => ?_, W.ho, fun i i0 i1 => ?_, W.qu, W.qd, W.wi, W.un, W.se⟩
  · by_cases q : i = R 20 0
    · rw [if_pos q]; omega
    · rw [if_neg q]; have := W.nd i i0 (by omega); omega
  · by_cases q : i = R 0 4
    · rw [if_pos q]; exact hh
    · rw [if_neg q]; exact W.tp i i0 (by omega)
theorem addP_e {a x y f : Int} : (∀ j, addP R a x y f a j = if j = 3 then R a 3 + 1 else R a j) ∧ (∀ j, addP R a x y f (a + 1) j = if j = R a 3 then x else R (a + 1) j) ∧ (∀ j, addP R a x y f (a + 2) j = if j = R a 3 then y else R (a + 2) j) ∧ (∀ j, addP R a x y f (a + 3) j = if j = R a 3 then f else R (a + 3) j) ∧ (∀ k j, k < a ∨ a + 3 < k → addP R a x y f k j = R k j) := by
  unfold addP
  refine ⟨fun j => ?_, fun j => ?_, fun j => ?_, fun j => ?_, fun k j h => ?_⟩
  · by_cases q : j = 3
    · rw [q, up_eq, if_pos rfl]
    · rw [up_nj q, up_na (by omega), up_na (by omega), up_na (by omega), if_neg q]
  · rw [up_na (by omega), up_na (by omega), up_na (by omega)]
    by_cases q : j = R a 3
    · rw [q, up_eq, if_pos rfl]
    · rw [up_nj q, if_neg q]
  · rw [up_na (by omega), up_na (by omega)]
    by_cases q : j = R a 3
    · rw [q, up_eq, if_pos rfl]
    · rw [up_nj q, up_na (by omega), if_neg q]
  · rw [up_na (by omega)]
    by_cases q : j = R a 3
    · rw [q, up_eq, if_pos rfl]
    · rw [up_nj q, up_na (by omega), up_na (by omega), if_neg q]
  · rw [up_na (by omega), up_na (by omega), up_na (by omega), up_na (by omega)]
theorem wf_wish (W : WF R) (h1 : R 0 1 ≠ 0) (h3 : R 10 3 ≤ 3) {x y f : Int} (hx : 0 ≤ x ∧ x < R 0 3) (hy : 0 ≤ y ∧ y < R 0 3) : WF (addP R 10 x y f) := by
  have a := W.a; have hw := W.w
  obtain ⟨e10, e11, e12, e13, eo⟩ := addP_e (R := R) (a := 10) (x := x) (y := y) (f := f)
  simp only [Int.reduceAdd] at e11 e12 e13 eo
  unfold WF
  simp only [e10, e11, e12, eo 0 _ (by decide), eo 2 _ (by decide), eo 3 _ (by decide), eo 4 _ (by decide), eo 5 _ (by decide), eo 6 _ (by decide), eo 7 _ (by decide), eo 8 _ (by decide), eo 9 _ (by decide), eo 14 _ (by decide), eo 15 _ (by decide), eo 16 _ (by decide), eo 20 _ (by decide), eo 22 _ (by decide), ↓reduceIte]
  refine ⟨Or.inr (by omega), W.h, W.p, W.t, W.x, W.q, by omega, W.s, W.n, W.nd, W.ho, W.tp, W.qu, W.qd, fun i i0 i1 => ?_, W.un, W.se⟩
  by_cases q : i = R 10 3
  · rw [if_pos q, if_pos q]; omega
  · rw [if_neg q, if_neg q]; exact W.wi i i0 (by omega)
theorem wf_seen (W : WF R) (h1 : R 0 1 ≠ 0) (h3 : R 14 3 ≤ 4) {x y f : Int} (hx : 0 ≤ x ∧ x < R 0 3) (hy : 0 ≤ y ∧ y < R 0 3) : WF (addP R 14 x y f) := by
  have a := W.a; have hw := W.s
  obtain ⟨e10, e11, e12, e13, eo⟩ := addP_e (R := R) (a := 14) (x := x) (y := y) (f := f)
  simp only [Int.reduceAdd] at e11 e12 e13 eo
  unfold WF
  simp only [e10, e11, e12, eo 0 _ (by decide), eo 2 _ (by decide), eo 3 _ (by decide), eo 4 _ (by decide), eo 5 _ (by decide), eo 6 _ (by decide), eo 7 _ (by decide), eo 8 _ (by decide), eo 9 _ (by decide), eo 10 _ (by decide), eo 11 _ (by decide), eo 12 _ (by decide), eo 20 _ (by decide), eo 22 _ (by decide), ↓reduceIte]
  refine ⟨Or.inr (by omega), W.h, W.p, W.t, W.x, W.q, W.w, by omega, W.n, W.nd, W.ho, W.tp, W.qu, W.qd, W.wi, W.un, fun i i0 i1 => ?_⟩
  by_cases q : i = R 14 3
  · rw [if_pos q, if_pos q]; omega
  · rw [if_neg q, if_neg q]; exact W.se i i0 (by omega)
theorem wf_quar (W : WF R) (h1 : R 0 1 ≠ 0) (h3 : R 6 3 ≤ 5) {x y : Int} (hx : 0 ≤ x ∧ x < R 0 3) (hy : 0 ≤ y ∧ y < R 0 3) (hxy : y ≠ x) (hpt : ¬ o_and (o_shr (ptn R 6 x) y) 1 = 1) : WF (addP R 6 x y 1) := by
  have a := W.a; have hw := W.q; have hp := W.p
  obtain ⟨e10, e11, e12, e13, eo⟩ := addP_e (R := R) (a := 6) (x := x) (y := y) (f := 1)
  simp only [Int.reduceAdd] at e11 e12 e13 eo
  have hset := ptF_set (one := R 7) (other := R 8) (m := R 0 3) hp.2 (p := x) (k := y) hy.1 (by omega) (R 6 3).toNat (fun i i0 i1 => by have := W.qu i i0 (by omega); exact ⟨this.1, this.2.1⟩)
  unfold WF
  simp only [e10, e11, e12, e13, eo 0 _ (by decide), eo 2 _ (by decide), eo 3 _ (by decide), eo 4 _ (by decide), eo 5 _ (by decide), eo 10 _ (by decide), eo 11 _ (by decide), eo 12 _ (by decide), eo 14 _ (by decide), eo 15 _ (by decide), eo 16 _ (by decide), eo 20 _ (by decide), eo 22 _ (by decide), ↓reduceIte]
  refine ⟨Or.inr (by omega), W.h, W.p, W.t, W.x, by omega, W.w, W.s, W.n, W.nd, W.ho, W.tp, fun i i0 i1 => ?_, fun i j i0 i1 i2 => ?_, W.wi, W.un, W.se⟩
  · by_cases q : i = R 6 3
    · rw [if_pos q, if_pos q, if_pos q]; exact ⟨hx, hy, fun z => hxy z.symm, rfl⟩
    · rw [if_neg q, if_neg q, if_neg q]; exact W.qu i i0 (by omega)
  · rw [if_neg (show ¬ i = R 6 3 by omega), if_neg (show ¬ i = R 6 3 by omega)]
    by_cases q : j = R 6 3
    · rw [if_pos q, if_pos q]
      refine ⟨fun z => hpt (hset i i0 (by omega) (Or.inl z)), fun z => ?_⟩
      exact hpt (hset i i0 (by omega) (Or.inr ⟨fun k => hxy (by omega), z.2, z.1⟩))
    · rw [if_neg q, if_neg q]; exact W.qd i j i0 i1 (by omega)
theorem wf_uns (W : WF R) (h1 : R 0 1 ≠ 0) (h3 : R 0 5 ≤ 2) {x y : Int} (hx : 0 ≤ x ∧ x < R 0 3) (hy : 0 ≤ y ∧ y ≤ R 0 1 - 1) : WF (up (up (up R 4 (R 0 5) x) 5 (R 0 5) y) 0 5 (R 0 5 + 1)) := by
  have a := W.a; have hw := W.x
  generalize hR : up (up (up R 4 (R 0 5) x) 5 (R 0 5) y) 0 5 (R 0 5 + 1) = R'
  have e0 : ∀ j, R' 0 j = if j = 5 then R 0 5 + 1 else R 0 j := fun j => by
    rw [← hR]
    by_cases q : j = 5
    · rw [q, up_eq, if_pos rfl]
    · rw [up_nj q, up_na (by decide), up_na (by decide), if_neg q]
  have e4 : ∀ j, R' 4 j = if j = R 0 5 then x else R 4 j := fun j => by
    rw [← hR, up_na (by decide), up_na (by decide)]
    by_cases q : j = R 0 5
    · rw [q, up_eq, if_pos rfl]
    · rw [up_nj q, if_neg q]
  have e5 : ∀ j, R' 5 j = if j = R 0 5 then y else R 5 j := fun j => by
    rw [← hR, up_na (by decide)]
    by_cases q : j = R 0 5
    · rw [q, up_eq, if_pos rfl]
    · rw [up_nj q, up_na (by decide), if_neg q]
  have eo : ∀ a j, a ≠ 0 → a ≠ 4 → a ≠ 5 → R' a j = R a j := fun a j x y z => by rw [← hR, up_na (by omega), up_na (by omega), up_na (by omega)]
  unfold WF
  simp only [e0, e4, e5, eo 2 _ (by decide) (by decide) (by decide), eo 3 _ (by decide) (by decide) (by decide), eo 6 _ (by decide) (by decide) (by decide), eo 7 _ (by decide) (by decide) (by decide), eo 8 _ (by decide) (by decide) (by decide), eo 9 _ (by decide) (by decide) (by decide), eo 10 _ (by decide) (by decide) (by decide), eo 11 _ (by decide) (by decide) (by decide), eo 12 _ (by decide) (by decide) (by decide), eo 14 _ (by decide) (by decide) (by decide), eo 15 _ (by decide) (by decide) (by decide), eo 16 _ (by decide) (by decide) (by decide), eo 20 _ (by decide) (by decide) (by decide), eo 22 _ (by decide) (by decide) (by decide), Int.reduceEq, ↓reduceIte]
  refine ⟨Or.inr (by omega), W.h, W.p, W.t, by omega, W.q, W.w, W.s, W.n, W.nd, W.ho, W.tp, W.qu, W.qd, W.wi, fun i i0 i1 => ?_, W.se⟩
  by_cases q : i = R 0 5
  · rw [if_pos q, if_pos q]; omega
  · rw [if_neg q, if_neg q]; exact W.un i i0 (by omega)
/-- the slots of a turn, so far -/
def TF (n k ch us : Int) : Prop := (0 ≤ ch ∧ ch < 262144) ∧ (∀ j, k ≤ j → j < 6 → dg ch j = 0) ∧ (∀ j, 0 ≤ j → j < k → dg ch j < n ∧ bt us (dg ch j) = 1) ∧ (∀ i j, 0 ≤ i → i < k → 0 ≤ j → j < k → dg ch i = dg ch j → i = j) ∧ (0 ≤ us ∧ us < 64)
theorem TF.z (n : Int) : TF n 0 0 0 := ⟨by decide, fun j a b => dg_zero a (by omega), fun j a b => by omega, fun i j a b => by omega, by decide⟩
theorem TF.s {n k ch us v : Int} (n6 : n ≤ 6) (k0 : 0 ≤ k) (k1 : k < n) (h : TF n k ch us) (hv : 0 ≤ v ∧ v ≤ n - 1) (hb : ¬ o_and (o_shr us v) 1 = 1) : TF n (k + 1) (wth ch k v) (o_or us (o_shl 1 v)) := by
  obtain ⟨h1, h2, h3, h4, h5⟩ := h
  obtain ⟨w1, w2⟩ := wth_all h1.1 h1.2 k0 (by omega) hv.1 (by omega)
  obtain ⟨o1, o2⟩ := or6 h5.1 h5.2 hv.1 (by omega)
  refine ⟨w1, fun j a b => ?_, fun j a b => ?_, fun i j a b a' b' q => ?_, o1⟩
  · rw [w2 j (by omega) b, if_neg (by omega)]; exact h2 j (by omega) b
  · rw [w2 j a (by omega)]
    by_cases q : j = k
    · rw [if_pos q]
      exact ⟨by omega, by rw [o2 v hv.1 (by omega), if_pos rfl]⟩
    · rw [if_neg q]
      have := h3 j a (by omega)
      have dr := dg_rg ch j
      refine ⟨this.1, ?_⟩
      rw [o2 _ dr.1 (by omega)]
      split
      · rfl
      · exact this.2
  · rw [w2 i a (by omega), w2 j a' (by omega)] at q
    by_cases q1 : i = k
    · by_cases q2 : j = k
      · omega
      · rw [if_pos q1, if_neg q2] at q
        have := (h3 j a' (by omega)).2
        rw [← q] at this
        exact absurd this hb
    · by_cases q2 : j = k
      · rw [if_neg q1, if_pos q2] at q
        have := (h3 i a (by omega)).2
        rw [q] at this
        exact absurd this hb
      · rw [if_neg q1, if_neg q2] at q
        exact h4 i j a (by omega) a' (by omega) q
theorem TF.pm {n ch us : Int} (n2 : 2 ≤ n) (n6 : n ≤ 6) (h : TF n n ch us) : PM ch n := by
  obtain ⟨h1, h2, h3, h4, h5⟩ := h
  refine ⟨h1.1, ?_, fun i a b => (h3 i a b).1, fun i j a b a' b' q => h4 i j a b a' b' q⟩
  obtain ⟨x, rfl⟩ := Int.eq_ofNat_of_zero_le h1.1
  have dv : ∀ j : Nat, j < 6 → n ≤ (j : Int) → x / 8 ^ j % 8 = 0 := fun j a b => by
    have := h2 j b (by omega)
    rw [dg_div (by omega) (by omega)] at this
    omega
  have h25 := dv 5 (by omega); have h24 := dv 4 (by omega); have h23 := dv 3 (by omega); have h22 := dv 2 (by omega)
  have hx : x < 262144 := by omega
  simp only [Nat.reducePow] at h25 h24 h23 h22
  have : n = 2 ∨ n = 3 ∨ n = 4 ∨ n = 5 ∨ n = 6 := by omega
  rcases this with rfl | rfl | rfl | rfl | rfl
  · have := h25 (by omega); have := h24 (by omega); have := h23 (by omega); have := h22 (by omega)
    show (x : Int) < 64
    omega
  · have := h25 (by omega); have := h24 (by omega); have := h23 (by omega)
    show (x : Int) < 512
    omega
  · have := h25 (by omega); have := h24 (by omega)
    show (x : Int) < 4096
    omega
  · have := h25 (by omega)
    show (x : Int) < 32768
    omega
  · show (x : Int) < 262144
    omega
theorem sls_ok {n : Int} (n2 : 2 ≤ n) (n6 : n ≤ 6) : ∀ (j : Nat) (k p ch us : Int), 0 ≤ k → k + j = n → p ≤ e → TF n k ch us → ∀ p' R', slsF tx e n R j p k ch us = Sum.inr (p', R') → (p ≤ p' ∧ p' ≤ e) ∧ ∃ ch', PM ch' n ∧ R' = up (up R 3 (R 0 4) ch') 0 4 (R 0 4 + 1) := by
  intro j
  induction j with
  | zero =>
    intro k p ch us k0 hk hp h p' R' hs
    simp only [slsF, Sum.inr.injEq, Prod.mk.injEq] at hs
    rw [show k = n by omega] at h
    exact ⟨by omega, ch, h.pm n2 n6, hs.2.symm⟩
  | succ j ih =>
    intro k p ch us k0 hk hp h p' R' hs
    simp only [slsF] at hs
    by_cases h1 : btw tx e p 0 (n - 1) = 0
    · have v1 := btw_0 h1
      rw [if_pos h1] at hs
      by_cases h2 : o_and (o_shr us (va tx e p)) 1 = 1
      · rw [if_pos h2] at hs; cases hs
      · rw [if_neg h2] at hs
        have hn := nx_rg (tx := tx) hp
        have := ih _ _ _ _ (by omega) (by omega) hn.2 (h.s n6 k0 (by omega) v1.2 h2) p' R' hs
        exact ⟨by omega, this.2⟩
    · rw [if_neg h1] at hs; cases hs
end
