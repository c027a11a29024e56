/-! what the reference has been told is what the class has been told -/
section
variable {R c : MC} {T : Int}
theorem ptn_o {R R' : MC} (h3 : R' 6 3 = R 6 3) (h7 : ∀ j, R' 7 j = R 7 j) (h8 : ∀ j, R' 8 j = R 8 j) (x : Int) : ptn R' 6 x = ptn R 6 x := by
  unfold ptn
  rw [h3]
  apply fo_congr
  intro k s _ _
  simp only [Int.reduceAdd]
  rw [h7, h8]
theorem rt_tube (h : RT R c T) (W : WF R) (h1 : R 0 1 = 0) {x y v : Int} : RT (up (up (up R 0 0 x) 0 1 y) 0 2 v) (up (up (up c T 0 x) T 1 y) T 2 v) T := by
  have wa := W.a
  have hn := W.n
  have z0 : R 0 3 = 0 ∧ R 0 4 = 0 ∧ R 0 5 = 0 ∧ R 6 3 = 0 ∧ R 10 3 = 0 ∧ R 14 3 = 0 ∧ R 20 0 = 0 := by omega
  generalize hR : up (up (up R 0 0 x) 0 1 y) 0 2 v = R'
  generalize hc : up (up (up c T 0 x) T 1 y) T 2 v = c'
  have r0 : R' 0 0 = x := by rw [← hR, up_nj (by decide), up_nj (by decide), up_eq]
  have r1 : R' 0 1 = y := by rw [← hR, up_nj (by decide), up_eq]
  have r2 : R' 0 2 = v := by rw [← hR, up_eq]
  have ro : ∀ a j, ¬ (a = 0 ∧ j < 3) → R' a j = R a j := fun a j q => by rw [← hR, up_o (by omega), up_o (by omega), up_o (by omega)]
  have c0 : c' T 0 = x := by rw [← hc, up_nj (by decide), up_nj (by decide), up_eq]
  have c1 : c' T 1 = y := by rw [← hc, up_nj (by decide), up_eq]
  have c2 : c' T 2 = v := by rw [← hc, up_eq]
  have co : ∀ a j, ¬ (a = T ∧ j < 3) → c' a j = c a j := fun a j q => by rw [← hc, up_o (by omega), up_o (by omega), up_o (by omega)]
  have e3 := ro 0 3 (by omega); have e4 := ro 0 4 (by omega); have e5 := ro 0 5 (by omega); have e6 := ro 6 3 (by omega); have e10 := ro 10 3 (by omega); have e14 := ro 14 3 (by omega); have e20 := ro 20 0 (by omega)
  refine ⟨by rw [c0, r0], by rw [c1, r1], by rw [c2, r2], by rw [co _ _ (by omega), e3]; exact h.f3, by rw [co _ _ (by omega), e4]; exact h.f4, by rw [co _ _ (by omega), e6]; exact h.f5, by rw [co _ _ (by omega), e10]; exact h.f6, by rw [co _ _ (by omega), e5]; exact h.f7, by rw [co _ _ (by omega), e14]; exact h.f8, by rw [co _ _ (by omega), e20]; exact h.f9, fun i a b => by omega, fun i a b => by omega, fun i k a b => by omega, fun i a b => ?_, fun i a b => by omega, ?_, fun i a b => by omega, fun i a b => by omega, ?_, fun i a b => by omega⟩
  · rw [co _ _ (by omega), ptn_o e6 (fun j => ro _ _ (by omega)) (fun j => ro _ _ (by omega))]; exact h.fo i a b
  · rw [co _ _ (by omega), e10]; exact h.sh
  · rw [co _ _ (by omega), e14]; exact h.be
theorem nmU_20 {v i : Int} : nmU R v i 20 0 = R 20 0 + 1 := by unfold nmU; rw [up_eq]
theorem nmU_21 {v i j : Int} : nmU R v i 21 j = if j = R 20 0 then v else R 21 j := by
  unfold nmU
  rw [up_na (by decide), up_na (by decide)]
  by_cases q : j = R 20 0
  · rw [q, up_eq, if_pos rfl]
  · rw [up_nj q, if_neg q]
theorem nmU_22 {v i j : Int} : nmU R v i 22 j = if j = R 20 0 then i else R 22 j := by
  unfold nmU
  rw [up_na (by decide)]
  by_cases q : j = R 20 0
  · rw [q, up_eq, if_pos rfl]
  · rw [up_nj q, up_na (by decide), if_neg q]
/-- the names of the reference, with a new one -/
def nmC (c : MC) (T n y s k : Int) : MC := up (up (up (up c (T + 11) n y) (T + 12) n s) (T + 13) n k) T 9 (n + 1)
theorem nmC_e {n y s k : Int} : (∀ j, nmC c T n y s k (T + 11) j = if j = n then y else c (T + 11) j) ∧ (∀ j, nmC c T n y s k (T + 12) j = if j = n then s else c (T + 12) j) ∧ (∀ j, nmC c T n y s k (T + 13) j = if j = n then k else c (T + 13) j) ∧ (∀ j, nmC c T n y s k T j = if j = 9 then n + 1 else c T j) ∧ (∀ a j, a ≠ T → ¬ (T + 11 ≤ a ∧ a ≤ T + 13) → nmC c T n y s k a j = c a j) := by
  unfold nmC
  refine ⟨fun j => ?_, fun j => ?_, fun j => ?_, fun j => ?_, fun a j h h' => ?_⟩
  · rw [up_na (by omega), up_na (by omega), up_na (by omega)]
    by_cases q : j = n
    · rw [q, up_eq, if_pos rfl]
    · rw [up_nj q, if_neg q]
  · rw [up_na (by omega), up_na (by omega)]
    by_cases q : j = n
    · rw [q, up_eq, if_pos rfl]
    · rw [up_nj q, up_na (by omega), if_neg q]
  · rw [up_na (by omega)]
    by_cases q : j = n
    · rw [q, up_eq, if_pos rfl]
    · rw [up_nj q, up_na (by omega), up_na (by omega), if_neg q]
  · by_cases q : j = 9
    · rw [q, up_eq, if_pos rfl]
    · rw [up_nj q, up_na (by omega), up_na (by omega), up_na (by omega), if_neg q]
  · rw [up_na h, up_na (by omega), up_na (by omega), up_na (by omega)]
theorem rt_pers (h : RT R c T) (W : WF R) {v y q g : Int} (hv : Nm v y) : RT (up (up (up (nmU R v (R 0 3)) 1 (R 0 3) q) 2 (R 0 3) g) 0 3 (R 0 3 + 1)) (up (up (up (nmC c T (R 20 0) y 0 (R 0 3)) (T + 1) (R 0 3) q) (T + 2) (R 0 3) g) T 3 (R 0 3 + 1)) T := by
  have hp := W.p
  obtain ⟨n1, n2, n3, n4, n5⟩ := nmC_e (c := c) (T := T) (n := R 20 0) (y := y) (s := 0) (k := R 0 3)
  generalize hR : up (up (up (nmU R v (R 0 3)) 1 (R 0 3) q) 2 (R 0 3) g) 0 3 (R 0 3 + 1) = R'
  generalize hc : up (up (up (nmC c T (R 20 0) y 0 (R 0 3)) (T + 1) (R 0 3) q) (T + 2) (R 0 3) g) T 3 (R 0 3 + 1) = c'
  have r0 : ∀ j, R' 0 j = if j = 3 then R 0 3 + 1 else R 0 j := fun j => by
    rw [← hR]
    by_cases z : j = 3
    · rw [z, up_eq, if_pos rfl]
    · rw [up_nj z, up_na (by decide), up_na (by decide), nmU_o (by decide), if_neg z]
  have r1 : ∀ j, R' 1 j = if j = R 0 3 then q else R 1 j := fun j => by
    rw [← hR, up_na (by decide), up_na (by decide)]
    by_cases z : j = R 0 3
    · rw [z, up_eq, if_pos rfl]
    · rw [up_nj z, nmU_o (by decide), if_neg z]
  have r2 : ∀ j, R' 2 j = if j = R 0 3 then g else R 2 j := fun j => by
    rw [← hR, up_na (by decide)]
    by_cases z : j = R 0 3
    · rw [z, up_eq, if_pos rfl]
    · rw [up_nj z, up_na (by decide), nmU_o (by decide), if_neg z]
  have ro : ∀ a j, 3 ≤ a → a ≤ 17 → R' a j = R a j := fun a j x z => by rw [← hR, up_na (by omega), up_na (by omega), up_na (by omega), nmU_o z]
  have r20 : R' 20 0 = R 20 0 + 1 := by rw [← hR, up_na (by decide), up_na (by decide), up_na (by decide), nmU_20]
  have r21 : ∀ j, R' 21 j = if j = R 20 0 then v else R 21 j := fun j => by rw [← hR, up_na (by decide), up_na (by decide), up_na (by decide), nmU_21]
  have r22 : ∀ j, R' 22 j = if j = R 20 0 then R 0 3 else R 22 j := fun j => by rw [← hR, up_na (by decide), up_na (by decide), up_na (by decide), nmU_22]
  have cT : ∀ j, c' T j = if j = 3 then R 0 3 + 1 else if j = 9 then R 20 0 + 1 else c T j := fun j => by
    rw [← hc]
    by_cases z : j = 3
    · rw [z, up_eq, if_pos rfl]
    · rw [up_nj z, up_na (by omega), up_na (by omega), n4, if_neg z]
  have c1 : ∀ j, c' (T + 1) j = if j = R 0 3 then q else c (T + 1) j := fun j => by
    rw [← hc, up_na (by omega), up_na (by omega)]
    by_cases z : j = R 0 3
    · rw [z, up_eq, if_pos rfl]
    · rw [up_nj z, n5 _ _ (by omega) (by omega), if_neg z]
  have c2 : ∀ j, c' (T + 2) j = if j = R 0 3 then g else c (T + 2) j := fun j => by
    rw [← hc, up_na (by omega)]
    by_cases z : j = R 0 3
    · rw [z, up_eq, if_pos rfl]
    · rw [up_nj z, up_na (by omega), n5 _ _ (by omega) (by omega), if_neg z]
  have co : ∀ k j, 3 ≤ k → k ≤ 10 → c' (T + k) j = c (T + k) j := fun k j x z => by rw [← hc, up_na (by omega), up_na (by omega), up_na (by omega), n5 _ _ (by omega) (by omega)]
  have c11 : ∀ j, c' (T + 11) j = if j = R 20 0 then y else c (T + 11) j := fun j => by rw [← hc, up_na (by omega), up_na (by omega), up_na (by omega), n1]
  have c12 : ∀ j, c' (T + 12) j = if j = R 20 0 then 0 else c (T + 12) j := fun j => by rw [← hc, up_na (by omega), up_na (by omega), up_na (by omega), n2]
  have c13 : ∀ j, c' (T + 13) j = if j = R 20 0 then R 0 3 else c (T + 13) j := fun j => by rw [← hc, up_na (by omega), up_na (by omega), up_na (by omega), n3]
  clear hR hc n1 n2 n3 n4 n5
  unfold RT
  simp only [cT, c1, c2, c11, c12, c13, co 3 _ (by decide) (by decide), co 4 _ (by decide) (by decide), co 5 _ (by decide) (by decide), co 6 _ (by decide) (by decide), co 7 _ (by decide) (by decide), co 8 _ (by decide) (by decide), co 9 _ (by decide) (by decide), co 10 _ (by decide) (by decide), r0, r1, r2, r20, r21, r22, ro 3 _ (by decide) (by decide), ro 4 _ (by decide) (by decide), ro 5 _ (by decide) (by decide), ro 6 _ (by decide) (by decide), ro 7 _ (by decide) (by decide), ro 8 _ (by decide) (by decide), ro 10 _ (by decide) (by decide), ro 11 _ (by decide) (by decide), ro 12 _ (by decide) (by decide), ro 13 _ (by decide) (by decide), ro 14 _ (by decide) (by decide), ro 15 _ (by decide) (by decide), ro 16 _ (by decide) (by decide), ro 17 _ (by decide) (by decide), ptn_o (ro 6 3 (by decide) (by decide)) (fun j => ro 7 j (by decide) (by decide)) (fun j => ro 8 j (by decide) (by decide)), Int.reduceEq, ↓reduceIte]
  refine ⟨h.f0, h.f1, h.f2, trivial, h.f4, h.f5, h.f6, h.f7, h.f8, trivial, fun i a b => ?_, fun i a b => ?_, h.tk, h.fo, h.wi, h.sh, h.un, h.se, h.be, fun i a b => ?_⟩
  · by_cases z : i = R 0 3
    · rw [if_pos z, if_pos z]
    · rw [if_neg z, if_neg z]; exact h.co i a (by omega)
  · by_cases z : i = R 0 3
    · rw [if_pos z, if_pos z]
    · rw [if_neg z, if_neg z]; exact h.ho i a (by omega)
  · by_cases z : i = R 20 0
    · simp only [if_pos z]
      exact ⟨hv, by rw [if_neg (by omega)], fun _ => trivial⟩
    · simp only [if_neg z]
      exact h.nm i a (by omega)
theorem rt_turn (h : RT R c T) (W : WF R) {v y ch : Int} (hv : Nm v y) (hch : ∀ k, 0 ≤ k → k < R 0 1 → c (T + 4) (6 * R 0 4 + k) = dg ch k) (hs6 : R 0 1 ≤ 6) : RT (up (up (nmU R v (-1)) 3 (R 0 4) ch) 0 4 (R 0 4 + 1)) (up (nmC c T (R 20 0) y 1 (R 0 4)) T 4 (R 0 4 + 1)) T := by
  have hp := W.t
  obtain ⟨n1, n2, n3, n4, n5⟩ := nmC_e (c := c) (T := T) (n := R 20 0) (y := y) (s := 1) (k := R 0 4)
  generalize hR : up (up (nmU R v (-1)) 3 (R 0 4) ch) 0 4 (R 0 4 + 1) = R'
  generalize hc : up (nmC c T (R 20 0) y 1 (R 0 4)) T 4 (R 0 4 + 1) = c'
  have r0 : ∀ j, R' 0 j = if j = 4 then R 0 4 + 1 else R 0 j := fun j => by
    rw [← hR]
    by_cases z : j = 4
    · rw [z, up_eq, if_pos rfl]
    · rw [up_nj z, up_na (by decide), nmU_o (by decide), if_neg z]
  have r3 : ∀ j, R' 3 j = if j = R 0 4 then ch else R 3 j := fun j => by
    rw [← hR, up_na (by decide)]
    by_cases z : j = R 0 4
    · rw [z, up_eq, if_pos rfl]
    · rw [up_nj z, nmU_o (by decide), if_neg z]
  have ro : ∀ a j, 1 ≤ a → a ≠ 3 → a ≤ 17 → R' a j = R a j := fun a j x w z => by rw [← hR, up_na (by omega), up_na (by omega), nmU_o z]
  have r20 : R' 20 0 = R 20 0 + 1 := by rw [← hR, up_na (by decide), up_na (by decide), nmU_20]
  have r21 : ∀ j, R' 21 j = if j = R 20 0 then v else R 21 j := fun j => by rw [← hR, up_na (by decide), up_na (by decide), nmU_21]
  have r22 : ∀ j, R' 22 j = if j = R 20 0 then -1 else R 22 j := fun j => by rw [← hR, up_na (by decide), up_na (by decide), nmU_22]
  have cT : ∀ j, c' T j = if j = 4 then R 0 4 + 1 else if j = 9 then R 20 0 + 1 else c T j := fun j => by
    rw [← hc]
    by_cases z : j = 4
    · rw [z, up_eq, if_pos rfl]
    · rw [up_nj z, n4, if_neg z]
  have co : ∀ k j, 1 ≤ k → k ≤ 10 → c' (T + k) j = c (T + k) j := fun k j x z => by rw [← hc, up_na (by omega), n5 _ _ (by omega) (by omega)]
  have c11 : ∀ j, c' (T + 11) j = if j = R 20 0 then y else c (T + 11) j := fun j => by rw [← hc, up_na (by omega), n1]
  have c12 : ∀ j, c' (T + 12) j = if j = R 20 0 then 1 else c (T + 12) j := fun j => by rw [← hc, up_na (by omega), n2]
  have c13 : ∀ j, c' (T + 13) j = if j = R 20 0 then R 0 4 else c (T + 13) j := fun j => by rw [← hc, up_na (by omega), n3]
  clear hR hc n1 n2 n3 n4 n5
  unfold RT
  simp only [cT, c11, c12, c13, co 1 _ (by decide) (by decide), co 2 _ (by decide) (by decide), co 3 _ (by decide) (by decide), co 4 _ (by decide) (by decide), co 5 _ (by decide) (by decide), co 6 _ (by decide) (by decide), co 7 _ (by decide) (by decide), co 8 _ (by decide) (by decide), co 9 _ (by decide) (by decide), co 10 _ (by decide) (by decide), r0, r3, r20, r21, r22, ro 1 _ (by decide) (by decide) (by decide), ro 2 _ (by decide) (by decide) (by decide), ro 4 _ (by decide) (by decide) (by decide), ro 5 _ (by decide) (by decide) (by decide), ro 6 _ (by decide) (by decide) (by decide), ro 10 _ (by decide) (by decide) (by decide), ro 11 _ (by decide) (by decide) (by decide), ro 12 _ (by decide) (by decide) (by decide), ro 13 _ (by decide) (by decide) (by decide), ro 14 _ (by decide) (by decide) (by decide), ro 15 _ (by decide) (by decide) (by decide), ro 16 _ (by decide) (by decide) (by decide), ro 17 _ (by decide) (by decide) (by decide), ptn_o (ro 6 3 (by decide) (by decide) (by decide)) (fun j => ro 7 j (by decide) (by decide) (by decide)) (fun j => ro 8 j (by decide) (by decide) (by decide)), Int.reduceEq, ↓reduceIte]
  refine ⟨h.f0, h.f1, h.f2, h.f3, trivial, h.f5, h.f6, h.f7, h.f8, trivial, h.co, h.ho, fun i k a b a' b' => ?_, h.fo, h.wi, h.sh, h.un, h.se, h.be, fun i a b => ?_⟩
  · by_cases z : i = R 0 4
    · rw [if_pos z, z]; exact hch k a' b'
    · rw [if_neg z]; exact h.tk i k a (by omega) a' b'
  · by_cases z : i = R 20 0
    · simp only [if_pos z]
      exact ⟨hv, by rw [if_pos trivial], fun q => absurd rfl q⟩
    · simp only [if_neg z]
      exact h.nm i a (by omega)
theorem ptn_add (W : WF R) {x y : Int} (i : Int) : ptn (addP R 6 x y 1) 6 i = if x = i then o_or (ptn R 6 i) (o_shl 1 y) else if y = i then o_or (ptn R 6 i) (o_shl 1 x) else ptn R 6 i := by
  have hq := W.q
  obtain ⟨e6, e7, e8, e9, eo⟩ := addP_e (R := R) (a := 6) (x := x) (y := y) (f := 1)
  have hk : ∀ k : Int, k < R 6 3 → addP R 6 x y 1 (6 + 1) k = R (6 + 1) k ∧ addP R 6 x y 1 (6 + 2) k = R (6 + 2) k := fun k q => ⟨by rw [e7, if_neg (by omega)], by rw [e8, if_neg (by omega)]⟩
  unfold ptn
  rw [e6, if_pos rfl, show (R 6 3 + 1).toNat = (R 6 3).toNat + 1 by omega, fo_succ, show (0 : Int) + ((R 6 3).toNat : Int) = R 6 3 by omega, e7, e8, if_pos rfl, if_pos rfl]
  have e : fo (fun k s => if addP R 6 x y 1 (6 + 1) k = i then o_or s (o_shl 1 (addP R 6 x y 1 (6 + 2) k)) else if addP R 6 x y 1 (6 + 2) k = i then o_or s (o_shl 1 (addP R 6 x y 1 (6 + 1) k)) else s) (R 6 3).toNat 0 0 = fo (fun k s => if R (6 + 1) k = i then o_or s (o_shl 1 (R (6 + 2) k)) else if R (6 + 2) k = i then o_or s (o_shl 1 (R (6 + 1) k)) else s) (R 6 3).toNat 0 0 := by
    apply fo_congr
    intro k s a b
    have := hk k (by omega)
    rw [this.1, this.2]
  rw [e]
theorem rt_quar (h : RT R c T) (W : WF R) {x y : Int} (hx : 0 ≤ x ∧ x < 6) (hy : 0 ≤ y ∧ y < 6) (hxy : y ≠ x) : RT (addP R 6 x y 1) (up (up (up c (T + 3) x (o_or (c (T + 3) x) (o_shl 1 y))) (T + 3) y (o_or (c (T + 3) y) (o_shl 1 x))) T 5 (R 6 3 + 1)) T := by
  have hq := W.q
  obtain ⟨e6, e7, e8, e9, eo⟩ := addP_e (R := R) (a := 6) (x := x) (y := y) (f := 1)
  simp only [Int.reduceAdd] at e7 e8 e9 eo
  generalize hc : up (up (up c (T + 3) x (o_or (c (T + 3) x) (o_shl 1 y))) (T + 3) y (o_or (c (T + 3) y) (o_shl 1 x))) T 5 (R 6 3 + 1) = c'
  have cT : ∀ j, c' T j = if j = 5 then R 6 3 + 1 else c T j := fun j => by
    rw [← hc]
    by_cases z : j = 5
    · rw [z, up_eq, if_pos rfl]
    · rw [up_nj z, up_na (by omega), up_na (by omega), if_neg z]
  have c3 : ∀ j, c' (T + 3) j = if j = y then o_or (c (T + 3) y) (o_shl 1 x) else if j = x then o_or (c (T + 3) x) (o_shl 1 y) else c (T + 3) j := fun j => by
    rw [← hc, up_na (by omega)]
    by_cases z : j = y
    · rw [z, up_eq, if_pos rfl]
    · rw [up_nj z, if_neg z]
      by_cases z' : j = x
      · rw [z', up_eq, if_pos rfl]
      · rw [up_nj z', if_neg z']
  have co : ∀ k j, 1 ≤ k → k ≠ 3 → c' (T + k) j = c (T + k) j := fun k j x' z => by rw [← hc, up_na (by omega), up_na (by omega), up_na (by omega)]
  clear hc
  unfold RT
  simp only [cT, c3, co 1 _ (by decide) (by decide), co 2 _ (by decide) (by decide), co 4 _ (by decide) (by decide), co 5 _ (by decide) (by decide), co 6 _ (by decide) (by decide), co 7 _ (by decide) (by decide), co 8 _ (by decide) (by decide), co 9 _ (by decide) (by decide), co 10 _ (by decide) (by decide), co 11 _ (by decide) (by decide), co 12 _ (by decide) (by decide), co 13 _ (by decide) (by decide), e6, eo 0 _ (by decide), eo 1 _ (by decide), eo 2 _ (by decide), eo 3 _ (by decide), eo 4 _ (by decide), eo 5 _ (by decide), eo 10 _ (by decide), eo 11 _ (by decide), eo 12 _ (by decide), eo 13 _ (by decide), eo 14 _ (by decide), eo 15 _ (by decide), eo 16 _ (by decide), eo 17 _ (by decide), eo 20 _ (by decide), eo 21 _ (by decide), eo 22 _ (by decide), Int.reduceEq, ↓reduceIte]
  refine ⟨h.f0, h.f1, h.f2, h.f3, h.f4, trivial, h.f6, h.f7, h.f8, h.f9, h.co, h.ho, h.tk, fun i a b => ?_, h.wi, h.sh, h.un, h.se, h.be, h.nm⟩
  rw [ptn_add W]
  by_cases z : i = y
  · rw [if_pos z, if_neg (by omega), if_pos z.symm, h.fo y hy.1 hy.2, z]
  · rw [if_neg z]
    by_cases z' : i = x
    · rw [if_pos z', if_pos z'.symm, h.fo x hx.1 hx.2, z']
    · rw [if_neg z', if_neg (fun q => z' q.symm), if_neg (fun q => z q.symm)]; exact h.fo i a b
theorem rt_wish (h : RT R c T) (W : WF R) {x y f s : Int} (hw : R 10 3 ≤ 3) (hs : (s = c T 16 ∧ f = 1) ∨ (s = o_or (c T 16) (o_shl 1 (R 10 3)) ∧ f = 0)) : RT (addP R 10 x y f) (up (up (up (up c (T + 5) (R 10 3) x) (T + 6) (R 10 3) y) T 16 s) T 6 (R 10 3 + 1)) T := by
  have hq := W.w
  obtain ⟨e6, e7, e8, e9, eo⟩ := addP_e (R := R) (a := 10) (x := x) (y := y) (f := f)
  simp only [Int.reduceAdd] at e7 e8 e9 eo
  obtain ⟨s1, s2⟩ := h.sh
  have hb : (0 ≤ s ∧ s < 64) ∧ ∀ k, 0 ≤ k → k < 8 → bt s k = if k = R 10 3 then 1 - f else bt (c T 16) k := by
    rcases hs with ⟨hs, hf⟩ | ⟨hs, hf⟩
    · rw [hs, hf]
      refine ⟨s1, fun k a b => ?_⟩
      split
      · exact s2 k (by omega) b
      · rfl
    · rw [hs, hf]
      obtain ⟨o1, o2⟩ := or6 s1.1 s1.2 hq.1 (show R 10 3 < 6 by omega)
      exact ⟨o1, fun k a b => by rw [o2 k a b]; split <;> rfl⟩
  have hf01 : f = 0 ∨ f = 1 := by omega
  clear hs
  generalize hc : up (up (up (up c (T + 5) (R 10 3) x) (T + 6) (R 10 3) y) T 16 s) T 6 (R 10 3 + 1) = c'
  have cT : ∀ j, c' T j = if j = 6 then R 10 3 + 1 else if j = 16 then s else c T j := fun j => by
    rw [← hc]
    by_cases z : j = 6
    · rw [z, up_eq, if_pos rfl]
    · rw [up_nj z, if_neg z]
      by_cases z' : j = 16
      · rw [z', up_eq, if_pos rfl]
      · rw [up_nj z', up_na (by omega), up_na (by omega), if_neg z']
  have c5 : ∀ j, c' (T + 5) j = if j = R 10 3 then x else c (T + 5) j := fun j => by
    rw [← hc, up_na (by omega), up_na (by omega), up_na (by omega)]
    by_cases z : j = R 10 3
    · rw [z, up_eq, if_pos rfl]
    · rw [up_nj z, if_neg z]
  have c6 : ∀ j, c' (T + 6) j = if j = R 10 3 then y else c (T + 6) j := fun j => by
    rw [← hc, up_na (by omega), up_na (by omega)]
    by_cases z : j = R 10 3
    · rw [z, up_eq, if_pos rfl]
    · rw [up_nj z, up_na (by omega), if_neg z]
  have co : ∀ k j, 1 ≤ k → k ≠ 5 → k ≠ 6 → c' (T + k) j = c (T + k) j := fun k j x' z z' => by rw [← hc, up_na (by omega), up_na (by omega), up_na (by omega), up_na (by omega)]
  clear hc
  unfold RT
  simp only [cT, c5, c6, co 1 _ (by decide) (by decide) (by decide), co 2 _ (by decide) (by decide) (by decide), co 3 _ (by decide) (by decide) (by decide), co 4 _ (by decide) (by decide) (by decide), co 7 _ (by decide) (by decide) (by decide), co 8 _ (by decide) (by decide) (by decide), co 9 _ (by decide) (by decide) (by decide), co 10 _ (by decide) (by decide) (by decide), co 11 _ (by decide) (by decide) (by decide), co 12 _ (by decide) (by decide) (by decide), co 13 _ (by decide) (by decide) (by decide), e6, e7, e8, e9, eo 0 _ (by decide), eo 1 _ (by decide), eo 2 _ (by decide), eo 3 _ (by decide), eo 4 _ (by decide), eo 5 _ (by decide), eo 6 _ (by decide), eo 14 _ (by decide), eo 15 _ (by decide), eo 16 _ (by decide), eo 17 _ (by decide), eo 20 _ (by decide), eo 21 _ (by decide), eo 22 _ (by decide), ptn_o (eo 6 3 (by decide)) (fun j => eo 7 j (by decide)) (fun j => eo 8 j (by decide)), Int.reduceEq, ↓reduceIte]
  refine ⟨h.f0, h.f1, h.f2, h.f3, h.f4, h.f5, trivial, h.f7, h.f8, h.f9, h.co, h.ho, h.tk, h.fo, fun k a b => ?_, ⟨hb.1, fun k a b => ?_⟩, h.un, h.se, h.be, h.nm⟩
  · unfold mbt
    rw [hb.2 k a (by omega)]
    by_cases z : k = R 10 3
    · rw [if_pos z, if_pos z, if_pos z, if_pos z, if_pos z, if_pos z]
      refine ⟨rfl, rfl, ?_⟩
      rcases hf01 with q | q <;> rw [q] <;> rfl
    · rw [if_neg z, if_neg z, if_neg z, if_neg z, if_neg z, if_neg z]
      have := h.wi k a (by omega)
      unfold mbt at this
      exact this
  · rw [hb.2 k (by omega) b, if_neg (by omega)]
    exact s2 k (by omega) b
theorem rt_seen (h : RT R c T) (W : WF R) {x y f s : Int} (hw : R 14 3 ≤ 4) (hs : (s = c T 17 ∧ f = 0) ∨ (s = o_or (c T 17) (o_shl 1 (R 14 3)) ∧ f = 1)) : RT (addP R 14 x y f) (up (up (up (up c (T + 9) (R 14 3) x) (T + 10) (R 14 3) y) T 17 s) T 8 (R 14 3 + 1)) T := by
  have hq := W.s
  obtain ⟨e6, e7, e8, e9, eo⟩ := addP_e (R := R) (a := 14) (x := x) (y := y) (f := f)
  simp only [Int.reduceAdd] at e7 e8 e9 eo
  obtain ⟨s1, s2⟩ := h.be
  have hb : (0 ≤ s ∧ s < 64) ∧ ∀ k, 0 ≤ k → k < 8 → bt s k = if k = R 14 3 then f else bt (c T 17) k := by
    rcases hs with ⟨hs, hf⟩ | ⟨hs, hf⟩
    · rw [hs, hf]
      refine ⟨s1, fun k a b => ?_⟩
      split
      · exact s2 k (by omega) b
      · rfl
    · rw [hs, hf]
      obtain ⟨o1, o2⟩ := or6 s1.1 s1.2 hq.1 (show R 14 3 < 6 by omega)
      exact ⟨o1, fun k a b => o2 k a b⟩
  have hf01 : f = 0 ∨ f = 1 := by omega
  clear hs
  generalize hc : up (up (up (up c (T + 9) (R 14 3) x) (T + 10) (R 14 3) y) T 17 s) T 8 (R 14 3 + 1) = c'
  have cT : ∀ j, c' T j = if j = 8 then R 14 3 + 1 else if j = 17 then s else c T j := fun j => by
    rw [← hc]
    by_cases z : j = 8
    · rw [z, up_eq, if_pos rfl]
    · rw [up_nj z, if_neg z]
      by_cases z' : j = 17
      · rw [z', up_eq, if_pos rfl]
      · rw [up_nj z', up_na (by omega), up_na (by omega), if_neg z']
  have c5 : ∀ j, c' (T + 9) j = if j = R 14 3 then x else c (T + 9) j := fun j => by
    rw [← hc, up_na (by omega), up_na (by omega), up_na (by omega)]
    by_cases z : j = R 14 3
    · rw [z, up_eq, if_pos rfl]
    · rw [up_nj z, if_neg z]
  have c6 : ∀ j, c' (T + 10) j = if j = R 14 3 then y else c (T + 10) j := fun j => by
    rw [← hc, up_na (by omega), up_na (by omega)]
    by_cases z : j = R 14 3
    · rw [z, up_eq, if_pos rfl]
    · rw [up_nj z, up_na (by omega), if_neg z]
  have co : ∀ k j, 1 ≤ k → k ≠ 9 → k ≠ 10 → c' (T + k) j = c (T + k) j := fun k j x' z z' => by rw [← hc, up_na (by omega), up_na (by omega), up_na (by omega), up_na (by omega)]
  clear hc
  unfold RT
  simp only [cT, c5, c6, co 1 _ (by decide) (by decide) (by decide), co 2 _ (by decide) (by decide) (by decide), co 3 _ (by decide) (by decide) (by decide), co 4 _ (by decide) (by decide) (by decide), co 5 _ (by decide) (by decide) (by decide), co 6 _ (by decide) (by decide) (by decide), co 7 _ (by decide) (by decide) (by decide), co 8 _ (by decide) (by decide) (by decide), co 11 _ (by decide) (by decide) (by decide), co 12 _ (by decide) (by decide) (by decide), co 13 _ (by decide) (by decide) (by decide), e6, e7, e8, e9, eo 0 _ (by decide), eo 1 _ (by decide), eo 2 _ (by decide), eo 3 _ (by decide), eo 4 _ (by decide), eo 5 _ (by decide), eo 6 _ (by decide), eo 10 _ (by decide), eo 11 _ (by decide), eo 12 _ (by decide), eo 13 _ (by decide), eo 20 _ (by decide), eo 21 _ (by decide), eo 22 _ (by decide), ptn_o (eo 6 3 (by decide)) (fun j => eo 7 j (by decide)) (fun j => eo 8 j (by decide)), Int.reduceEq, ↓reduceIte]
  refine ⟨h.f0, h.f1, h.f2, h.f3, h.f4, h.f5, h.f6, h.f7, trivial, h.f9, h.co, h.ho, h.tk, h.fo, h.wi, h.sh, h.un, fun k a b => ?_, ⟨hb.1, fun k a b => ?_⟩, h.nm⟩
  · unfold mbt
    rw [hb.2 k a (by omega)]
    by_cases z : k = R 14 3
    · rw [if_pos z, if_pos z, if_pos z, if_pos z, if_pos z, if_pos z]
      refine ⟨rfl, rfl, ?_⟩
      rcases hf01 with q | q <;> rw [q] <;> rfl
    · rw [if_neg z, if_neg z, if_neg z, if_neg z, if_neg z, if_neg z]
      have := h.se k a (by omega)
      unfold mbt at this
      exact this
  · rw [hb.2 k (by omega) b, if_neg (by omega)]
    exact s2 k (by omega) b
theorem rt_uns (h : RT R c T) (W : WF R) {x y : Int} : RT (up (up (up R 4 (R 0 5) x) 5 (R 0 5) y) 0 5 (R 0 5 + 1)) (up (up (up c (T + 7) (R 0 5) x) (T + 8) (R 0 5) y) T 7 (R 0 5 + 1)) T := by
  have hq := W.x
  generalize hR : up (up (up R 4 (R 0 5) x) 5 (R 0 5) y) 0 5 (R 0 5 + 1) = R'
  generalize hc : up (up (up c (T + 7) (R 0 5) x) (T + 8) (R 0 5) y) T 7 (R 0 5 + 1) = c'
  have r0 : ∀ j, R' 0 j = if j = 5 then R 0 5 + 1 else R 0 j := fun j => by
    rw [← hR]
    by_cases q : j = 5
    · rw [q, up_eq, if_pos rfl]
    · rw [up_nj q, up_na (by decide), up_na (by decide), if_neg q]
  have r4 : ∀ j, R' 4 j = if j = R 0 5 then x else R 4 j := fun j => by
    rw [← hR, up_na (by decide), up_na (by decide)]
    by_cases q : j = R 0 5
    · rw [q, up_eq, if_pos rfl]
    · rw [up_nj q, if_neg q]
  have r5 : ∀ j, R' 5 j = if j = R 0 5 then y else R 5 j := fun j => by
    rw [← hR, up_na (by decide)]
    by_cases q : j = R 0 5
    · rw [q, up_eq, if_pos rfl]
    · rw [up_nj q, up_na (by decide), if_neg q]
  have ro : ∀ a j, a ≠ 0 → a ≠ 4 → a ≠ 5 → R' a j = R a j := fun a j x y z => by rw [← hR, up_na (by omega), up_na (by omega), up_na (by omega)]
  have cT : ∀ j, c' T j = if j = 7 then R 0 5 + 1 else c T j := fun j => by
    rw [← hc]
    by_cases z : j = 7
    · rw [z, up_eq, if_pos rfl]
    · rw [up_nj z, up_na (by omega), up_na (by omega), if_neg z]
  have c7 : ∀ j, c' (T + 7) j = if j = R 0 5 then x else c (T + 7) j := fun j => by
    rw [← hc, up_na (by omega), up_na (by omega)]
    by_cases z : j = R 0 5
    · rw [z, up_eq, if_pos rfl]
    · rw [up_nj z, if_neg z]
  have c8 : ∀ j, c' (T + 8) j = if j = R 0 5 then y else c (T + 8) j := fun j => by
    rw [← hc, up_na (by omega)]
    by_cases z : j = R 0 5
    · rw [z, up_eq, if_pos rfl]
    · rw [up_nj z, up_na (by omega), if_neg z]
  have co : ∀ k j, 1 ≤ k → k ≠ 7 → k ≠ 8 → c' (T + k) j = c (T + k) j := fun k j x' z z' => by rw [← hc, up_na (by omega), up_na (by omega), up_na (by omega)]
  clear hc hR
  unfold RT
  simp only [cT, c7, c8, co 1 _ (by decide) (by decide) (by decide), co 2 _ (by decide) (by decide) (by decide), co 3 _ (by decide) (by decide) (by decide), co 4 _ (by decide) (by decide) (by decide), co 5 _ (by decide) (by decide) (by decide), co 6 _ (by decide) (by decide) (by decide), co 9 _ (by decide) (by decide) (by decide), co 10 _ (by decide) (by decide) (by decide), co 11 _ (by decide) (by decide) (by decide), co 12 _ (by decide) (by decide) (by decide), co 13 _ (by decide) (by decide) (by decide), r0, r4, r5, ro 1 _ (by decide) (by decide) (by decide), ro 2 _ (by decide) (by decide) (by decide), ro 3 _ (by decide) (by decide) (by decide), ro 6 _ (by decide) (by decide) (by decide), ro 10 _ (by decide) (by decide) (by decide), ro 11 _ (by decide) (by decide) (by decide), ro 12 _ (by decide) (by decide) (by decide), ro 13 _ (by decide) (by decide) (by decide), ro 14 _ (by decide) (by decide) (by decide), ro 15 _ (by decide) (by decide) (by decide), ro 16 _ (by decide) (by decide) (by decide), ro 17 _ (by decide) (by decide) (by decide), ro 20 _ (by decide) (by decide) (by decide), ro 21 _ (by decide) (by decide) (by decide), ro 22 _ (by decide) (by decide) (by decide), ptn_o (ro 6 3 (by decide) (by decide) (by decide)) (fun j => ro 7 j (by decide) (by decide) (by decide)) (fun j => ro 8 j (by decide) (by decide) (by decide)), Int.reduceEq, ↓reduceIte]
  refine ⟨h.f0, h.f1, h.f2, h.f3, h.f4, h.f5, h.f6, trivial, h.f8, h.f9, h.co, h.ho, h.tk, h.fo, h.wi, h.sh, fun i a b => ?_, h.se, h.be, h.nm⟩
  by_cases z : i = R 0 5
  · rw [if_pos z, if_pos z, if_pos z, if_pos z]; exact ⟨rfl, rfl⟩
  · rw [if_neg z, if_neg z, if_neg z, if_neg z]; exact h.un i a (by omega)
end
