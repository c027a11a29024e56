/-! powers of a way; each way back is one of them -/
def pw (x n : Int) : Nat → Int
  | 0 => sam n
  | k + 1 => thr (pw x n k) x n
def chkV (n : Int) (x : Int) : Bool := !(alln 6 (fun k => !(inv6 x n == pw x n k)))
set_option maxRecDepth 100000 in
theorem chv_2 : pmc 2 (fun x => chkV 2 (x : Int)) 2 1 0 [] = true := by decide +kernel
set_option maxRecDepth 100000 in
theorem chv_3 : pmc 3 (fun x => chkV 3 (x : Int)) 3 1 0 [] = true := by decide +kernel
set_option maxRecDepth 100000 in
theorem chv_4 : pmc 4 (fun x => chkV 4 (x : Int)) 4 1 0 [] = true := by decide +kernel
set_option maxRecDepth 100000 in
theorem chv_5 : pmc 5 (fun x => chkV 5 (x : Int)) 5 1 0 [] = true := by decide +kernel
set_option maxRecDepth 100000 in
theorem chv_60 : pmc 6 (fun x => chkV 6 (x : Int)) 5 8 0 [0] = true := by decide +kernel
set_option maxRecDepth 100000 in
theorem chv_61 : pmc 6 (fun x => chkV 6 (x : Int)) 5 8 1 [1] = true := by decide +kernel
set_option maxRecDepth 100000 in
theorem chv_62 : pmc 6 (fun x => chkV 6 (x : Int)) 5 8 2 [2] = true := by decide +kernel
set_option maxRecDepth 100000 in
theorem chv_63 : pmc 6 (fun x => chkV 6 (x : Int)) 5 8 3 [3] = true := by decide +kernel
set_option maxRecDepth 100000 in
theorem chv_64 : pmc 6 (fun x => chkV 6 (x : Int)) 5 8 4 [4] = true := by decide +kernel
set_option maxRecDepth 100000 in
theorem chv_65 : pmc 6 (fun x => chkV 6 (x : Int)) 5 8 5 [5] = true := by decide +kernel
theorem alln_not {p : Nat → Bool} : ∀ {n : Nat}, alln n p = false → ∃ i, i < n ∧ p i = false := by
  intro n
  induction n with
  | zero => intro h; cases h
  | succ n ih =>
    intro h
    simp only [alln] at h
    cases hp : p n with
    | false => exact ⟨n, by omega, hp⟩
    | true =>
      rw [hp, Bool.true_and] at h
      obtain ⟨i, h1, h2⟩ := ih h
      exact ⟨i, by omega, h2⟩
theorem inv_pw {n x : Int} (h2 : 2 ≤ n) (h6 : n ≤ 6) (hx : PM x n) : ∃ k, inv6 x n = pw x n k := by
  have key : chkV n x = true := by
    have : n = 2 ∨ n = 3 ∨ n = 4 ∨ n = 5 ∨ n = 6 := by omega
    rcases this with rfl | rfl | rfl | rfl | rfl
    · exact pm_all (n := 2) (by omega) chv_2 hx
    · exact pm_all (n := 3) (by omega) chv_3 hx
    · exact pm_all (n := 4) (by omega) chv_4 hx
    · exact pm_all (n := 5) (by omega) chv_5 hx
    · exact pm_all (n := 6) (by omega) (pmc6 chv_60 chv_61 chv_62 chv_63 chv_64 chv_65) hx
  unfold chkV at key
  rw [Bool.not_eq_true'] at key
  obtain ⟨i, _, h⟩ := alln_not key
  exact ⟨i, by simpa using h⟩
theorem pw_pm {n x : Int} (h2 : 2 ≤ n) (h6 : n ≤ 6) (hx : PM x n) : ∀ k, PM (pw x n k) n := by
  intro k
  induction k with
  | zero => exact (sam_all (by omega) h6).1
  | succ k ih => exact thr_pm (by omega) (by omega) ih hx
