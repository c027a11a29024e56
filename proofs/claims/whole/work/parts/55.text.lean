/-! the text told, in pure words: what stands at a spot -/
def rnF (b : Int → Bool) : Nat → Int → Int
  | 0, p => p
  | k + 1, p => if b p = true then rnF b k (p + 1) else p
theorem rnF_rg (b : Int → Bool) : ∀ (k : Nat) (p : Int), (p ≤ rnF b k p ∧ rnF b k p ≤ p + k) ∧ (∀ j, p ≤ j → j < rnF b k p → b j = true) ∧ (rnF b k p < p + k → b (rnF b k p) = false) := by
  intro k
  induction k with
  | zero => intro p; simp only [rnF]; exact ⟨by omega, fun j a b => by omega, fun h => by omega⟩
  | succ k ih =>
    intro p
    simp only [rnF]
    by_cases h : b p = true
    · rw [if_pos h]
      obtain ⟨h1, h2, h3⟩ := ih (p + 1)
      refine ⟨by omega, fun j a b' => ?_, fun h' => h3 (by omega)⟩
      by_cases e : j = p
      · rw [e]; exact h
      · exact h2 j (by omega) b'
    · rw [if_neg h]
      exact ⟨by omega, fun j a b => by omega, fun _ => by simpa using h⟩
def isS (tx : Int → Int) (j : Int) : Bool := decide (tx j = 32)
def isLt (tx : Int → Int) (j : Int) : Bool := decide (97 ≤ tx j ∧ tx j ≤ 122)
def isD (tx : Int → Int) (j : Int) : Bool := decide (48 ≤ tx j ∧ tx j ≤ 57)
/-- behind blanks; behind letters; behind digits -/
def sk (tx : Int → Int) (e p : Int) : Int := rnF (isS tx) (e - p).toNat p
def le9 (tx : Int → Int) (e p : Int) : Int := rnF (isLt tx) (e - p).toNat p
def de9 (tx : Int → Int) (e p : Int) : Int := rnF (isD tx) (e - p).toNat p
def kd (tx : Int → Int) (e p : Int) : Int := if e ≤ p then 0 else if tx p = 59 then 3 else if isLt tx p = true then (if le9 tx e p - p ≤ 8 then 1 else 4) else if isD tx p = true then (if de9 tx e p - p ≤ 3 then 2 else 4) else 4
def en (tx : Int → Int) (e p : Int) : Int := if e ≤ p then p else if tx p = 59 then p + 1 else if isLt tx p = true then le9 tx e p else if isD tx p = true then de9 tx e p else p
def nx (tx : Int → Int) (e p : Int) : Int := sk tx e (en tx e p)
def lts (tx : Int → Int) (p : Int) (k : Nat) : List Int := fo (fun j l => (tx j - 96) :: l) k p []
def nmb (tx : Int → Int) (p : Int) (k : Nat) : Int := fo (fun j s => 10 * s + (tx j - 48)) k p 0
def cR (b : Int) : List Int → Int
  | [] => 0
  | x :: l => b * cR b l + x
def va (tx : Int → Int) (e p : Int) : Int := if kd tx e p = 1 then cR 27 (lts tx p (le9 tx e p - p).toNat) else if kd tx e p = 2 then nmb tx p (de9 tx e p - p).toNat else 0
def v32 (tx : Int → Int) (e p : Int) : Int := cR 32 (lts tx p (le9 tx e p - p).toNat)
theorem sk_rg {tx : Int → Int} {e p : Int} (h : p ≤ e) : p ≤ sk tx e p ∧ sk tx e p ≤ e := by
  have := (rnF_rg (isS tx) (e - p).toNat p).1
  unfold sk
  omega
theorem le9_rg {tx : Int → Int} {e p : Int} (h : p ≤ e) : p ≤ le9 tx e p ∧ le9 tx e p ≤ e := by
  have := (rnF_rg (isLt tx) (e - p).toNat p).1
  unfold le9
  omega
theorem de9_rg {tx : Int → Int} {e p : Int} (h : p ≤ e) : p ≤ de9 tx e p ∧ de9 tx e p ≤ e := by
  have := (rnF_rg (isD tx) (e - p).toNat p).1
  unfold de9
  omega
theorem rnF_pos {b : Int → Bool} {k : Nat} {p : Int} (h : b p = true) : p < rnF b (k + 1) p := by
  simp only [rnF]
  rw [if_pos h]
  have := (rnF_rg b k (p + 1)).1
  omega
theorem en_rg {tx : Int → Int} {e p : Int} (h : p ≤ e) : p ≤ en tx e p ∧ en tx e p ≤ e := by
  have h1 := le9_rg (tx := tx) h
  have h2 := de9_rg (tx := tx) h
  unfold en
  repeat' split
  all_goals omega
/-- a token of the three sorts that are one has at least a byte -/
theorem en_lt {tx : Int → Int} {e p : Int} (hk : kd tx e p = 1 ∨ kd tx e p = 2 ∨ kd tx e p = 3) : p < e ∧ p < en tx e p := by
  unfold kd at hk
  unfold en
  by_cases h : e ≤ p
  · rw [if_pos h] at hk; omega
  · rw [if_neg h] at hk ⊢
    refine ⟨by omega, ?_⟩
    obtain ⟨k, hk'⟩ : ∃ k, (e - p).toNat = k + 1 := ⟨(e - p).toNat - 1, by omega⟩
    by_cases h1 : tx p = 59
    · rw [if_pos h1]; omega
    · rw [if_neg h1] at hk ⊢
      by_cases h2 : isLt tx p = true
      · rw [if_pos h2]; unfold le9; rw [hk']; exact rnF_pos h2
      · rw [if_neg h2] at hk ⊢
        by_cases h3 : isD tx p = true
        · rw [if_pos h3]; unfold de9; rw [hk']; exact rnF_pos h3
        · rw [if_neg h3] at hk; omega
theorem nx_rg {tx : Int → Int} {e p : Int} (h : p ≤ e) : p ≤ nx tx e p ∧ nx tx e p ≤ e := by
  have h1 := en_rg (tx := tx) h
  have h2 := sk_rg (tx := tx) h1.2
  unfold nx
  omega
theorem nx_lt {tx : Int → Int} {e p : Int} (hk : kd tx e p = 1 ∨ kd tx e p = 2 ∨ kd tx e p = 3) : p < nx tx e p := by
  have h1 := en_lt hk
  have h2 := en_rg (tx := tx) (Int.le_of_lt h1.1)
  have h3 := sk_rg (tx := tx) h2.2
  unfold nx
  omega
theorem lts_succ (tx : Int → Int) (p : Int) (k : Nat) : lts tx p (k + 1) = (tx (p + k) - 96) :: lts tx p k := by unfold lts; rw [fo_succ]
theorem nmb_succ (tx : Int → Int) (p : Int) (k : Nat) : nmb tx p (k + 1) = 10 * nmb tx p k + (tx (p + k) - 48) := by unfold nmb; rw [fo_succ]
def Ltr (l : List Int) : Prop := ∀ x ∈ l, 1 ≤ x ∧ x ≤ 26
theorem lts_ltr {tx : Int → Int} {p : Int} : ∀ (k : Nat), (∀ j, p ≤ j → j < p + k → isLt tx j = true) → Ltr (lts tx p k) ∧ (lts tx p k).length = k := by
  intro k
  induction k with
  | zero => intro _; exact ⟨fun x hx => by simp [lts, fo] at hx, rfl⟩
  | succ k ih =>
    intro h
    obtain ⟨h1, h2⟩ := ih (fun j a b => h j a (by omega))
    rw [lts_succ]
    refine ⟨?_, by simp [h2]⟩
    intro x hx
    rcases List.mem_cons.1 hx with e | e
    · have := h (p + k) (by omega) (by omega)
      unfold isLt at this
      simp only [decide_eq_true_eq] at this
      omega
    · exact h1 x e
def bb (b : Int) : Nat → Int
  | 0 => 0
  | k + 1 => b * bb b k + 26
theorem cR_rg {b : Int} (hb : 27 ≤ b) : ∀ {l : List Int}, Ltr l → 0 ≤ cR b l ∧ cR b l ≤ bb b l.length := by
  intro l
  induction l with
  | nil => intro _; simp only [cR, bb, List.length_nil]; omega
  | cons x l ih =>
    intro h
    have h1 := ih (fun y hy => h y (List.mem_cons_of_mem _ hy))
    have h2 := h x List.mem_cons_self
    simp only [cR, List.length_cons, bb]
    have h3 := Int.mul_nonneg (show 0 ≤ b by omega) h1.1
    have h4 : b * cR b l ≤ b * bb b l.length := Int.mul_le_mul_of_nonneg_left h1.2 (by omega)
    omega
theorem bb_le : ∀ k : Nat, k ≤ 8 → bb 27 k ≤ 1000000000000 ∧ bb 32 k ≤ 2000000000000 := by
  intro k hk
  have : k = 0 ∨ k = 1 ∨ k = 2 ∨ k = 3 ∨ k = 4 ∨ k = 5 ∨ k = 6 ∨ k = 7 ∨ k = 8 := by omega
  rcases this with rfl | rfl | rfl | rfl | rfl | rfl | rfl | rfl | rfl <;> decide
theorem cR_inj {b : Int} (hb : 27 ≤ b) : ∀ {l l' : List Int}, Ltr l → Ltr l' → cR b l = cR b l' → l = l' := by
  intro l
  induction l with
  | nil =>
    intro l' _ h' e
    cases l' with
    | nil => rfl
    | cons x l' =>
      have h1 := (cR_rg hb (fun y hy => h' y (List.mem_cons_of_mem x hy))).1
      have h2 := h' x List.mem_cons_self
      have h3 := Int.mul_nonneg (show 0 ≤ b by omega) h1
      simp only [cR] at e
      omega
  | cons x l ih =>
    intro l' h h' e
    cases l' with
    | nil =>
      have h1 := (cR_rg hb (fun y hy => h y (List.mem_cons_of_mem x hy))).1
      have h2 := h x List.mem_cons_self
      have h3 := Int.mul_nonneg (show 0 ≤ b by omega) h1
      simp only [cR] at e
      omega
    | cons x' l' =>
      have h2 := h x List.mem_cons_self
      have h2' := h' x' List.mem_cons_self
      simp only [cR] at e
      have ex : x = x' := by
        have e1 : (b * cR b l + x) % b = x := by rw [Int.mul_add_emod_self_left]; exact Int.emod_eq_of_lt (by omega) (by omega)
        have e2 : (b * cR b l' + x') % b = x' := by rw [Int.mul_add_emod_self_left]; exact Int.emod_eq_of_lt (by omega) (by omega)
        rw [← e1, ← e2, e]
      subst ex
      have el : cR b l = cR b l' := Int.eq_of_mul_eq_mul_left (show b ≠ 0 by omega) (by omega)
      rw [ih (fun y hy => h y (List.mem_cons_of_mem x hy)) (fun y hy => h' y (List.mem_cons_of_mem x hy)) el]
/-- one word, told to the base of 27 and of 32 -/
def Nm (a b : Int) : Prop := ∃ l, Ltr l ∧ a = cR 27 l ∧ b = cR 32 l
theorem Nm.iff {a b a' b' : Int} (h : Nm a b) (h' : Nm a' b') : a = a' ↔ b = b' := by
  obtain ⟨l, hl, rfl, rfl⟩ := h
  obtain ⟨l', hl', rfl, rfl⟩ := h'
  constructor
  · intro e; rw [cR_inj (by decide) hl hl' e]
  · intro e; rw [cR_inj (by decide) hl hl' e]
theorem le9_all {tx : Int → Int} {e p : Int} (h : p ≤ e) : Ltr (lts tx p (le9 tx e p - p).toNat) ∧ (lts tx p (le9 tx e p - p).toNat).length = (le9 tx e p - p).toNat := by
  have h1 := le9_rg (tx := tx) h
  apply lts_ltr
  intro j a b
  exact (rnF_rg (isLt tx) (e - p).toNat p).2.1 j a (by unfold le9 at *; omega)
theorem kd_1 {tx : Int → Int} {e p : Int} (h : kd tx e p = 1) : p < e ∧ tx p ≠ 59 ∧ isLt tx p = true ∧ le9 tx e p - p ≤ 8 := by
  unfold kd at h
  repeat' split at h
  all_goals first | omega | (exact ⟨by omega, by assumption, by assumption, by assumption⟩)
theorem kd_2 {tx : Int → Int} {e p : Int} (h : kd tx e p = 2) : p < e ∧ isD tx p = true ∧ de9 tx e p - p ≤ 3 := by
  unfold kd at h
  repeat' split at h
  all_goals first | omega | (exact ⟨by omega, by assumption, by assumption⟩)
theorem va_nm {tx : Int → Int} {e p : Int} (h : kd tx e p = 1) : Nm (va tx e p) (v32 tx e p) := by
  have h1 := kd_1 h
  exact ⟨_, (le9_all (tx := tx) (Int.le_of_lt h1.1)).1, by unfold va; rw [if_pos h], rfl⟩
theorem nmb_rg {tx : Int → Int} {p : Int} : ∀ (k : Nat), (∀ j, p ≤ j → j < p + k → isD tx j = true) → 0 ≤ nmb tx p k ∧ (k ≤ 1 → nmb tx p k ≤ 9) ∧ (k ≤ 2 → nmb tx p k ≤ 99) ∧ (k ≤ 3 → nmb tx p k ≤ 999) := by
  have key : ∀ (k : Nat), (∀ j, p ≤ j → j < p + k → isD tx j = true) → 0 ≤ nmb tx p k ∧ (k = 0 → nmb tx p k = 0) ∧ (k = 1 → nmb tx p k ≤ 9) ∧ (k = 2 → nmb tx p k ≤ 99) ∧ (k = 3 → nmb tx p k ≤ 999) := by
    intro k
    induction k with
    | zero => intro _; unfold nmb; simp only [fo]; refine ⟨by decide, fun _ => by first | rfl | trivial, fun _ => by decide, fun _ => by decide, fun _ => by decide⟩
    | succ k ih =>
      intro h
      obtain ⟨h0, h1, h2, h3, h4⟩ := ih (fun j a b => h j a (by omega))
      have := h (p + k) (by omega) (by omega)
      unfold isD at this
      simp only [decide_eq_true_eq] at this
      rw [nmb_succ]
      omega
  intro k h
  have := key k h
  omega
theorem va_2 {tx : Int → Int} {e p : Int} (h : kd tx e p = 2) : va tx e p = nmb tx p (de9 tx e p - p).toNat ∧ 0 ≤ va tx e p ∧ va tx e p ≤ 999 := by
  have h1 := kd_2 h
  have e1 : va tx e p = nmb tx p (de9 tx e p - p).toNat := by unfold va; rw [if_neg (by omega), if_pos h]
  have h2 := de9_rg (tx := tx) (Int.le_of_lt h1.1)
  have := nmb_rg (tx := tx) (p := p) (de9 tx e p - p).toNat (fun j a b => (rnF_rg (isD tx) (e - p).toNat p).2.1 j a (by unfold de9 at *; omega))
  rw [e1]
  exact ⟨rfl, by omega, by omega⟩
