/-! all ways to change up to six slots about, one by one -/
def alln : Nat → (Nat → Bool) → Bool
  | 0, _ => true
  | k + 1, p => p k && alln k p
theorem alln_at {p : Nat → Bool} : ∀ {n : Nat}, alln n p = true → ∀ i, i < n → p i = true := by
  intro n
  induction n with
  | zero => intro _ i hi; omega
  | succ n ih =>
    intro h i hi
    simp only [alln, Bool.and_eq_true] at h
    by_cases e : i = n
    · rw [e]; exact h.1
    · exact ih h.2 i (by omega)
def memb (x : Nat) : List Nat → Bool
  | [] => false
  | y :: l => Nat.beq x y || memb x l
theorem memb_of {x : Nat} : ∀ {l : List Nat}, memb x l = true → x ∈ l := by
  intro l
  induction l with
  | nil => intro h; cases h
  | cons y l ih =>
    intro h
    simp only [memb, Bool.or_eq_true] at h
    rcases h with h | h
    · rw [Nat.eq_of_beq_eq_true h]; exact List.mem_cons_self
    · exact List.mem_cons_of_mem _ (ih h)
def pmc (n : Nat) (p : Nat → Bool) : Nat → Nat → Nat → List Nat → Bool
  | 0, _, acc, _ => p acc
  | r + 1, w, acc, used => alln n fun e => memb e used || pmc n p r (w * 8) (acc + e * w) (e :: used)
def smd (f : Nat → Nat) : Nat → Nat → Nat
  | _, 0 => 0
  | pos, r + 1 => f pos * 8 ^ pos + smd f (pos + 1) r
theorem pmc_sound {n : Nat} {p : Nat → Bool} {f : Nat → Nat} : ∀ (r pos acc : Nat) (used : List Nat), pmc n p r (8 ^ pos) acc used = true → (∀ i, pos ≤ i → i < pos + r → f i < n ∧ ¬ f i ∈ used) → (∀ i j, pos ≤ i → i < pos + r → pos ≤ j → j < pos + r → f i = f j → i = j) → p (acc + smd f pos r) = true := by
  intro r
  induction r with
  | zero => intro pos acc used h _ _; exact h
  | succ r ih =>
    intro pos acc used h h1 h2
    simp only [pmc] at h
    have h3 := alln_at h (f pos) (h1 pos (by omega) (by omega)).1
    rw [Bool.or_eq_true] at h3
    rcases h3 with h3 | h3
    · exact absurd (memb_of h3) (h1 pos (by omega) (by omega)).2
    · have := ih (pos + 1) (acc + f pos * 8 ^ pos) (f pos :: used) (by rw [Nat.pow_succ]; exact h3) (fun i hi hi' => ⟨(h1 i (by omega) (by omega)).1, fun q => by
        rcases List.mem_cons.mp q with q | q
        · have := h2 i pos (by omega) (by omega) (by omega) (by omega) q; omega
        · exact (h1 i (by omega) (by omega)).2 q⟩) (fun i j a b c d e => h2 i j (by omega) (by omega) (by omega) (by omega) e)
      simp only [smd]
      rw [← Nat.add_assoc]
      exact this
theorem smd_dig (x : Nat) : ∀ (r pos : Nat), smd (fun i => x / 8 ^ i % 8) pos r = x / 8 ^ pos % 8 ^ r * 8 ^ pos := by
  intro r
  induction r with
  | zero => intro pos; simp [smd, Nat.mod_one]
  | succ r ih =>
    intro pos
    simp only [smd]
    rw [ih]
    have e : x / 8 ^ (pos + 1) = x / 8 ^ pos / 8 := by rw [Nat.pow_succ, Nat.div_div_eq_div_mul]
    rw [e, show (8 : Nat) ^ (r + 1) = 8 * 8 ^ r by rw [Nat.pow_succ, Nat.mul_comm], Nat.mod_mul, Nat.add_mul, Nat.pow_succ]
    congr 1
    rw [Nat.mul_comm (8 ^ pos) 8, ← Nat.mul_assoc, Nat.mul_comm _ 8]
theorem dg_div {x i : Nat} (hx : x < 2147483648) (hi : i < 10) : dg (x : Int) (i : Int) = ((x / 8 ^ i % 8 : Nat) : Int) := by
  rw [dg_nat hx hi, Nat.shiftRight_eq_div_pow, Nat.pow_mul]
  congr 1
  exact Nat.and_two_pow_sub_one_eq_mod _ 3
def PM (x n : Int) : Prop := 0 ≤ x ∧ x < 8 ^ n.toNat ∧ (∀ i, 0 ≤ i → i < n → dg x i < n) ∧ (∀ i j, 0 ≤ i → i < n → 0 ≤ j → j < n → dg x i = dg x j → i = j)
theorem pm_all {n : Nat} (hn : n ≤ 6) {p : Int → Bool} (h : pmc n (fun x => p (x : Int)) n 1 0 [] = true) {x : Int} (hx : PM x n) : p x = true := by
  obtain ⟨h0, h1, h2, h3⟩ := hx
  obtain ⟨x, rfl⟩ := Int.eq_ofNat_of_zero_le h0
  have hx2 : x < 8 ^ n := by exact_mod_cast h1
  have h8 : (8 : Nat) ^ n ≤ 8 ^ 6 := Nat.pow_le_pow_right (by omega) hn
  have h9 : (8 : Nat) ^ 6 = 262144 := by decide
  have key := pmc_sound (f := fun i => x / 8 ^ i % 8) n 0 0 [] h (fun i _ hi => ⟨by
      have := h2 i (by omega) (by omega)
      rw [dg_div (by omega) (by omega)] at this
      exact_mod_cast this, List.not_mem_nil⟩) (fun i j _ hi _ hj e => by
      have := h3 i j (by omega) (by omega) (by omega) (by omega) (by
        rw [dg_div (by omega) (by omega), dg_div (by omega) (by omega)]
        exact_mod_cast e)
      exact_mod_cast this)
  rw [smd_dig] at key
  simpa [Nat.mod_eq_of_lt hx2] using key
/-! the reference's ways of counting, over a row f -/
def rgI (f : Int → Int) : Nat → Int → Int → Option Int
  | 0, _, _ => none
  | s + 1, sn, j => if bt sn j = 1 then some sn else rgI f s (o_or sn (o_shl 1 j)) (f j)
def rgO (f : Int → Int) : Nat → Int → Int → Int → Option Int
  | 0, _, _, q => some q
  | j + 1, k, sn, q => if bt sn k = 1 then rgO f j (k + 1) sn q else match rgI f 8 sn k with
    | some sn' => rgO f j (k + 1) sn' (w32 (q + 1))
    | none => none
def rkM (f : Int → Int) (n : Int) : Int := fo (fun k s => w32 (w32 (s * w32 (n - k)) + fo (fun j l => if f j < f k then w32 (l + 1) else w32 (l + 0)) (n - (k + 1)).toNat (k + 1) 0)) n.toNat 0 0
def stM (f : Int → Int) (k : Int) : Nat → Int → Int → Option Int
  | 0, _, _ => none
  | s + 1, j, q => if j = k then some q else stM f k s (f j) (w32 (q + 1))
def unC (n : Nat) : Nat → Nat → Nat → List Nat → Nat
  | 0, _, _, _ => 0
  | j + 1, r, w, av =>
    let f := (List.range j).foldl (fun a b => a * (b + 1)) 1
    let e := nth 0 av (r / f)
    e * w + unC n j (r % f) (w * 8) (av.filter fun y => !(Nat.beq y e))
def unrk (n r : Int) : Int := (unC n.toNat n.toNat r.toNat 1 (List.range n.toNat) : Nat)
def pmB (x n : Int) : Bool := decide (0 ≤ x) && decide (x < 8 ^ n.toNat) && alln n.toNat (fun i => decide (dg x i < n)) && alln n.toNat (fun i => alln n.toNat (fun j => !(dg x i == dg x j) || Nat.beq i j))
def chk6 (n : Int) (x : Int) : Bool :=
  decide (rgO (dg x) n.toNat 0 0 0 = some (cyc x n)) && decide (rkM (dg x) n = rnk x n) && decide (0 ≤ rnk x n) && decide (rnk x n < 720) && decide (unrk n (rnk x n) = x) &&
  decide (1 ≤ cyc x n) && decide (cyc x n ≤ n) && pmB (inv6 x n) n && alln n.toNat (fun i => decide (dg (inv6 x n) (dg x i) = i))
set_option maxRecDepth 100000 in
theorem chk_2 : pmc 2 (fun x => chk6 2 (x : Int)) 2 1 0 [] = true := by decide +kernel
set_option maxRecDepth 100000 in
theorem chk_3 : pmc 3 (fun x => chk6 3 (x : Int)) 3 1 0 [] = true := by decide +kernel
set_option maxRecDepth 100000 in
theorem chk_4 : pmc 4 (fun x => chk6 4 (x : Int)) 4 1 0 [] = true := by decide +kernel
set_option maxRecDepth 100000 in
theorem chk_5 : pmc 5 (fun x => chk6 5 (x : Int)) 5 1 0 [] = true := by decide +kernel
