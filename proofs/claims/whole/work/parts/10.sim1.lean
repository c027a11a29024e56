/-! numbers -/
def i32 (x : Int) : Prop := -2147483648 ≤ x ∧ x < 2147483648
def i64 (x : Int) : Prop := -9223372036854775808 ≤ x ∧ x < 9223372036854775808
theorem w32_bmod (x : Int) : w32 x = x.bmod 4294967296 := by
  unfold w32 Int.bmod
  dsimp only
  split <;> omega
theorem w64_bmod (x : Int) : w64 x = x.bmod 18446744073709551616 := by
  unfold w64 Int.bmod
  dsimp only
  split <;> omega
theorem w32_i (x : Int) : i32 (w32 x) := by unfold w32 i32; omega
theorem w64_i (x : Int) : i64 (w64 x) := by unfold w64 i64; omega
theorem w32_of {x : Int} (h : i32 x) : w32 x = x := by unfold w32; unfold i32 at h; omega
theorem w64_of {x : Int} (h : i64 x) : w64 x = x := by unfold w64; unfold i64 at h; omega
theorem i32_to (x : Int32) : i32 x.toInt := ⟨x.le_toInt, x.toInt_lt⟩
theorem i64_to (x : Int64) : i64 x.toInt := ⟨x.le_toInt, x.toInt_lt⟩
theorem oI_to {x : Int} (h : i32 x) : (Int32.ofInt x).toInt = x := Int32.toInt_ofInt_of_le h.1 h.2
theorem oL_to {x : Int} (h : i64 x) : (Int64.ofInt x).toInt = x := Int64.toInt_ofInt_of_le h.1 h.2
theorem oI_w (x : Int) : Int32.ofInt (w32 x) = Int32.ofInt x := Int32.toInt.inj (by rw [Int32.toInt_ofInt, Int32.toInt_ofInt, w32_bmod]; exact Int.bmod_bmod)
theorem oL_w (x : Int) : Int64.ofInt (w64 x) = Int64.ofInt x := Int64.toInt.inj (by rw [Int64.toInt_ofInt, Int64.toInt_ofInt, w64_bmod]; exact Int.bmod_bmod)
theorem oI_inj {x y : Int} (hx : i32 x) (hy : i32 y) : Int32.ofInt x = Int32.ofInt y ↔ x = y := by
  rw [← Int32.toInt_inj, oI_to hx, oI_to hy]
theorem oL_inj {x y : Int} (hx : i64 x) (hy : i64 y) : Int64.ofInt x = Int64.ofInt y ↔ x = y := by
  rw [← Int64.toInt_inj, oL_to hx, oL_to hy]
theorem oI_lt {x y : Int} (hx : i32 x) (hy : i32 y) : Int32.ofInt x < Int32.ofInt y ↔ x < y := by
  rw [Int32.lt_iff_toInt_lt, oI_to hx, oI_to hy]
theorem oI_le {x y : Int} (hx : i32 x) (hy : i32 y) : Int32.ofInt x ≤ Int32.ofInt y ↔ x ≤ y := by
  rw [Int32.le_iff_toInt_le, oI_to hx, oI_to hy]
theorem oL_lt {x y : Int} (hx : i64 x) (hy : i64 y) : Int64.ofInt x < Int64.ofInt y ↔ x < y := by
  rw [Int64.lt_iff_toInt_lt, oL_to hx, oL_to hy]
theorem oI_0 : Int32.ofInt 0 = 0 := rfl
theorem oL_0 : Int64.ofInt 0 = 0 := rfl
theorem i32_0 : i32 0 := by unfold i32; omega
theorem i64_0 : i64 0 := by unfold i64; omega
theorem oI_clamp {x : Int} (h : i32 x) : (Int32.ofInt x).toNatClampNeg = x.toNat := by
  show (Int32.ofInt x).toInt.toNat = _
  rw [oI_to h]
theorem oI_in {x : Int} (h : i32 x) {n : Nat} (h0 : 0 ≤ x) (h1 : x < n) : vp_in (Int32.ofInt x) n := by
  rw [vp_in_iff, oI_to h]
  exact ⟨h0, h1⟩
theorem oI_add (x y : Int) : Int32.ofInt x + Int32.ofInt y = Int32.ofInt (w32 (x + y)) := by rw [oI_w, Int32.ofInt_add]
theorem oI_sub (x y : Int) : Int32.ofInt x - Int32.ofInt y = Int32.ofInt (w32 (x - y)) := by rw [oI_w, Int32.ofInt_sub]
theorem oI_mul (x y : Int) : Int32.ofInt x * Int32.ofInt y = Int32.ofInt (w32 (x * y)) := by rw [oI_w, Int32.ofInt_mul]
theorem oL_add (x y : Int) : Int64.ofInt x + Int64.ofInt y = Int64.ofInt (w64 (x + y)) := by rw [oL_w, Int64.ofInt_add]
theorem oL_sub (x y : Int) : Int64.ofInt x - Int64.ofInt y = Int64.ofInt (w64 (x - y)) := by rw [oL_w, Int64.ofInt_sub]
theorem oL_mul (x y : Int) : Int64.ofInt x * Int64.ofInt y = Int64.ofInt (w64 (x * y)) := by rw [oL_w, Int64.ofInt_mul]
theorem oI_l {x : Int} (h : i32 x) : (Int32.ofInt x).toInt64 = Int64.ofInt x := by
  apply Int64.toInt.inj
  rw [Int32.toInt_toInt64, oI_to h, oL_to ⟨by unfold i32 at h; omega, by unfold i32 at h; omega⟩]
theorem oL_i (x : Int) : (Int64.ofInt x).toInt32 = Int32.ofInt (w32 x) := by rw [oI_w]; exact Int64.toInt32_ofInt
theorem oI_b (x : Int) : (Int32.ofInt x).toInt8.toInt32 = Int32.ofInt (o_i2b x) := by
  apply Int32.toInt.inj
  have h := i32_to ((Int32.ofInt x).toInt8.toInt32)
  rw [Int8.toInt_toInt32] at h ⊢
  exact (oI_to h).symm
theorem oL_cmp {x y : Int} (hx : i64 x) (hy : i64 y) : lg_cmp (Int64.ofInt x) (Int64.ofInt y) = Int32.ofInt (o_lcmp x y) := by
  unfold lg_cmp o_lcmp
  have h1 : (Int64.ofInt x > Int64.ofInt y) ↔ y < x := oL_lt hy hx
  simp only [h1, oL_inj hx hy]
  by_cases a : x < y
  · rw [if_neg (by omega), if_neg (by omega), if_pos a]; rfl
  · by_cases b : x = y
    · rw [if_neg (by omega), if_pos b, if_neg a, if_pos b]; rfl
    · rw [if_pos (by omega), if_neg a, if_neg b]; rfl
theorem ior_lcmp (x y : Int) : i32 (o_lcmp x y) := by unfold o_lcmp i32; split; omega; split <;> omega
theorem i2b_r (x : Int) : -128 ≤ o_i2b x ∧ o_i2b x < 128 := ⟨Int8.le_toInt _, Int8.toInt_lt _⟩
theorem nar_byte {x : Int} (h : -128 ≤ x ∧ x < 128) : vp_nar .byte (Int32.ofInt x) = Int32.ofInt x := by
  rw [vp_nar_byte]
  apply Int32.toInt.inj
  rw [Int8.toInt_toInt32, Int32.toInt_toInt8, oI_to ⟨by omega, by omega⟩]
  exact Int.bmod_eq_of_le (by omega) (by omega)
theorem nar_bool {x : Int} (h : 0 ≤ x ∧ x ≤ 1) : vp_nar .boolean (Int32.ofInt x) = Int32.ofInt x := by
  rcases (show x = 0 ∨ x = 1 by omega) with rfl | rfl <;> rfl
/-! the mini memory as cells of the heap -/
def srt (t : Nat) (j : Int) : Nat := if t = 4 then 0 else if t = 5 then 1 else if t = 6 then 3 else if t = 7 then 2 else (fty t).getD j.toNat 0
def okS (top : Int) (ty : Int → Nat) (f : Nat) (x : Int) : Prop := match f with
  | 0 => i32 x
  | 1 => i64 x
  | 2 => 0 ≤ x ∧ x ≤ 1
  | 3 => -128 ≤ x ∧ x < 128
  | t + 4 => x < 0 ∨ (x < top ∧ ty x = t + 4)
def okT (t : Nat) (n : Int) : Prop := (t = 4 ∨ t = 5 ∨ t = 6 ∨ t = 7) ∧ 0 ≤ n ∧ n ≤ 100000 ∨ (10 ≤ t ∧ t < 19) ∧ n = (fty t).length
def okM (μ : MM) : Prop := 0 ≤ gTop μ.1 ∧ ∀ a, 0 ≤ a → a < gTop μ.1 → okT (gTy μ.1 a) (gLn μ.1 a) ∧ ∀ j, 0 ≤ j → j < gLn μ.1 a → okS (gTop μ.1) (gTy μ.1) (srt (gTy μ.1 a) j) (μ.2 a j)
def okV (G : MG) (v : MV) : Prop := match v with
  | Sum.inl x => i32 x
  | Sum.inr (Sum.inl x) => i64 x
  | Sum.inr (Sum.inr (t, a)) => match t with
    | 0 => False
    | 1 => 0 ≤ a
    | 2 => 0 ≤ a ∧ a < 17
    | 3 => False
    | t + 4 => a < 0 ∨ (a < gTop G ∧ gTy G a = t + 4)
/-- b the script's cell; adK the texts'; ad the cells' -/
def toV (b : Nat) (adK : Nat → Nat) (ad : Nat → Nat) (v : MV) : Value := match v with
  | Sum.inl x => .int (Int32.ofInt x)
  | Sum.inr (Sum.inl x) => .long (Int64.ofInt x)
  | Sum.inr (Sum.inr (t, a)) => if a < 0 then .null else .ref (if t = 1 then b else if t = 2 then adK a.toNat else ad a.toNat)
def arrF (t : Nat) (f : Int → Int) : ((Nat → Int32) ⊕ (Nat → Int64) ⊕ (Nat → UInt32) ⊕ (Nat → UInt64) ⊕ (Nat → Option Nat)) := if t = 5 then .inr (.inl (fun j => Int64.ofInt (f j))) else .inl (fun j => Int32.ofInt (f j))
def fldsV (b : Nat) (adK ad : Nat → Nat) (l : List Nat) (f : Int → Int) : List Value := (List.range l.length).map fun j => toV b adK ad (ld (l.getD j 0) (f j))
def eltV (cA : Nat → ClassId) (b : Nat) (adK ad : Nat → Nat) (t : Nat) (n : Int) (f : Int → Int) : va_E := if t < 10 then .inl (cA t, n.toNat, arrF t f) else .inr (t - 10, fldsV b adK ad (fty t) f)
def wsV9 (cA : Nat → ClassId) (b : Nat) (adK ad : Nat → Nat) (μ : MM) : va_W := (List.range (gTop μ.1).toNat).map fun (k : Nat) => (ad k, eltV cA b adK ad (gTy μ.1 (k : Int)) (gLn μ.1 (k : Int)) (μ.2 (k : Int)))
section World
variable {cA : Nat → ClassId} {b : Nat} {adK ad : Nat → Nat}
theorem ws_at {μ : MM} {a : Int} (h0 : 0 ≤ a) (h1 : a < gTop μ.1) : (wsV9 cA b adK ad μ)[a.toNat]? = some (ad a.toNat, eltV cA b adK ad (gTy μ.1 a) (gLn μ.1 a) (μ.2 a)) := by
  unfold wsV9
  rw [List.getElem?_map, List.getElem?_range (by omega)]
  have e : ((a.toNat : Nat) : Int) = a := Int.toNat_of_nonneg h0
  simp only [Option.map_some, e]
theorem ws_ext {X Y : va_W} (h : ∀ k : Nat, X[k]? = Y[k]?) : X = Y := List.ext_getElem? h
/-- the world after one cell was changed -/
theorem ws_set {G : MG} {c c' : MC} {a : Int} (h0 : 0 ≤ a) (h1 : a < gTop G) {e : va_E} (he : e = eltV cA b adK ad (gTy G a) (gLn G a) (c' a)) (hc : ∀ k, k ≠ a → c' k = c k) :
    (wsV9 cA b adK ad (G, c)).set a.toNat (ad a.toNat, e) = wsV9 cA b adK ad (G, c') := by
  apply ws_ext
  intro k
  unfold wsV9
  rw [List.getElem?_set, List.getElem?_map, List.getElem?_map, List.length_map, List.length_range]
  by_cases hk : a.toNat = k
  · subst hk
    rw [if_pos rfl, if_pos (by dsimp only; omega), List.getElem?_range (by dsimp only; omega)]
    have e2 : ((a.toNat : Nat) : Int) = a := Int.toNat_of_nonneg h0
    simp only [Option.map_some, e2, he]
  · rw [if_neg hk]
    by_cases hl : k < (gTop G).toNat
    · rw [List.getElem?_range hl]
      simp only [Option.map_some]
      rw [hc (k : Int) (by omega)]
    · rw [List.getElem?_eq_none (by simp; omega)]
      rfl
theorem ws_up {G : MG} {c : MC} {a j v : Int} (h0 : 0 ≤ a) (h1 : a < gTop G) {e : va_E} (he : e = eltV cA b adK ad (gTy G a) (gLn G a) (fun j' => if j' = j then v else c a j')) :
    (wsV9 cA b adK ad (G, c)).set a.toNat (ad a.toNat, e) = wsV9 cA b adK ad (G, up c a j v) := by
  refine ws_set h0 h1 (he.trans ?_) (fun k hk => ?_)
  · congr 1; funext j'; unfold up; by_cases q : j' = j <;> simp [q]
  · funext j'; unfold up; rw [if_neg (by intro q; exact hk q.1)]
theorem flds_at {l : List Nat} {f : Int → Int} {j : Nat} (h : j < l.length) : (fldsV b adK ad l f)[j]? = some (toV b adK ad (ld (l.getD j 0) (f j))) := by
  unfold fldsV
  rw [List.getElem?_map, List.getElem?_range h]
  rfl
theorem flds_len {l : List Nat} {f : Int → Int} : (fldsV b adK ad l f).length = l.length := by simp [fldsV]
theorem flds_set {l : List Nat} {f : Int → Int} {j : Nat} (h : j < l.length) {v : Int} {w : Value} (hw : w = toV b adK ad (ld (l.getD j 0) v)) : (fldsV b adK ad l f).set j w = fldsV b adK ad l (fun j' => if j' = (j : Int) then v else f j') := by
  apply List.ext_getElem?
  intro k
  unfold fldsV
  rw [List.getElem?_set, List.getElem?_map, List.getElem?_map, List.length_map, List.length_range]
  by_cases hk : j = k
  · subst hk
    rw [if_pos rfl, if_pos h, List.getElem?_range h]
    simp [hw]
  · rw [if_neg hk]
    by_cases hl : k < l.length
    · rw [List.getElem?_range hl]
      simp only [Option.map_some]
      rw [if_neg (by omega)]
    · rw [List.getElem?_eq_none (by simp; omega)]
      rfl
theorem toV_ext {ad' : Nat → Nat} {G : MG} (hx : ∀ k : Nat, (k : Int) < gTop G → ad' k = ad k) {v : MV} (h : okV G v) : toV b adK ad' v = toV b adK ad v := by
  match v, h with
  | Sum.inl x, _ => rfl
  | Sum.inr (Sum.inl x), _ => rfl
  | Sum.inr (Sum.inr (t, a)), h =>
    unfold toV
    by_cases ha : a < 0
    · simp [ha]
    · simp only [ha, if_false]
      congr 1
      by_cases h1 : t = 1
      · simp [h1]
      · by_cases h2 : t = 2
        · simp [h2]
        · simp only [h1, h2, if_false]
          match t, h with
          | 0, h => exact h.elim
          | 3, h => exact h.elim
          | t + 4, h =>
            rcases h with h | h
            · omega
            · exact hx _ (by omega)
end World
