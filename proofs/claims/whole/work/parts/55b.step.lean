/-! the class's reader: one token on -/
def RD (G : MG) (c : MC) (tx : Int → Int) (e : Int) : Prop := (c 19 0 = 20) ∧ (c 19 1 = 21) ∧ (c 19 8 = 22) ∧ (c 19 9 = 23) ∧ (c 19 3 = e) ∧ (0 ≤ e ∧ e ≤ 700) ∧ (gLn G 20 = 8) ∧ (gLn G 21 = 700) ∧ (gLn G 22 = 9) ∧ (gLn G 23 = 9) ∧ (∀ j, 0 ≤ j → j < e → c 21 j = tx j) ∧ (∀ k, 0 ≤ k → k < 8 → c 20 k = lwc k)
section
variable {G : MG} {c c' : MC} {tx : Int → Int} {e : Int}
theorem RD.p0 (h : RD G c tx e) : c 19 0 = 20 := h.1
theorem RD.p1 (h : RD G c tx e) : c 19 1 = 21 := h.2.1
theorem RD.p8 (h : RD G c tx e) : c 19 8 = 22 := h.2.2.1
theorem RD.p9 (h : RD G c tx e) : c 19 9 = 23 := h.2.2.2.1
theorem RD.p3 (h : RD G c tx e) : c 19 3 = e := h.2.2.2.2.1
theorem RD.eb (h : RD G c tx e) : 0 ≤ e ∧ e ≤ 700 := h.2.2.2.2.2.1
theorem RD.l20 (h : RD G c tx e) : gLn G 20 = 8 := h.2.2.2.2.2.2.1
theorem RD.l21 (h : RD G c tx e) : gLn G 21 = 700 := h.2.2.2.2.2.2.2.1
theorem RD.l22 (h : RD G c tx e) : gLn G 22 = 9 := h.2.2.2.2.2.2.2.2.1
theorem RD.l23 (h : RD G c tx e) : gLn G 23 = 9 := h.2.2.2.2.2.2.2.2.2.1
theorem RD.txt (h : RD G c tx e) : ∀ j, 0 ≤ j → j < e → c 21 j = tx j := h.2.2.2.2.2.2.2.2.2.2.1
theorem RD.lw (h : RD G c tx e) : ∀ k, 0 ≤ k → k < 8 → c 20 k = lwc k := h.2.2.2.2.2.2.2.2.2.2.2
theorem RD.kp (h : RD G c tx e) (f : ∀ a j, (a = 19 ∧ (j ≤ 1 ∨ j = 3 ∨ j = 8 ∨ j = 9)) ∨ a = 20 ∨ a = 21 → c' a j = c a j) : RD G c' tx e := ⟨by rw [f _ _ (by omega)]; exact h.p0, by rw [f _ _ (by omega)]; exact h.p1, by rw [f _ _ (by omega)]; exact h.p8, by rw [f _ _ (by omega)]; exact h.p9, by rw [f _ _ (by omega)]; exact h.p3, h.eb, h.l20, h.l21, h.l22, h.l23, fun j a b => by rw [f _ _ (by omega)]; exact h.txt j a b, fun k a b => by rw [f _ _ (by omega)]; exact h.lw k a b⟩
/-- all but the token stays -/
def F4 (c c' : MC) : Prop := ∀ a j, ¬ (a = 19 ∧ 4 ≤ j ∧ j ≤ 7) → c' a j = c a j
theorem F4.rd (f : F4 c c') (h : RD G c tx e) : RD G c' tx e := h.kp (fun a j k => f a j (by omega))
theorem F4.up (f : F4 c c') {j v : Int} (h : 4 ≤ j ∧ j ≤ 7) : F4 c (up c' 19 j v) := fun a k hk => by rw [up_o (by omega)]; exact f a k hk
end
section
variable (d : Nat) (P : Int → MM → Prop) (P0 : MM → Prop) {G : MG} {c : MC} {tx : Int → Int} {e : Int}
theorem isLt_iff {j : Int} : isLt tx j = true ↔ (97 ≤ tx j ∧ tx j ≤ 122) := by unfold isLt; simp
theorem isD_iff {j : Int} : isD tx j = true ↔ (48 ≤ tx j ∧ tx j ≤ 57) := by unfold isD; simp
theorem isS_iff {j : Int} : isS tx j = true ↔ tx j = 32 := by unfold isS; simp
theorem l_tw (R : RD G c tx e) (p : Int) (p0 : 0 ≤ p) (hP : ∀ c', F4 c c' → c' 19 4 = le9 tx e p → c' 19 6 = p → c' 19 5 = (if le9 tx e p - p ≤ 8 then 1 else 4) → (le9 tx e p - p ≤ 8 → c' 19 7 = cR 27 (lts tx p (le9 tx e p - p).toNat)) → P0 (G, c')) : ∀ (k : Nat) (q : Int) (c0 : MC), p ≤ q → q + k = e → rnF (isLt tx) k q = le9 tx e p → (∀ j, p ≤ j → j < q → isLt tx j = true) → F4 c c0 → c0 19 4 = q → c0 19 6 = p → (q - p ≤ 8 → c0 19 7 = cR 27 (lts tx p (q - p).toNat)) → At (d + 1) mX5_takeWord 5 [mR 12 19] [] (G, c0) (QV P0) := by
  have he := R.eb
  intro k
  induction k with
  | zero =>
    intro q c0 pq hq hr hL F h4 h6 h7
    have R0 := F.rd R
    simp only [rnF] at hr
    have fin : ∀ v, v = (if le9 tx e p - p ≤ 8 then (1 : Int) else 4) → P0 (G, up c0 19 5 v) := fun v hv => by
      refine hP _ (F.up (by omega)) ?_ ?_ ?_ (fun h => ?_)
      · rw [up_nj (by decide), h4, hr]
      · rw [up_nj (by decide), h6]
      · rw [up_eq, hv]
      · rw [up_nj (by decide), ← hr]; exact h7 (by omega)
    apply wp_X5_takeWord_5
    rw [h4, h6, R0.p3, if_neg (by omega), w32i (by omega) (by omega), hr]
    refine ⟨by decide, by decide, by decide, by decide, ?_⟩
    by_cases hh : le9 tx e p - p ≤ 8
    · rw [if_neg (by omega)]
      refine ⟨by decide, ?_⟩
      rintro _ rfl
      exact fin 1 (by rw [if_pos hh])
    · rw [if_pos (by omega)]
      refine ⟨by decide, ?_⟩
      rintro _ rfl
      exact fin 4 (by rw [if_neg hh])
  | succ k ih =>
    intro q c0 pq hq hr hL F h4 h6 h7
    have R0 := F.rd R
    simp only [rnF] at hr
    apply wp_X5_takeWord_5
    simp only [h4, h6, R0.p3, R0.p1, R0.l21, R0.txt q (by omega) (by omega)]
    rw [if_pos (by omega), w32i (show -2147483648 ≤ q - p by omega) (by omega)]
    refine ⟨by decide, by decide, by decide, by decide, ⟨by decide, by omega, by omega⟩, ?_⟩
    by_cases hl : isLt tx q = true
    · rw [if_pos hl] at hr
      have hl' := isLt_iff.1 hl
      rw [if_neg (by omega)]
      refine ⟨by decide, by decide, ⟨by decide, by omega, by omega⟩, ?_⟩
      rw [if_neg (by omega)]
      refine ⟨by decide, by decide, by decide, ⟨by decide, by omega, by omega⟩, by decide, ?_⟩
      rintro _ rfl
      refine ⟨by decide, by decide, ?_⟩
      rintro _ rfl
      rw [up_nj (by decide), h4, w32i (by omega) (by omega)]
      refine ih (q + 1) _ (by omega) (by omega) hr (fun j a b => ?_) ((F.up (by omega)).up (by omega)) up_eq (by rw [up_nj (by decide), up_nj (by decide), h6]) (fun h => ?_)
      · by_cases ej : j = q
        · rw [ej]; exact hl
        · exact hL j a (by omega)
      · rw [up_nj (by decide), up_eq, h7 (by omega), show (q + 1 - p).toNat = (q - p).toNat + 1 by omega, lts_succ, show p + ((q - p).toNat : Int) = q by omega]
        simp only [cR]
        obtain ⟨b1, b2⟩ := lts_ltr (tx := tx) (p := p) (q - p).toNat (fun j a b => hL j a (by omega))
        have b3 := cR_rg (b := 27) (by decide) b1
        rw [b2] at b3
        have b4 := (bb_le (q - p).toNat (by omega)).1
        rw [w64i (show -9223372036854775808 ≤ cR 27 (lts tx p (q - p).toNat) * 27 by omega) (by omega), w64i (show -9223372036854775808 ≤ cR 27 (lts tx p (q - p).toNat) * 27 + tx q by omega) (by omega), w64i (show -9223372036854775808 ≤ cR 27 (lts tx p (q - p).toNat) * 27 + tx q - 97 by omega) (by omega), w64i (show -9223372036854775808 ≤ cR 27 (lts tx p (q - p).toNat) * 27 + tx q - 97 + 1 by omega) (by omega)]
        omega
    · rw [if_neg hl] at hr
      have fin : ∀ v, v = (if le9 tx e p - p ≤ 8 then (1 : Int) else 4) → P0 (G, up c0 19 5 v) := fun v hv => by
        refine hP _ (F.up (by omega)) ?_ ?_ ?_ (fun h => ?_)
        · rw [up_nj (by decide), h4, hr]
        · rw [up_nj (by decide), h6]
        · rw [up_eq, hv]
        · rw [up_nj (by decide), ← hr]; exact h7 (by omega)
      have fin2 : (if (8 : Int) < q - p then 0 ≤ (19 : Int) ∧ ∀ c1, c1 = up c0 19 5 4 → P0 (G, c1) else 0 ≤ (19 : Int) ∧ ∀ c2, c2 = up c0 19 5 1 → P0 (G, c2)) := by
        by_cases hh : le9 tx e p - p ≤ 8
        · rw [if_neg (by omega)]
          refine ⟨by decide, ?_⟩
          rintro _ rfl
          exact fin 1 (by rw [if_pos hh])
        · rw [if_pos (by omega)]
          refine ⟨by decide, ?_⟩
          rintro _ rfl
          exact fin 4 (by rw [if_neg hh])
      have hl' : ¬ (97 ≤ tx q ∧ tx q ≤ 122) := fun h => hl (isLt_iff.2 h)
      by_cases h97 : tx q < 97
      · rw [if_pos h97]
        exact ⟨by decide, by decide, fin2⟩
      · rw [if_neg h97, if_pos (by omega)]
        exact ⟨by decide, by decide, ⟨by decide, by omega, by omega⟩, by decide, by decide, fin2⟩
theorem l_tn (R : RD G c tx e) (p : Int) (p0 : 0 ≤ p) (hP : ∀ c', F4 c c' → c' 19 4 = de9 tx e p → c' 19 6 = p → c' 19 5 = (if de9 tx e p - p ≤ 3 then 2 else 4) → (de9 tx e p - p ≤ 3 → c' 19 7 = nmb tx p (de9 tx e p - p).toNat) → P0 (G, c')) : ∀ (k : Nat) (q : Int) (c0 : MC), p ≤ q → q + k = e → rnF (isD tx) k q = de9 tx e p → (∀ j, p ≤ j → j < q → isD tx j = true) → F4 c c0 → c0 19 4 = q → c0 19 6 = p → (q - p ≤ 3 → c0 19 7 = nmb tx p (q - p).toNat) → At (d + 1) mX5_takeWhole 5 [mR 12 19] [] (G, c0) (QV P0) := by
  have he := R.eb
  intro k
  induction k with
  | zero =>
    intro q c0 pq hq hr hL F h4 h6 h7
    have R0 := F.rd R
    simp only [rnF] at hr
    have fin : ∀ v, v = (if de9 tx e p - p ≤ 3 then (2 : Int) else 4) → P0 (G, up c0 19 5 v) := fun v hv => by
      refine hP _ (F.up (by omega)) ?_ ?_ ?_ (fun h => ?_)
      · rw [up_nj (by decide), h4, hr]
      · rw [up_nj (by decide), h6]
      · rw [up_eq, hv]
      · rw [up_nj (by decide), ← hr]; exact h7 (by omega)
    apply wp_X5_takeWhole_5
    rw [h4, h6, R0.p3, if_neg (by omega), w32i (by omega) (by omega), hr]
    refine ⟨by decide, by decide, by decide, by decide, ?_⟩
    by_cases hh : de9 tx e p - p ≤ 3
    · rw [if_neg (by omega)]
      refine ⟨by decide, ?_⟩
      rintro _ rfl
      exact fin 2 (by rw [if_pos hh])
    · rw [if_pos (by omega)]
      refine ⟨by decide, ?_⟩
      rintro _ rfl
      exact fin 4 (by rw [if_neg hh])
  | succ k ih =>
    intro q c0 pq hq hr hL F h4 h6 h7
    have R0 := F.rd R
    simp only [rnF] at hr
    apply wp_X5_takeWhole_5
    simp only [h4, h6, R0.p3, R0.p1, R0.l21, R0.txt q (by omega) (by omega)]
    rw [if_pos (by omega), w32i (show -2147483648 ≤ q - p by omega) (by omega)]
    refine ⟨by decide, by decide, by decide, by decide, ⟨by decide, by omega, by omega⟩, ?_⟩
    by_cases hl : isD tx q = true
    · rw [if_pos hl] at hr
      have hl' := isD_iff.1 hl
      rw [if_neg (by omega)]
      refine ⟨by decide, by decide, ⟨by decide, by omega, by omega⟩, ?_⟩
      rw [if_neg (by omega)]
      refine ⟨by decide, by decide, by decide, ⟨by decide, by omega, by omega⟩, by decide, ?_⟩
      rintro _ rfl
      refine ⟨by decide, by decide, ?_⟩
      rintro _ rfl
      rw [up_nj (by decide), h4, w32i (by omega) (by omega)]
      refine ih (q + 1) _ (by omega) (by omega) hr (fun j a b => ?_) ((F.up (by omega)).up (by omega)) up_eq (by rw [up_nj (by decide), up_nj (by decide), h6]) (fun h => ?_)
      · by_cases ej : j = q
        · rw [ej]; exact hl
        · exact hL j a (by omega)
      · rw [up_nj (by decide), up_eq, h7 (by omega), show (q + 1 - p).toNat = (q - p).toNat + 1 by omega, nmb_succ, show p + ((q - p).toNat : Int) = q by omega]
        have b3 := nmb_rg (tx := tx) (p := p) (q - p).toNat (fun j a b => hL j a (by omega))
        have b4 := b3.2.2.2 (by omega)
        have b5 := b3.1
        rw [w64i (show -9223372036854775808 ≤ nmb tx p (q - p).toNat * 10 by omega) (by omega), w64i (show -9223372036854775808 ≤ nmb tx p (q - p).toNat * 10 + tx q by omega) (by omega), w64i (show -9223372036854775808 ≤ nmb tx p (q - p).toNat * 10 + tx q - 48 by omega) (by omega)]
        omega
    · rw [if_neg hl] at hr
      have fin : ∀ v, v = (if de9 tx e p - p ≤ 3 then (2 : Int) else 4) → P0 (G, up c0 19 5 v) := fun v hv => by
        refine hP _ (F.up (by omega)) ?_ ?_ ?_ (fun h => ?_)
        · rw [up_nj (by decide), h4, hr]
        · rw [up_nj (by decide), h6]
        · rw [up_eq, hv]
        · rw [up_nj (by decide), ← hr]; exact h7 (by omega)
      have fin2 : (if (3 : Int) < q - p then 0 ≤ (19 : Int) ∧ ∀ c1, c1 = up c0 19 5 4 → P0 (G, c1) else 0 ≤ (19 : Int) ∧ ∀ c2, c2 = up c0 19 5 2 → P0 (G, c2)) := by
        by_cases hh : de9 tx e p - p ≤ 3
        · rw [if_neg (by omega)]
          refine ⟨by decide, ?_⟩
          rintro _ rfl
          exact fin 2 (by rw [if_pos hh])
        · rw [if_pos (by omega)]
          refine ⟨by decide, ?_⟩
          rintro _ rfl
          exact fin 4 (by rw [if_neg hh])
      have hl' : ¬ (48 ≤ tx q ∧ tx q ≤ 57) := fun h => hl (isD_iff.2 h)
      by_cases h97 : tx q < 48
      · rw [if_pos h97]
        exact ⟨by decide, by decide, fin2⟩
      · rw [if_neg h97, if_pos (by omega)]
        exact ⟨by decide, by decide, ⟨by decide, by omega, by omega⟩, by decide, by decide, fin2⟩
/-- the token at p, as the class holds it -/
def TK (c : MC) (tx : Int → Int) (e p : Int) : Prop := c 19 4 = en tx e p ∧ c 19 5 = kd tx e p ∧ c 19 6 = p ∧ (kd tx e p = 1 ∨ kd tx e p = 2 → c 19 7 = va tx e p) ∧ (0 ≤ p ∧ p ≤ e)
theorem l_st38 (R : RD G c tx e) (p : Int) (p0 : 0 ≤ p) (p1 : p ≤ e) (h4 : c 19 4 = p) (hP : ∀ c', F4 c c' → TK c' tx e p → P0 (G, c')) : At (d + 2) mX5_step 38 [mR 12 19] [] (G, c) (QV P0) := by
  have he := R.eb
  have F1 : F4 c (up c 19 6 p) := F4.up (fun _ _ _ => rfl) (by omega)
  have R1 := F1.rd R
  have e4 : up c 19 6 p 19 4 = p := by rw [up_nj (by decide)]; exact h4
  apply wp_X5_step_38
  refine ⟨by decide, by decide, ?_⟩
  rw [h4]
  rintro c1 hc1
  have hc1' : c1 = up c 19 6 p := hc1
  clear hc1
  subst hc1'
  rw [e4, R1.p3]
  refine ⟨by decide, by decide, ?_⟩
  by_cases h0 : e ≤ p
  · rw [if_neg (by omega)]
    refine ⟨by decide, ?_⟩
    rintro _ rfl
    refine hP _ (F1.up (by omega)) ⟨?_, ?_, ?_, fun h => ?_, p0, p1⟩
    · rw [up_nj (by decide), e4]; unfold en; rw [if_pos h0]
    · rw [up_eq]; unfold kd; rw [if_pos h0]
    · rw [up_nj (by decide), up_eq]
    · unfold kd at h; rw [if_pos h0] at h; omega
  · have ht := R1.txt p p0 (by omega)
    have bd : 0 ≤ (21 : Int) ∧ 0 ≤ p ∧ p < gLn G 21 := ⟨by decide, p0, by rw [R.l21]; omega⟩
    simp only [R1.p1, ht]
    rw [if_pos (by omega)]
    refine ⟨by decide, by decide, bd, ?_⟩
    have k4 : ∀ (hs : tx p ≠ 59) (hl : isLt tx p ≠ true) (hd : isD tx p ≠ true), P0 (G, up (up c 19 6 p) 19 5 4) := fun hs hl hd => by
      have ek : kd tx e p = 4 := by unfold kd; rw [if_neg h0, if_neg hs, if_neg hl, if_neg hd]
      refine hP _ (F1.up (by omega)) ⟨?_, ?_, ?_, fun h => ?_, p0, p1⟩
      · rw [up_nj (by decide), e4]; unfold en; rw [if_neg h0, if_neg hs, if_neg hl, if_neg hd]
      · rw [up_eq, ek]
      · rw [up_nj (by decide), up_eq]
      · omega
    have kw : ∀ (hs : tx p ≠ 59) (hl : isLt tx p = true), EvV (d + 1) mX5_takeWord [mR 12 19] (G, up c 19 6 p) (fun ν => P0 (ν.1, ν.2)) := fun hs hl => by
      refine ev_X5_takeWord d _ G _ 19 (by decide) ⟨by decide, ?_⟩
      rintro _ rfl
      refine l_tw d _ R1 p p0 (fun c' F a4 a6 a5 a7 => hP c' (fun x j hj => (F x j hj).trans (F1 x j hj)) ⟨?_, ?_, a6, fun h => ?_, p0, p1⟩) (e - p).toNat p _ (by omega) (by omega) rfl (fun j a b => by omega) (F4.up (fun _ _ _ => rfl) (by omega)) (by rw [up_nj (by decide)]; exact e4) (by rw [up_nj (by decide), up_eq]) (fun _ => by rw [up_eq, show (p - p).toNat = 0 by omega]; rfl)
      · rw [a4]; unfold en; rw [if_neg h0, if_neg hs, if_pos hl]
      · rw [a5]; unfold kd; rw [if_neg h0, if_neg hs, if_pos hl]
      · have hk : kd tx e p = if le9 tx e p - p ≤ 8 then 1 else 4 := by unfold kd; rw [if_neg h0, if_neg hs, if_pos hl]
        by_cases h8 : le9 tx e p - p ≤ 8
        · rw [if_pos h8] at hk
          rw [a7 h8]; unfold va; rw [if_pos hk]
        · rw [if_neg h8] at hk; omega
    have kn : ∀ (hs : tx p ≠ 59) (hl : isLt tx p ≠ true) (hd : isD tx p = true), EvV (d + 1) mX5_takeWhole [mR 12 19] (G, up c 19 6 p) (fun ν => P0 (ν.1, ν.2)) := fun hs hl hd => by
      refine ev_X5_takeWhole d _ G _ 19 (by decide) ⟨by decide, ?_⟩
      rintro _ rfl
      refine l_tn d _ R1 p p0 (fun c' F a4 a6 a5 a7 => hP c' (fun x j hj => (F x j hj).trans (F1 x j hj)) ⟨?_, ?_, a6, fun h => ?_, p0, p1⟩) (e - p).toNat p _ (by omega) (by omega) rfl (fun j a b => by omega) (F4.up (fun _ _ _ => rfl) (by omega)) (by rw [up_nj (by decide)]; exact e4) (by rw [up_nj (by decide), up_eq]) (fun _ => by rw [up_eq, show (p - p).toNat = 0 by omega]; rfl)
      · rw [a4]; unfold en; rw [if_neg h0, if_neg hs, if_neg hl, if_pos hd]
      · rw [a5]; unfold kd; rw [if_neg h0, if_neg hs, if_neg hl, if_pos hd]
      · have hk : kd tx e p = if de9 tx e p - p ≤ 3 then 2 else 4 := by unfold kd; rw [if_neg h0, if_neg hs, if_neg hl, if_pos hd]
        by_cases h8 : de9 tx e p - p ≤ 3
        · rw [if_pos h8] at hk
          rw [a7 h8]; unfold va; rw [if_neg (by omega), if_pos hk]
        · rw [if_neg h8] at hk; omega
    by_cases hs : tx p = 59
    · rw [if_pos hs]
      refine ⟨by decide, ?_⟩
      rintro _ rfl
      refine ⟨by decide, by decide, ?_⟩
      rintro _ rfl
      rw [up_nj (by decide), e4, w32i (by omega) (by omega)]
      have ek : kd tx e p = 3 := by unfold kd; rw [if_neg h0, if_pos hs]
      refine hP _ ((F1.up (by omega)).up (by omega)) ⟨?_, ?_, ?_, fun h => ?_, p0, p1⟩
      · rw [up_eq]; unfold en; rw [if_neg h0, if_pos hs]
      · rw [up_nj (by decide), up_eq, ek]
      · rw [up_nj (by decide), up_nj (by decide), up_eq]
      · omega
    · rw [if_neg hs]
      refine ⟨by decide, by decide, bd, ?_⟩
      by_cases hl : isLt tx p = true
      · have hl' := isLt_iff.1 hl
        rw [if_neg (by omega)]
        refine ⟨by decide, by decide, bd, ?_⟩
        rw [if_neg (by omega)]
        exact kw hs hl
      · have hl' : ¬ (97 ≤ tx p ∧ tx p ≤ 122) := fun h => hl (isLt_iff.2 h)
        have tail : (if tx p < 48 then 0 ≤ (19 : Int) ∧ ∀ c4, c4 = up (up c 19 6 p) 19 5 4 → P0 (G, c4) else 0 ≤ (19 : Int) ∧ 0 ≤ (19 : Int) ∧ (0 ≤ (21 : Int) ∧ 0 ≤ p ∧ p < gLn G 21) ∧ (if (57 : Int) < tx p then 0 ≤ (19 : Int) ∧ ∀ c5, c5 = up (up c 19 6 p) 19 5 4 → P0 (G, c5) else EvV (d + 1) mX5_takeWhole [mR 12 19] (G, up c 19 6 p) (fun ν6 => P0 (ν6.1, ν6.2)))) := by
          by_cases hd : isD tx p = true
          · have hd' := isD_iff.1 hd
            rw [if_neg (by omega), if_neg (by omega)]
            exact ⟨by decide, by decide, bd, kn hs hl hd⟩
          · have hd' : ¬ (48 ≤ tx p ∧ tx p ≤ 57) := fun h => hd (isD_iff.2 h)
            by_cases h48 : tx p < 48
            · rw [if_pos h48]
              refine ⟨by decide, ?_⟩
              rintro _ rfl
              exact k4 hs hl hd
            · rw [if_neg h48, if_pos (by omega)]
              refine ⟨by decide, by decide, bd, by decide, ?_⟩
              rintro _ rfl
              exact k4 hs hl hd
        by_cases h97 : tx p < 97
        · rw [if_pos h97]
          exact ⟨by decide, by decide, bd, tail⟩
        · rw [if_neg h97, if_pos (by omega)]
          exact ⟨by decide, by decide, bd, by decide, by decide, bd, tail⟩
theorem l_st0 (R : RD G c tx e) (r : Int) (hr1 : r ≤ e) (hP : ∀ c', F4 c c' → TK c' tx e r → P0 (G, c')) : ∀ (k : Nat) (q : Int) (c0 : MC), 0 ≤ q → q + k = e → rnF (isS tx) k q = r → F4 c c0 → c0 19 4 = q → (0 ≤ (19 : Int) ∧ 0 ≤ (19 : Int) ∧ (if (c0 19 4) < (c0 19 3) then 0 ≤ (19 : Int) ∧ 0 ≤ (19 : Int) ∧ (0 ≤ (c0 19 1) ∧ 0 ≤ (c0 19 4) ∧ (c0 19 4) < gLn G (c0 19 1)) ∧ (if (c0 (c0 19 1) (c0 19 4)) = 32 then 0 ≤ (19 : Int) ∧ 0 ≤ (19 : Int) ∧ ∀ c1, c1 = up c0 19 4 (w32 ((c0 19 4) + 1)) → At (d + 2) mX5_step 0 [mR 12 19] [] (G, c1) (QV P0) else At (d + 2) mX5_step 38 [mR 12 19] [] (G, c0) (QV P0)) else At (d + 2) mX5_step 38 [mR 12 19] [] (G, c0) (QV P0))) := by
  have he := R.eb
  intro k
  induction k with
  | zero =>
    intro q c0 q0 hq hr F h4
    have R0 := F.rd R
    simp only [rnF] at hr
    rw [h4, R0.p3, if_neg (by omega)]
    subst hr
    exact ⟨by decide, by decide, l_st38 d P0 R0 q q0 (by omega) h4 (fun c' F' T => hP c' (fun x j hj => (F' x j hj).trans (F x j hj)) T)⟩
  | succ k ih =>
    intro q c0 q0 hq hr F h4
    have R0 := F.rd R
    simp only [rnF] at hr
    simp only [h4, R0.p3, R0.p1, R0.l21, R0.txt q q0 (by omega)]
    rw [if_pos (by omega)]
    refine ⟨by decide, by decide, by decide, by decide, ⟨by decide, q0, by omega⟩, ?_⟩
    by_cases hs : isS tx q = true
    · rw [if_pos hs] at hr
      rw [if_pos (isS_iff.1 hs)]
      refine ⟨by decide, by decide, ?_⟩
      rintro _ rfl
      rw [w32i (by omega) (by omega)]
      apply wp_X5_step_0
      exact ih (q + 1) _ (by omega) (by omega) hr (F.up (by omega)) up_eq
    · rw [if_neg hs] at hr
      rw [if_neg (fun h => hs (isS_iff.2 h))]
      subst hr
      exact l_st38 d P0 R0 q q0 (by omega) h4 (fun c' F' T => hP c' (fun x j hj => (F' x j hj).trans (F x j hj)) T)
theorem f_step (R : RD G c tx e) (q : Int) (q0 : 0 ≤ q) (q1 : q ≤ e) (h4 : c 19 4 = q) (hP : ∀ c', F4 c c' → TK c' tx e (sk tx e q) → P0 (G, c')) : EvV (d + 2) mX5_step [mR 12 19] (G, c) P0 :=
  ev_X5_step (d + 1) _ G c 19 (by decide) (l_st0 d P0 R _ (sk_rg q1).2 hP (e - q).toNat q c q0 (by omega) rfl (fun _ _ _ => rfl) h4)
/-- words of the language -/
theorem q_len {a : Int} (a0 : 0 ≤ a) (a1 : a < 17) : EvI d 1004 [mR 2 a] (G, c) P = P ((nth [] jsT a.toNat).length : Int) (G, c) := by
  refine evI_eq ⟨0, some (mI ((nth [] jsT a.toNat).length : Int)), (G, c), fun n _ => ?_, ⟨rfl, rfl⟩⟩ P
  unfold enter
  rw [if_neg (by decide), if_pos rfl]
  simp only [mR]
  rw [if_pos ⟨a0, a1⟩]
theorem q_chr {a i : Int} (a0 : 0 ≤ a) (a1 : a < 17) (i0 : 0 ≤ i) (i1 : i < ((nth [] jsT a.toNat).length : Int)) : EvI d 1005 [mR 2 a, mI i] (G, c) P = P (nth 0 (nth [] jsT a.toNat) i.toNat) (G, c) := by
  refine evI_eq ⟨0, some (mI (nth 0 (nth [] jsT a.toNat) i.toNat)), (G, c), fun n _ => ?_, ⟨rfl, rfl⟩⟩ P
  unfold enter
  rw [if_neg (by decide), if_neg (by decide), if_pos rfl]
  simp only [mR, mI]
  rw [if_pos ⟨a0, a1, i0, i1⟩]
def wd27 (a : Int) : Int := cR 27 ((nth [] jsT a.toNat).map (fun x => x - 96)).reverse
def wd32 (a : Int) : Int := cR 32 ((nth [] jsT a.toNat).map (fun x => x - 96)).reverse
def fo27 (a : Int) : Int := fo (fun i s => w64 ((w64 ((w64 ((w64 (s * 27)) + nth 0 (nth [] jsT a.toNat) i.toNat)) - 97)) + 1)) (nth [] jsT a.toNat).length 0 0
def fo32 (a : Int) : Int := fo (fun i s => w64 ((w64 (32 * s)) + (w32 ((w32 (nth 0 (nth [] jsT a.toNat) i.toNat - 97)) + 1)))) (nth [] jsT a.toNat).length 0 0
theorem wd_chk : alln 17 (fun a => decide (fo27 (a : Int) = wd27 (a : Int)) && decide (fo32 (a : Int) = wd32 (a : Int)) && (((nth [] jsT a).map (fun x => x - 96)).reverse).all (fun x => decide (1 ≤ x) && decide (x ≤ 26)) && decide ((nth [] jsT a).length ≤ 8)) = true := by decide +kernel
theorem wd_all {a : Int} (a0 : 0 ≤ a) (a1 : a < 17) : fo27 a = wd27 a ∧ fo32 a = wd32 a ∧ Nm (wd27 a) (wd32 a) ∧ (nth [] jsT a.toNat).length ≤ 8 := by
  obtain ⟨k, rfl⟩ := Int.eq_ofNat_of_zero_le a0
  have := alln_at wd_chk k (by omega)
  simp only [Bool.and_eq_true, decide_eq_true_eq, List.all_eq_true] at this
  refine ⟨this.1.1.1, this.1.1.2, ⟨_, fun x hx => ?_, rfl, rfl⟩, this.2⟩
  have := this.1.2 x hx
  exact this
theorem l_coded {a : Int} (a0 : 0 ≤ a) (a1 : a < 17) (hP : P (fo27 a) (G, c)) : ∀ (j : Nat) (i s : Int), 0 ≤ i → i + j = ((nth [] jsT a.toNat).length : Int) → fo (fun i s => w64 ((w64 ((w64 ((w64 (s * 27)) + nth 0 (nth [] jsT a.toNat) i.toNat)) - 97)) + 1)) j i s = fo27 a → At (d + 1) mX5_coded 4 [mR 2 a, mL s, MU, mI i] [] (G, c) (QL P) := by
  have hl := (wd_all a0 a1).2.2.2
  intro j
  induction j with
  | zero =>
    intro i s i0 hi e
    simp only [fo] at e
    apply wp_X5_coded_4
    rw [q_len d _ a0 a1, if_neg (by omega), e]
    exact hP
  | succ j ih =>
    intro i s i0 hi e
    simp only [fo] at e
    apply wp_X5_coded_4
    rw [q_len d _ a0 a1, if_pos (by omega)]
    dsimp only
    rw [q_chr d _ a0 a1 i0 (by omega), w32i (by omega) (by omega)]
    exact ih _ _ (by omega) (by omega) e
theorem q_coded {a : Int} (a0 : 0 ≤ a) (a1 : a < 17) : EvL (d + 1) mX5_coded [mR 2 a] (G, c) P = P (wd27 a) (G, c) := by
  rw [← (wd_all a0 a1).1]
  exact evL_eq (ev_X5_coded d _ G c a (l_coded d _ a0 a1 ⟨rfl, rfl⟩ _ 0 0 (by decide) (by omega) rfl)) P
theorem l_packed {a : Int} (a0 : 0 ≤ a) (a1 : a < 17) (hP : P (fo32 a) (G, c)) : ∀ (j : Nat) (i s : Int), 0 ≤ i → i + j = ((nth [] jsT a.toNat).length : Int) → fo (fun i s => w64 ((w64 (32 * s)) + (w32 ((w32 (nth 0 (nth [] jsT a.toNat) i.toNat - 97)) + 1)))) j i s = fo32 a → At (d + 1) mX12_packed 4 [mR 2 a, mL s, MU, mI i] [] (G, c) (QL P) := by
  have hl := (wd_all a0 a1).2.2.2
  intro j
  induction j with
  | zero =>
    intro i s i0 hi e
    simp only [fo] at e
    apply wp_X12_packed_4
    rw [q_len d _ a0 a1, if_neg (by omega), e]
    exact hP
  | succ j ih =>
    intro i s i0 hi e
    simp only [fo] at e
    apply wp_X12_packed_4
    rw [q_len d _ a0 a1, if_pos (by omega)]
    dsimp only
    rw [q_chr d _ a0 a1 i0 (by omega), w32i (show -2147483648 ≤ i + 1 by omega) (by omega)]
    exact ih _ _ (by omega) (by omega) e
theorem q_packed {a : Int} (a0 : 0 ≤ a) (a1 : a < 17) : EvL (d + 1) mX12_packed [mR 2 a] (G, c) P = P (wd32 a) (G, c) := by
  rw [← (wd_all a0 a1).2.1]
  exact evL_eq (ev_X12_packed d _ G c a (l_packed d _ a0 a1 ⟨rfl, rfl⟩ _ 0 0 (by decide) (by omega) rfl)) P
theorem lcmp_eq {a b : Int} : o_lcmp a b = 0 ↔ a = b := by
  unfold o_lcmp
  repeat' split
  all_goals simp_all
  all_goals omega
theorem q_isWord {p : Int} (T : TK c tx e p) {a : Int} (a0 : 0 ≤ a) (a1 : a < 17) : EvI (d + 2) mX5_isWord [mR 12 19, mR 2 a] (G, c) P = P (if kd tx e p = 1 ∧ va tx e p = wd27 a then 1 else 0) (G, c) := by
  refine evI_eq (ev_X5_isWord (d + 1) _ G c 19 a (by decide) ⟨by decide, ?_⟩) P
  rw [T.2.1]
  by_cases h : kd tx e p = 1
  · rw [if_pos h, q_coded d _ a0 a1, T.2.2.2.1 (Or.inl h)]
    refine ⟨by decide, ?_⟩
    by_cases h2 : va tx e p = wd27 a
    · rw [if_pos (lcmp_eq.2 h2), if_pos ⟨h, h2⟩]
      exact ⟨⟨by decide, by decide⟩, rfl, rfl⟩
    · rw [if_neg (fun k => h2 (lcmp_eq.1 k)), if_neg (fun k => h2 k.2)]
      exact ⟨⟨by decide, by decide⟩, rfl, rfl⟩
  · rw [if_neg h, if_neg (fun k => h k.1)]
    exact ⟨⟨by decide, by decide⟩, rfl, rfl⟩
end
