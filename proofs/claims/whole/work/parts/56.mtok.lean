/-! the reference's reader: one token on -/
def MT (G : MG) (c : MC) (tx : Int → Int) (e : Int) : Prop := (c 62 5 = 63) ∧ (c 62 7 = e) ∧ (0 ≤ e ∧ e ≤ 700) ∧ (gLn G 63 = 700) ∧ (∀ j, 0 ≤ j → j < e → c 63 j = tx j ∧ -128 ≤ tx j ∧ tx j < 128)
section
variable {G : MG} {c c' : MC} {tx : Int → Int} {e : Int}
theorem MT.kp (h : MT G c tx e) (f : ∀ a j, (a = 62 ∧ (j = 5 ∨ j = 7)) ∨ a = 63 → c' a j = c a j) : MT G c' tx e := ⟨by rw [f _ _ (by omega)]; exact h.1, by rw [f _ _ (by omega)]; exact h.2.1, h.2.2.1, h.2.2.2.1, fun j a b => by rw [f _ _ (by omega)]; exact h.2.2.2.2 j a b⟩
/-- all but the token stays -/
def F8 (c c' : MC) : Prop := ∀ a j, ¬ (a = 62 ∧ (8 ≤ j ∧ j ≤ 11 ∨ j = 14)) → c' a j = c a j
theorem F8.mt (f : F8 c c') (h : MT G c tx e) : MT G c' tx e := h.kp (fun a j k => f a j (by omega))
theorem F8.up (f : F8 c c') {j v : Int} (h : 8 ≤ j ∧ j ≤ 11 ∨ j = 14) : F8 c (up c' 62 j v) := fun a k hk => by rw [up_o (by omega)]; exact f a k hk
theorem F8.tr {c'' : MC} (f : F8 c c') (g : F8 c' c'') : F8 c c'' := fun a j h => (g a j h).trans (f a j h)
end
def by9 (tx : Int → Int) (e q : Int) : Int := if q < e then (if tx q < 0 then tx q + 256 else tx q) else -1
theorem and255_chk : alln 256 (fun k => decide (o_and ((k : Int) - 128) 255 = if (k : Int) - 128 < 0 then (k : Int) - 128 + 256 else (k : Int) - 128)) = true := by decide +kernel
theorem and255 {x : Int} (h0 : -128 ≤ x) (h1 : x < 128) : o_and x 255 = if x < 0 then x + 256 else x := by
  obtain ⟨k, hk⟩ := Int.eq_ofNat_of_zero_le (show 0 ≤ x + 128 by omega)
  have := alln_at and255_chk k (by omega)
  simp only [decide_eq_true_eq] at this
  rw [show (k : Int) - 128 = x by omega] at this
  exact this
def sg (k : Int) : Int := if k = 0 then 1 else if k = 1 then 2 else if k = 2 then 3 else if k = 3 then 4 else 0
/-- the token at p, as the reference holds it -/
def TN (c : MC) (tx : Int → Int) (e p : Int) : Prop := c 62 8 = en tx e p ∧ c 62 9 = sg (kd tx e p) ∧ c 62 10 = p ∧ (kd tx e p = 1 → c 62 14 = v32 tx e p) ∧ (kd tx e p = 2 → c 62 11 = va tx e p) ∧ (0 ≤ p ∧ p ≤ e)
section
variable (d : Nat) (P : Int → MM → Prop) (P0 : MM → Prop) {G : MG} {c : MC} {tx : Int → Int} {e p : Int}
theorem q_byteAt (M : MT G c tx e) (q : Int) (q0 : 0 ≤ q) : EvI (d + 1) mX12_byteAt [mR 18 62, mI q] (G, c) P = P (by9 tx e q) (G, c) := by
  refine evI_eq (ev_X12_byteAt d _ G c 62 q (by decide) ⟨by decide, ?_⟩) P
  have he := M.2.2.1
  rw [M.2.1]
  unfold by9
  by_cases h : q < e
  · have ht := M.2.2.2.2 q q0 h
    simp only [if_pos h, M.1, M.2.2.2.1, ht.1, and255 ht.2.1 ht.2.2]
    exact ⟨by decide, ⟨by decide, q0, by omega⟩, by first | rfl | trivial, by first | rfl | trivial⟩
  · simp only [if_neg h]
    exact ⟨by first | rfl | trivial, by first | rfl | trivial⟩
theorem q_isLetter (x : Int) : EvI (d + 1) mX12_isLetter [mI x] (G, c) P = P (if 97 ≤ x ∧ x ≤ 122 then 1 else 0) (G, c) := evI_eq (ev_X12_isLetter d _ G c x (by grind)) P
theorem q_isDigit (x : Int) : EvI (d + 1) mX12_isDigit [mI x] (G, c) P = P (if 48 ≤ x ∧ x ≤ 57 then 1 else 0) (G, c) := evI_eq (ev_X12_isDigit d _ G c x (by grind)) P
theorem by9_L (M : MT G c tx e) {q : Int} (q0 : 0 ≤ q) : (97 ≤ by9 tx e q ∧ by9 tx e q ≤ 122) ↔ (q < e ∧ isLt tx q = true) := by
  rw [isLt_iff]
  unfold by9
  by_cases h : q < e
  · have ht := M.2.2.2.2 q q0 h
    rw [if_pos h]
    split <;> omega
  · rw [if_neg h]; omega
theorem by9_D (M : MT G c tx e) {q : Int} (q0 : 0 ≤ q) : (48 ≤ by9 tx e q ∧ by9 tx e q ≤ 57) ↔ (q < e ∧ isD tx q = true) := by
  rw [isD_iff]
  unfold by9
  by_cases h : q < e
  · have ht := M.2.2.2.2 q q0 h
    rw [if_pos h]
    split <;> omega
  · rw [if_neg h]; omega
theorem by9_k (M : MT G c tx e) {q k : Int} (q0 : 0 ≤ q) (k0 : 0 ≤ k) (k1 : k < 128) : by9 tx e q = k ↔ (q < e ∧ tx q = k) := by
  unfold by9
  by_cases h : q < e
  · have ht := M.2.2.2.2 q q0 h
    rw [if_pos h]
    split <;> omega
  · rw [if_neg h]; omega
theorem by9_m (M : MT G c tx e) {q : Int} (q0 : 0 ≤ q) : by9 tx e q = -1 ↔ e ≤ q := by
  unfold by9
  by_cases h : q < e
  · have ht := M.2.2.2.2 q q0 h
    rw [if_pos h]
    split <;> omega
  · rw [if_neg h]; omega
theorem by9_v (M : MT G c tx e) {q : Int} (q0 : 0 ≤ q) (h : q < e) (h1 : 0 ≤ tx q) : by9 tx e q = tx q := by
  unfold by9
  rw [if_pos h, if_neg (by omega)]
theorem l_g84 (M : MT G c tx e) (p : Int) (p0 : 0 ≤ p) (h9 : c 62 9 = 0) (h10 : c 62 10 = p) (hP : ∀ c', F8 c c' → c' 62 8 = le9 tx e p → c' 62 10 = p → c' 62 9 = (if le9 tx e p - p ≤ 8 then 2 else 0) → (le9 tx e p - p ≤ 8 → c' 62 14 = cR 32 (lts tx p (le9 tx e p - p).toNat)) → P0 (G, c')) : ∀ (k : Nat) (q : Int) (c0 : MC), p ≤ q → q + k = e → rnF (isLt tx) k q = le9 tx e p → (∀ j, p ≤ j → j < q → isLt tx j = true) → F8 c c0 → c0 62 8 = q → c0 62 9 = 0 → c0 62 10 = p → (q - p ≤ 8 → c0 62 14 = cR 32 (lts tx p (q - p).toNat)) → At (d + 2) mX12_goesOn 84 [mR 18 62, MU, mI (q - p)] [] (G, c0) (QV P0) := by
  have he := M.2.2.1
  have stop : ∀ (q : Int) (c0 : MC), p ≤ q → q ≤ e → q = le9 tx e p → ¬ (q < e ∧ isLt tx q = true) → F8 c c0 → c0 62 8 = q → c0 62 9 = 0 → c0 62 10 = p → (q - p ≤ 8 → c0 62 14 = cR 32 (lts tx p (q - p).toNat)) → At (d + 2) mX12_goesOn 84 [mR 18 62, MU, mI (q - p)] [] (G, c0) (QV P0) := by
    intro q c0 pq qe hr hL F h8 h9' h10' h14
    have M0 := F.mt M
    apply wp_X12_goesOn_84
    rw [h8, q_byteAt _ _ M0 q (by omega)]
    dsimp only
    rw [q_isLetter, if_neg (fun h => hL ((by9_L M0 (by omega)).1 h)), if_pos rfl]
    dsimp only
    refine ⟨by decide, ?_⟩
    rw [hr] at h14 ⊢
    by_cases hh : le9 tx e p - p ≤ 8
    · rw [if_neg (by omega)]
      refine ⟨by decide, ?_⟩
      rintro _ rfl
      refine hP _ (F.up (by omega)) ?_ ?_ ?_ (fun h => ?_)
      · rw [up_nj (by decide), h8, hr]
      · rw [up_nj (by decide), h10']
      · rw [up_eq, if_pos hh]
      · rw [up_nj (by decide)]; exact h14 h
    · rw [if_pos (by omega)]
      exact hP _ F (by rw [h8, hr]) h10' (by rw [h9', if_neg hh]) (fun h => absurd h hh)
  intro k
  induction k with
  | zero =>
    intro q c0 pq hq hr hL F h8 h9' h10' h14
    simp only [rnF] at hr
    exact stop q c0 pq (by omega) hr (fun h => by omega) F h8 h9' h10' h14
  | succ k ih =>
    intro q c0 pq hq hr hL F h8 h9' h10' h14
    simp only [rnF] at hr
    by_cases hl : isLt tx q = true
    · rw [if_pos hl] at hr
      have M0 := F.mt M
      have hl' := isLt_iff.1 hl
      have bq := by9_v M0 (q := q) (by omega) (by omega) (by omega)
      apply wp_X12_goesOn_84
      rw [h8, q_byteAt _ _ M0 q (by omega)]
      dsimp only
      rw [q_isLetter, if_pos ((by9_L M0 (by omega)).2 ⟨by omega, hl⟩), if_neg (by decide)]
      refine ⟨by decide, ?_⟩
      dsimp only
      have hL' : ∀ j, p ≤ j → j < q + 1 → isLt tx j = true := fun j a b => by
        by_cases ej : j = q
        · rw [ej]; exact hl
        · exact hL j a (by omega)
      by_cases h8' : q - p < 8
      · rw [if_pos h8', h8, q_byteAt _ _ M0 q (by omega)]
        refine ⟨by decide, by decide, ?_⟩
        dsimp only
        refine ⟨by decide, ?_⟩
        rintro _ rfl
        refine ⟨by decide, by decide, ?_⟩
        rintro _ rfl
        rw [up_nj (by decide), h8, w32i (show -2147483648 ≤ q + 1 by omega) (by omega), w32i (show -2147483648 ≤ q - p + 1 by omega) (by omega), show q - p + 1 = q + 1 - p by omega]
        refine ih (q + 1) _ (by omega) (by omega) hr hL' ((F.up (by omega)).up (by omega)) up_eq (by rw [up_nj (by decide), up_nj (by decide), h9']) (by rw [up_nj (by decide), up_nj (by decide), h10']) (fun h => ?_)
        rw [up_nj (by decide), up_eq, h14 (by omega), show (q + 1 - p).toNat = (q - p).toNat + 1 by omega, lts_succ, show p + ((q - p).toNat : Int) = q by omega, bq]
        simp only [cR]
        obtain ⟨b1, b2⟩ := lts_ltr (tx := tx) (p := p) (q - p).toNat (fun j a b => hL j a (by omega))
        have b3 := cR_rg (b := 32) (by decide) b1
        rw [b2] at b3
        have b4 := (bb_le (q - p).toNat (by omega)).2
        rw [w64i (show -9223372036854775808 ≤ 32 * cR 32 (lts tx p (q - p).toNat) by omega) (by omega), w32i (show -2147483648 ≤ tx q - 97 by omega) (by omega), w32i (show -2147483648 ≤ tx q - 97 + 1 by omega) (by omega), w64i (show -9223372036854775808 ≤ 32 * cR 32 (lts tx p (q - p).toNat) + (tx q - 97 + 1) by omega) (by omega)]
        omega
      · rw [if_neg h8', h8]
        refine ⟨by decide, by decide, ?_⟩
        rintro _ rfl
        rw [w32i (show -2147483648 ≤ q + 1 by omega) (by omega), w32i (show -2147483648 ≤ q - p + 1 by omega) (by omega), show q - p + 1 = q + 1 - p by omega]
        exact ih (q + 1) _ (by omega) (by omega) hr hL' (F.up (by omega)) up_eq (by rw [up_nj (by decide), h9']) (by rw [up_nj (by decide), h10']) (fun h => by omega)
    · rw [if_neg hl] at hr
      exact stop q c0 pq (by omega) hr (fun h => hl h.2) F h8 h9' h10' h14
theorem l_g173 (M : MT G c tx e) (p : Int) (p0 : 0 ≤ p) (h9 : c 62 9 = 0) (h10 : c 62 10 = p) (hP : ∀ c', F8 c c' → c' 62 8 = de9 tx e p → c' 62 10 = p → c' 62 9 = (if de9 tx e p - p ≤ 3 then 3 else 0) → (de9 tx e p - p ≤ 3 → c' 62 11 = nmb tx p (de9 tx e p - p).toNat) → P0 (G, c')) : ∀ (k : Nat) (q : Int) (c0 : MC), p ≤ q → q + k = e → rnF (isD tx) k q = de9 tx e p → (∀ j, p ≤ j → j < q → isD tx j = true) → F8 c c0 → c0 62 8 = q → c0 62 9 = 0 → c0 62 10 = p → (q - p ≤ 3 → c0 62 11 = nmb tx p (q - p).toNat) → At (d + 2) mX12_goesOn 173 [mR 18 62, MU, mI (q - p)] [] (G, c0) (QV P0) := by
  have he := M.2.2.1
  have stop : ∀ (q : Int) (c0 : MC), p ≤ q → q ≤ e → q = de9 tx e p → ¬ (q < e ∧ isD tx q = true) → F8 c c0 → c0 62 8 = q → c0 62 9 = 0 → c0 62 10 = p → (q - p ≤ 3 → c0 62 11 = nmb tx p (q - p).toNat) → At (d + 2) mX12_goesOn 173 [mR 18 62, MU, mI (q - p)] [] (G, c0) (QV P0) := by
    intro q c0 pq qe hr hL F h8 h9' h10' h14
    have M0 := F.mt M
    apply wp_X12_goesOn_173
    rw [h8, q_byteAt _ _ M0 q (by omega)]
    dsimp only
    rw [q_isDigit, if_neg (fun h => hL ((by9_D M0 (by omega)).1 h)), if_pos rfl]
    dsimp only
    refine ⟨by decide, ?_⟩
    rw [hr] at h14 ⊢
    by_cases hh : de9 tx e p - p ≤ 3
    · rw [if_neg (by omega)]
      refine ⟨by decide, ?_⟩
      rintro _ rfl
      refine hP _ (F.up (by omega)) ?_ ?_ ?_ (fun h => ?_)
      · rw [up_nj (by decide), h8, hr]
      · rw [up_nj (by decide), h10']
      · rw [up_eq, if_pos hh]
      · rw [up_nj (by decide)]; exact h14 h
    · rw [if_pos (by omega)]
      exact hP _ F (by rw [h8, hr]) h10' (by rw [h9', if_neg hh]) (fun h => absurd h hh)
  intro k
  induction k with
  | zero =>
    intro q c0 pq hq hr hL F h8 h9' h10' h14
    simp only [rnF] at hr
    exact stop q c0 pq (by omega) hr (fun h => by omega) F h8 h9' h10' h14
  | succ k ih =>
    intro q c0 pq hq hr hL F h8 h9' h10' h14
    simp only [rnF] at hr
    by_cases hl : isD tx q = true
    · rw [if_pos hl] at hr
      have M0 := F.mt M
      have hl' := isD_iff.1 hl
      have bq := by9_v M0 (q := q) (by omega) (by omega) (by omega)
      apply wp_X12_goesOn_173
      rw [h8, q_byteAt _ _ M0 q (by omega)]
      dsimp only
      rw [q_isDigit, if_pos ((by9_D M0 (by omega)).2 ⟨by omega, hl⟩), if_neg (by decide)]
      refine ⟨by decide, ?_⟩
      dsimp only
      have hL' : ∀ j, p ≤ j → j < q + 1 → isD tx j = true := fun j a b => by
        by_cases ej : j = q
        · rw [ej]; exact hl
        · exact hL j a (by omega)
      by_cases h8' : q - p < 3
      · rw [if_pos h8', h8, q_byteAt _ _ M0 q (by omega)]
        refine ⟨by decide, by decide, ?_⟩
        dsimp only
        refine ⟨by decide, ?_⟩
        rintro _ rfl
        refine ⟨by decide, by decide, ?_⟩
        rintro _ rfl
        rw [up_nj (by decide), h8, w32i (show -2147483648 ≤ q + 1 by omega) (by omega), w32i (show -2147483648 ≤ q - p + 1 by omega) (by omega), show q - p + 1 = q + 1 - p by omega]
        refine ih (q + 1) _ (by omega) (by omega) hr hL' ((F.up (by omega)).up (by omega)) up_eq (by rw [up_nj (by decide), up_nj (by decide), h9']) (by rw [up_nj (by decide), up_nj (by decide), h10']) (fun h => ?_)
        rw [up_nj (by decide), up_eq, h14 (by omega), show (q + 1 - p).toNat = (q - p).toNat + 1 by omega, nmb_succ, show p + ((q - p).toNat : Int) = q by omega, bq]
        have b3 := nmb_rg (tx := tx) (p := p) (q - p).toNat (fun j a b => hL j a (by omega))
        have b4 := b3.2.2.2 (by omega)
        have b5 := b3.1
        rw [w32i (show -2147483648 ≤ 10 * nmb tx p (q - p).toNat by omega) (by omega), w32i (show -2147483648 ≤ 10 * nmb tx p (q - p).toNat + tx q by omega) (by omega), w32i (show -2147483648 ≤ 10 * nmb tx p (q - p).toNat + tx q - 48 by omega) (by omega)]
        omega
      · rw [if_neg h8', h8]
        refine ⟨by decide, by decide, ?_⟩
        rintro _ rfl
        rw [w32i (show -2147483648 ≤ q + 1 by omega) (by omega), w32i (show -2147483648 ≤ q - p + 1 by omega) (by omega), show q - p + 1 = q + 1 - p by omega]
        exact ih (q + 1) _ (by omega) (by omega) hr hL' (F.up (by omega)) up_eq (by rw [up_nj (by decide), h9']) (by rw [up_nj (by decide), h10']) (fun h => by omega)
    · rw [if_neg hl] at hr
      exact stop q c0 pq (by omega) hr (fun h => hl h.2) F h8 h9' h10' h14
/-- behind the blanks -/
theorem l_g9s (M : MT G c tx e) (p : Int) (p0 : 0 ≤ p) (p1 : p ≤ e) (hs : ¬ (p < e ∧ tx p = 32)) (h8 : c 62 8 = p) (hP : ∀ c', F8 c c' → TN c' tx e p → P0 (G, c')) : At (d + 2) mX12_goesOn 9 [mR 18 62, MU, MU] [] (G, c) (QV P0) := by
  have he := M.2.2.1
  have F2 : F8 c (up (up c 62 10 p) 62 9 0) := (F8.up (F8.up (fun _ _ _ => rfl) (by omega)) (by omega))
  have M2 := F2.mt M
  have e8 : up (up c 62 10 p) 62 9 0 62 8 = p := by rw [up_nj (by decide), up_nj (by decide)]; exact h8
  have e9 : up (up c 62 10 p) 62 9 0 62 9 = 0 := up_eq
  have e10 : up (up c 62 10 p) 62 9 0 62 10 = p := by rw [up_nj (by decide), up_eq]
  apply wp_X12_goesOn_9
  rw [h8, q_byteAt _ _ M p p0]
  refine ⟨by decide, ?_⟩
  rw [if_neg (fun h => hs ((by9_k M p0 (by decide) (by decide)).1 h))]
  dsimp only
  rw [h8]
  refine ⟨by decide, by decide, ?_⟩
  rintro _ rfl
  refine ⟨by decide, ?_⟩
  rintro c2 hc2
  have hc2' : c2 = up (up c 62 10 p) 62 9 0 := hc2
  clear hc2
  rw [← hc2'] at F2 M2 e8 e9 e10
  clear hc2'
  rw [e8, q_byteAt _ _ M2 p p0]
  refine ⟨by decide, ?_⟩
  by_cases h0 : e ≤ p
  · rw [if_pos ((by9_m M p0).2 h0)]
    dsimp only
    refine ⟨by decide, ?_⟩
    rintro _ rfl
    have ek : kd tx e p = 0 := by unfold kd; rw [if_pos h0]
    refine hP _ (F2.up (by omega)) ⟨?_, ?_, ?_, fun h => by omega, fun h => by omega, p0, p1⟩
    · rw [up_nj (by decide), e8]; unfold en; rw [if_pos h0]
    · rw [up_eq, ek]; rfl
    · rw [up_nj (by decide)]; exact e10
  · rw [if_neg (fun h => h0 ((by9_m M p0).1 h))]
    dsimp only
    rw [q_isLetter]
    by_cases hl : isLt tx p = true
    · have hl' := isLt_iff.1 hl
      have h59 : tx p ≠ 59 := by omega
      rw [if_pos ((by9_L M p0).2 ⟨by omega, hl⟩), if_neg (by decide)]
      refine ⟨by decide, ?_⟩
      dsimp only
      rintro _ rfl
      have F3 : F8 c2 (up c2 62 14 0) := F8.up (fun _ _ _ => rfl) (by omega)
      have key := l_g84 d P0 M2 p p0 e9 e10 (fun c' F a8 a10 a9 a14 => hP c' (F2.tr F) ⟨?_, ?_, a10, fun h => ?_, fun h => ?_, p0, p1⟩) (e - p).toNat p (up c2 62 14 0) (by omega) (by omega) rfl (fun j a b => by omega) F3 (by rw [up_nj (by decide)]; exact e8) (by rw [up_nj (by decide)]; exact e9) (by rw [up_nj (by decide)]; exact e10) (fun _ => by rw [up_eq, show (p - p).toNat = 0 by omega]; rfl)
      · rw [Int.sub_self] at key; exact key
      · rw [a8]; unfold en; rw [if_neg h0, if_neg h59, if_pos hl]
      · rw [a9]; unfold kd sg; rw [if_neg h0, if_neg h59, if_pos hl]; split <;> rfl
      · have := kd_1 h
        rw [a14 this.2.2.2]; rfl
      · unfold kd at h; rw [if_neg h0, if_neg h59, if_pos hl] at h; split at h <;> omega
    · rw [if_neg (fun h => hl ((by9_L M p0).1 h).2), if_pos rfl]
      dsimp only
      rw [q_isDigit]
      by_cases hd : isD tx p = true
      · have hd' := isD_iff.1 hd
        have h59 : tx p ≠ 59 := by omega
        rw [if_pos ((by9_D M p0).2 ⟨by omega, hd⟩), if_neg (by decide)]
        refine ⟨by decide, ?_⟩
        dsimp only
        rintro _ rfl
        have F3 : F8 c2 (up c2 62 11 0) := F8.up (fun _ _ _ => rfl) (by omega)
        have key := l_g173 d P0 M2 p p0 e9 e10 (fun c' F a8 a10 a9 a14 => hP c' (F2.tr F) ⟨?_, ?_, a10, fun h => ?_, fun h => ?_, p0, p1⟩) (e - p).toNat p (up c2 62 11 0) (by omega) (by omega) rfl (fun j a b => by omega) F3 (by rw [up_nj (by decide)]; exact e8) (by rw [up_nj (by decide)]; exact e9) (by rw [up_nj (by decide)]; exact e10) (fun _ => by rw [up_eq, show (p - p).toNat = 0 by omega]; rfl)
        · rw [Int.sub_self] at key; exact key
        · rw [a8]; unfold en; rw [if_neg h0, if_neg h59, if_neg hl, if_pos hd]
        · rw [a9]; unfold kd sg; rw [if_neg h0, if_neg h59, if_neg hl, if_pos hd]; split <;> rfl
        · unfold kd at h; rw [if_neg h0, if_neg h59, if_neg hl, if_pos hd] at h; split at h <;> omega
        · have := kd_2 h
          rw [a14 this.2.2, (va_2 h).1]
      · rw [if_neg (fun h => hd ((by9_D M p0).1 h).2), if_pos rfl]
        dsimp only
        by_cases h59 : tx p = 59
        · rw [if_pos ((by9_k M p0 (by decide) (by decide)).2 ⟨by omega, h59⟩)]
          refine ⟨by decide, ?_⟩
          rintro _ rfl
          refine ⟨by decide, by decide, ?_⟩
          rintro _ rfl
          rw [up_nj (by decide), e8, w32i (by omega) (by omega)]
          have ek : kd tx e p = 3 := by unfold kd; rw [if_neg h0, if_pos h59]
          refine hP _ ((F2.up (by omega)).up (by omega)) ⟨?_, ?_, ?_, fun h => by omega, fun h => by omega, p0, p1⟩
          · rw [up_eq]; unfold en; rw [if_neg h0, if_pos h59]
          · rw [up_nj (by decide), up_eq, ek]; rfl
          · rw [up_nj (by decide), up_nj (by decide)]; exact e10
        · rw [if_neg (fun h => h59 ((by9_k M p0 (by decide) (by decide)).1 h).2)]
          have ek : kd tx e p = 4 := by unfold kd; rw [if_neg h0, if_neg h59, if_neg hl, if_neg hd]
          refine hP _ F2 ⟨?_, ?_, e10, fun h => by omega, fun h => by omega, p0, p1⟩
          · rw [e8]; unfold en; rw [if_neg h0, if_neg h59, if_neg hl, if_neg hd]
          · rw [e9, ek]; rfl
theorem l_g9 (M : MT G c tx e) (r : Int) (hr1 : r ≤ e) (hP : ∀ c', F8 c c' → TN c' tx e r → P0 (G, c')) : ∀ (k : Nat) (q : Int) (c0 : MC), 0 ≤ q → q + k = e → rnF (isS tx) k q = r → F8 c c0 → c0 62 8 = q → At (d + 2) mX12_goesOn 9 [mR 18 62, MU, MU] [] (G, c0) (QV P0) := by
  have he := M.2.2.1
  intro k
  induction k with
  | zero =>
    intro q c0 q0 hq hr F h8
    simp only [rnF] at hr
    subst hr
    exact l_g9s d P0 (F.mt M) q q0 hr1 (by omega) h8 (fun c' F' T => hP c' (F.tr F') T)
  | succ k ih =>
    intro q c0 q0 hq hr F h8
    simp only [rnF] at hr
    by_cases hs : isS tx q = true
    · rw [if_pos hs] at hr
      have M0 := F.mt M
      apply wp_X12_goesOn_9
      rw [h8, q_byteAt _ _ M0 q q0, if_pos ((by9_k M0 q0 (by decide) (by decide)).2 ⟨by omega, isS_iff.1 hs⟩)]
      dsimp only
      rw [h8, w32i (by omega) (by omega)]
      refine ⟨by decide, by decide, by decide, ?_⟩
      rintro _ rfl
      exact ih (q + 1) _ (by omega) (by omega) hr (F.up (by omega)) up_eq
    · rw [if_neg hs] at hr
      subst hr
      exact l_g9s d P0 (F.mt M) q q0 hr1 (fun h => hs (isS_iff.2 h.2)) h8 (fun c' F' T => hP c' (F.tr F') T)
theorem f_goes (M : MT G c tx e) (q : Int) (q0 : 0 ≤ q) (q1 : q ≤ e) (h8 : c 62 8 = q) (h9 : c 62 9 ≠ 5) (hP : ∀ c', F8 c c' → TN c' tx e (sk tx e q) → P0 (G, c')) : EvV (d + 2) mX12_goesOn [mR 18 62] (G, c) P0 := by
  refine ev_X12_goesOn (d + 1) _ G c 62 (by decide) ⟨by decide, ?_⟩
  rw [if_neg h9]
  exact l_g9 d P0 M _ (sk_rg q1).2 hP (e - q).toNat q c q0 (by omega) rfl (fun _ _ _ => rfl) h8
end
