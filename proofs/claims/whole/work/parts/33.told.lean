/-! the class: methods that write nothing, as functions of the memory -/
def PLs (G : MG) (c : MC) (a m : Int) : Prop := (0 ≤ a) ∧ (c a 0 = a + 1) ∧ (c a 1 = a + 2) ∧ (c a 2 = a + 3) ∧ (gLn G (a + 1) = m) ∧ (gLn G (a + 2) = m) ∧ (gLn G (a + 3) = m) ∧ (0 ≤ c a 3) ∧ (c a 3 ≤ m) ∧ (m ≤ 10)
theorem PLs.n {G : MG} {c : MC} {a m : Int} (h : PLs G c a m) : 0 ≤ a := h.1
theorem PLs.f0 {G : MG} {c : MC} {a m : Int} (h : PLs G c a m) : c a 0 = a + 1 := h.2.1
theorem PLs.f1 {G : MG} {c : MC} {a m : Int} (h : PLs G c a m) : c a 1 = a + 2 := h.2.2.1
theorem PLs.f2 {G : MG} {c : MC} {a m : Int} (h : PLs G c a m) : c a 2 = a + 3 := h.2.2.2.1
theorem PLs.g1 {G : MG} {c : MC} {a m : Int} (h : PLs G c a m) : gLn G (a + 1) = m := h.2.2.2.2.1
theorem PLs.g2 {G : MG} {c : MC} {a m : Int} (h : PLs G c a m) : gLn G (a + 2) = m := h.2.2.2.2.2.1
theorem PLs.g3 {G : MG} {c : MC} {a m : Int} (h : PLs G c a m) : gLn G (a + 3) = m := h.2.2.2.2.2.2.1
theorem PLs.lo {G : MG} {c : MC} {a m : Int} (h : PLs G c a m) : 0 ≤ c a 3 := h.2.2.2.2.2.2.2.1
theorem PLs.hi {G : MG} {c : MC} {a m : Int} (h : PLs G c a m) : c a 3 ≤ m := h.2.2.2.2.2.2.2.2.1
theorem PLs.m {G : MG} {c : MC} {a m : Int} (h : PLs G c a m) : m ≤ 10 := h.2.2.2.2.2.2.2.2.2
def ptn (c : MC) (a p : Int) : Int := fo (fun i s => if c (a + 1) i = p then o_or s (o_shl 1 (c (a + 2) i)) else if c (a + 2) i = p then o_or s (o_shl 1 (c (a + 1) i)) else s) (c a 3).toNat 0 0
def hld (c : MC) (a st : Int) : Int := fo (fun i s => if bes (dg st (c (a + 1) i)) (dg st (c (a + 2) i)) = c (a + 3) i then o_or s (o_shl 1 i) else s) (c a 3).toNat 0 0
section
variable (d : Nat) (P : Int → MM → Prop) (G : MG) (c : MC)
theorem l_partners (a m p : Int) (H : PLs G c a m) : ∀ (j : Nat) (i : Int) (s : Int), 0 ≤ i → i + j = c a 3 → P (fo (fun i s => if c (a + 1) i = p then o_or s (o_shl 1 (c (a + 2) i)) else if c (a + 2) i = p then o_or s (o_shl 1 (c (a + 1) i)) else s) j i s) (G, c) → At (d + 1) mX3_partners 4 [mR 10 a, mI p, mI s, mI i] [] (G, c) (QI P) := by
  obtain ⟨hn, f0, f1, f2, g1, g2, g3, hlo, hhi, hm⟩ := H
  intro j
  induction j with
  | zero =>
    intro i s h0 hi hP
    apply wp_X3_partners_4
    try simp only [f0, f1, f2, g1, g2, g3]
    (repeat (refine And.intro (by omega) ?_))
    rw [if_neg (by omega)]
    skip
    exact hP
  | succ j ih =>
    intro i s h0 hi hP
    have wi : w32 (i + 1) = i + 1 := w32i (by omega) (by omega)
    apply wp_X3_partners_4
    simp only [f0, f1, f2, g1, g2, g3, wi]
    (repeat (refine And.intro (by omega) ?_))
    rw [if_pos (by omega)]
    simp only [fo] at hP
    skip
    (repeat' (first | (refine And.intro (by omega) ?_) | (split <;> rename_i hc <;> (first | rw [if_pos hc] at hP | rw [if_neg hc] at hP))))
    all_goals exact ih _ _ (by omega) (by omega) hP
theorem q_partners (a m p : Int) (H : PLs G c a m) : EvI (d + 1) mX3_partners [mR 10 a, mI p] (G, c) P = P (ptn c a p) (G, c) := evI_eq (ev_X3_partners d _ G c a p H.n (l_partners d _ G c a m p H (c a 3).toNat 0 0 (by omega) (by have := H.lo; omega) ⟨rfl, rfl⟩)) P
theorem l_holding (a m st : Int) (H : PLs G c a m) : ∀ (j : Nat) (i : Int) (s : Int), 0 ≤ i → i + j = c a 3 → P (fo (fun i s => if bes (dg st (c (a + 1) i)) (dg st (c (a + 2) i)) = c (a + 3) i then o_or s (o_shl 1 i) else s) j i s) (G, c) → At (d + 2) mX3_holding 4 [mR 10 a, mI st, mI s, mI i] [] (G, c) (QI P) := by
  obtain ⟨hn, f0, f1, f2, g1, g2, g3, hlo, hhi, hm⟩ := H
  intro j
  induction j with
  | zero =>
    intro i s h0 hi hP
    apply wp_X3_holding_4
    try simp only [f0, f1, f2, g1, g2, g3, q_X7_at, q_X7_areBeside]
    (repeat (refine And.intro (by omega) ?_))
    rw [if_neg (by omega)]
    skip
    exact hP
  | succ j ih =>
    intro i s h0 hi hP
    have wi : w32 (i + 1) = i + 1 := w32i (by omega) (by omega)
    apply wp_X3_holding_4
    simp only [f0, f1, f2, g1, g2, g3, q_X7_at, q_X7_areBeside, wi]
    (repeat (refine And.intro (by omega) ?_))
    rw [if_pos (by omega)]
    simp only [fo] at hP
    skip
    (repeat' (first | (refine And.intro (by omega) ?_) | (split <;> rename_i hc <;> (first | rw [if_pos hc] at hP | rw [if_neg hc] at hP))))
    all_goals exact ih _ _ (by omega) (by omega) hP
theorem q_holding (a m st : Int) (H : PLs G c a m) : EvI (d + 2) mX3_holding [mR 10 a, mI st] (G, c) P = P (hld c a st) (G, c) := evI_eq (ev_X3_holding (d + 1) _ G c a st H.n (l_holding d _ G c a m st H (c a 3).toNat 0 0 (by omega) (by have := H.lo; omega) ⟨rfl, rfl⟩)) P
theorem q_all (a m : Int) (H : PLs G c a m) : EvI (d + 1) mX3_all [mR 10 a] (G, c) P = P (w32 ((o_shl 1 (c a 3)) - 1)) (G, c) := evI_eq (ev_X3_all d _ G c a H.n ⟨H.n, rfl, rfl⟩) P
theorem q_isFull (a m : Int) (H : PLs G c a m) : EvI (d + 1) mX3_isFull [mR 10 a] (G, c) P = P (if c a 3 < m then 0 else 1) (G, c) := evI_eq (ev_X3_isFull d _ G c a H.n (by have h1 := H.n; have h2 := H.f0; have h3 := H.g1; rw [h2, h3]; grind)) P
theorem l_firstBroken (a m b : Int) (H : PLs G c a m) : ∀ (j : Nat) (i : Int), 0 ≤ i → i + j = c a 3 → P (fi (fun i => decide (bt b i = 0)) (fun i => i) (-2) j i) (G, c) → At (d + 1) mX3_firstBroken 8 [mR 10 a, MU, mI b, mI i] [] (G, c) (QI P) := by
  obtain ⟨hn, f0, f1, f2, g1, g2, g3, hlo, hhi, hm⟩ := H
  intro j
  induction j with
  | zero =>
    intro i h0 hi hP
    apply wp_X3_firstBroken_8
    skip
    (repeat (refine And.intro (by omega) ?_))
    rw [if_neg (by omega)]
    (repeat (refine And.intro (by omega) ?_))
    exact hP
  | succ j ih =>
    intro i h0 hi hP
    have wi : w32 (i + 1) = i + 1 := w32i (by omega) (by omega)
    apply wp_X3_firstBroken_8
    simp only [wi]
    (repeat (refine And.intro (by omega) ?_))
    rw [if_pos (by omega)]
    simp only [fi] at hP
    simp only [bt] at *
    (repeat (refine And.intro (by omega) ?_))
    by_cases hp : bt b i = 0
    · rw [if_pos (decide_eq_true hp)] at hP
      simp only [hp, if_true, if_false, true_and, and_self, not_true_eq_false, ne_eq, not_false_eq_true]
      first | exact hP | exact ⟨by omega, hP⟩
    · rw [if_neg (by simpa using hp)] at hP
      simp only [hp, if_true, if_false, not_false_eq_true]
      exact ih _ (by omega) (by omega) hP
theorem q_firstBroken (a m st : Int) (H : PLs G c a m) : EvI (d + 3) mX3_firstBroken [mR 10 a, mI st] (G, c) P = P (fi (fun i => decide (bt (hld c a st) i = 0)) (fun i => i) (-2) (c a 3).toNat 0) (G, c) := evI_eq (ev_X3_firstBroken (d + 2) _ G c a st H.n (by rw [q_holding _ _ _ _ a m st H]; exact l_firstBroken _ _ G c a m _ H (c a 3).toNat 0 (by omega) (by have := H.lo; omega) ⟨rfl, rfl⟩)) P
end
def TLs (G : MG) (c : MC) (t : Int) : Prop := (0 ≤ t) ∧ (c t 6 = t + 1) ∧ (c t 7 = t + 2) ∧ (c t 8 = t + 3) ∧ (c t 9 = t + 4) ∧ (c t 10 = t + 5) ∧ (c t 11 = t + 6) ∧ (c t 12 = t + 10) ∧ (c t 13 = t + 14) ∧ (gLn G (t + 1) = 6) ∧ (gLn G (t + 2) = 6) ∧ (gLn G (t + 3) = 3) ∧ (gLn G (t + 4) = 3) ∧ (gLn G (t + 5) = 3) ∧ (PLs G c (t + 6) 6) ∧ (PLs G c (t + 10) 4) ∧ (PLs G c (t + 14) 5) ∧ (0 ≤ c t 0 ∧ c t 0 ≤ 9) ∧ (0 ≤ c t 1 ∧ c t 1 ≤ 6) ∧ (0 ≤ c t 2 ∧ c t 2 ≤ 100) ∧ (0 ≤ c t 3 ∧ c t 3 ≤ 6) ∧ (0 ≤ c t 4 ∧ c t 4 ≤ 3) ∧ (0 ≤ c t 5 ∧ c t 5 ≤ 3)
theorem TLs.n {G : MG} {c : MC} {t : Int} (h : TLs G c t) : 0 ≤ t := h.1
theorem TLs.p6 {G : MG} {c : MC} {t : Int} (h : TLs G c t) : c t 6 = t + 1 := h.2.1
theorem TLs.p7 {G : MG} {c : MC} {t : Int} (h : TLs G c t) : c t 7 = t + 2 := h.2.2.1
theorem TLs.p8 {G : MG} {c : MC} {t : Int} (h : TLs G c t) : c t 8 = t + 3 := h.2.2.2.1
theorem TLs.p9 {G : MG} {c : MC} {t : Int} (h : TLs G c t) : c t 9 = t + 4 := h.2.2.2.2.1
theorem TLs.p10 {G : MG} {c : MC} {t : Int} (h : TLs G c t) : c t 10 = t + 5 := h.2.2.2.2.2.1
theorem TLs.p11 {G : MG} {c : MC} {t : Int} (h : TLs G c t) : c t 11 = t + 6 := h.2.2.2.2.2.2.1
theorem TLs.p12 {G : MG} {c : MC} {t : Int} (h : TLs G c t) : c t 12 = t + 10 := h.2.2.2.2.2.2.2.1
theorem TLs.p13 {G : MG} {c : MC} {t : Int} (h : TLs G c t) : c t 13 = t + 14 := h.2.2.2.2.2.2.2.2.1
theorem TLs.g1 {G : MG} {c : MC} {t : Int} (h : TLs G c t) : gLn G (t + 1) = 6 := h.2.2.2.2.2.2.2.2.2.1
theorem TLs.g2 {G : MG} {c : MC} {t : Int} (h : TLs G c t) : gLn G (t + 2) = 6 := h.2.2.2.2.2.2.2.2.2.2.1
theorem TLs.g3 {G : MG} {c : MC} {t : Int} (h : TLs G c t) : gLn G (t + 3) = 3 := h.2.2.2.2.2.2.2.2.2.2.2.1
theorem TLs.g4 {G : MG} {c : MC} {t : Int} (h : TLs G c t) : gLn G (t + 4) = 3 := h.2.2.2.2.2.2.2.2.2.2.2.2.1
theorem TLs.g5 {G : MG} {c : MC} {t : Int} (h : TLs G c t) : gLn G (t + 5) = 3 := h.2.2.2.2.2.2.2.2.2.2.2.2.2.1
theorem TLs.q {G : MG} {c : MC} {t : Int} (h : TLs G c t) : PLs G c (t + 6) 6 := h.2.2.2.2.2.2.2.2.2.2.2.2.2.2.1
theorem TLs.w {G : MG} {c : MC} {t : Int} (h : TLs G c t) : PLs G c (t + 10) 4 := h.2.2.2.2.2.2.2.2.2.2.2.2.2.2.2.1
theorem TLs.s {G : MG} {c : MC} {t : Int} (h : TLs G c t) : PLs G c (t + 14) 5 := h.2.2.2.2.2.2.2.2.2.2.2.2.2.2.2.2.1
theorem TLs.b0 {G : MG} {c : MC} {t : Int} (h : TLs G c t) : 0 ≤ c t 0 ∧ c t 0 ≤ 9 := h.2.2.2.2.2.2.2.2.2.2.2.2.2.2.2.2.2.1
theorem TLs.b1 {G : MG} {c : MC} {t : Int} (h : TLs G c t) : 0 ≤ c t 1 ∧ c t 1 ≤ 6 := h.2.2.2.2.2.2.2.2.2.2.2.2.2.2.2.2.2.2.1
theorem TLs.b2 {G : MG} {c : MC} {t : Int} (h : TLs G c t) : 0 ≤ c t 2 ∧ c t 2 ≤ 100 := h.2.2.2.2.2.2.2.2.2.2.2.2.2.2.2.2.2.2.2.1
theorem TLs.b3 {G : MG} {c : MC} {t : Int} (h : TLs G c t) : 0 ≤ c t 3 ∧ c t 3 ≤ 6 := h.2.2.2.2.2.2.2.2.2.2.2.2.2.2.2.2.2.2.2.2.1
theorem TLs.b4 {G : MG} {c : MC} {t : Int} (h : TLs G c t) : 0 ≤ c t 4 ∧ c t 4 ≤ 3 := h.2.2.2.2.2.2.2.2.2.2.2.2.2.2.2.2.2.2.2.2.2.1
theorem TLs.b5 {G : MG} {c : MC} {t : Int} (h : TLs G c t) : 0 ≤ c t 5 ∧ c t 5 ≤ 3 := h.2.2.2.2.2.2.2.2.2.2.2.2.2.2.2.2.2.2.2.2.2.2
def hmS (c : MC) (t : Int) : Int := fo (fun i s => o_or s (o_shl (c (t + 2) i) (w32 (3 * i)))) (c t 3).toNat 0 0
def stB (c : MC) (t b : Int) : Int := fo (fun i s => if bt b i = 1 then wth s (c (t + 4) i) (c (t + 5) i) else s) (c t 5).toNat 0 (hmS c t)
def unl (c : MC) (t st : Int) : Int := if pop (fo (fun i s => o_or s (o_shl 1 (dg st i))) (c t 3).toNat 0 0) = c t 3 then 1 else 0
def fit (c : MC) (t : Int) : Int := fo (fun i s => if unl c t (stB c t i) = 0 then s else if hld c (t + 14) (stB c t i) = w32 ((o_shl 1 (c (t + 14) 3)) - 1) then o_or s (o_shl 1 i) else s) (o_shl 1 (c t 5)).toNat 0 0
def lam (c : MC) (t f u : Int) : Int := if fo (fun i s => w32 (s + o_and (bt f i) (bt i u))) (o_shl 1 (c t 5)).toNat 0 0 < w32 (pop f - fo (fun i s => w32 (s + o_and (bt f i) (bt i u))) (o_shl 1 (c t 5)).toNat 0 0) then w32 (pop f - fo (fun i s => w32 (s + o_and (bt f i) (bt i u))) (o_shl 1 (c t 5)).toNat 0 0) else fo (fun i s => w32 (s + o_and (bt f i) (bt i u))) (o_shl 1 (c t 5)).toNat 0 0
def shw (c : MC) (t n : Int) : Int := fo (fun _ s => w64 (s * (w32 (100 * c t 4)))) n.toNat 0 1
def chF (c : MC) (t : Int) : Nat → Int → Int → Int
  | 0, y, l => if l = 0 then y else -1
  | j + 1, y, l => if o_rem l 10 < 1 then -1 else if c t 4 < o_rem l 10 then -1 else chF c t j (thr (c (t + 3) (w32 (o_rem l 10 - 1))) y (c t 1)) (o_div l 10)
def chb (c : MC) (t r n : Int) : Int := if n < 0 ∨ 6 < n ∨ r < 0 then -1 else chF c t n.toNat (sam (c t 1)) r
theorem shl1 : ∀ k : Nat, k ≤ 10 → o_shl 1 (k : Int) = ((2 ^ k : Nat) : Int) := by decide +kernel
theorem shl1_le {x : Int} (h0 : 0 ≤ x) (h : x ≤ 3) : 1 ≤ o_shl 1 x ∧ o_shl 1 x ≤ 8 := by
  obtain ⟨k, rfl⟩ := Int.eq_ofNat_of_zero_le h0
  rw [shl1 k (by omega)]
  have : k ≤ 3 := by omega
  match k, this with
  | 0, _ => decide
  | 1, _ => decide
  | 2, _ => decide
  | 3, _ => decide
theorem rem10 {l : Int} (h0 : 0 ≤ l) (h : l < 2147483648) : o_rem l 10 = l % 10 ∧ o_div l 10 = l / 10 := ⟨o_rem_of h0 h (by omega) (by omega), o_div_of h0 h (by omega) (by omega)⟩
section
variable (d : Nat) (P : Int → MM → Prop) (G : MG) (c : MC)
theorem l_isHome (t k : Int) (H : TLs G c t) : ∀ (j : Nat) (i : Int), 0 ≤ i → i + j = c t 3 → P (fi (fun i => decide (c (t + 2) i = k)) (fun i => 1) (0) j i) (G, c) → At (d + 1) mX9_isHome 2 [mR 15 t, mI k, mI i] [] (G, c) (QI P) := by
  have hn := H.n; have p7 := H.p7; have p9 := H.p9; have p10 := H.p10; have p8 := H.p8; have p13 := H.p13; have g2 := H.g2; have g3 := H.g3; have g4 := H.g4; have g5 := H.g5; have b1 := H.b1; have b3 := H.b3; have b4 := H.b4; have b5 := H.b5
  intro j
  induction j with
  | zero =>
    intro i h0 hi hP
    apply wp_X9_isHome_2
    try simp only [p7, g2]
    (repeat (refine And.intro (by omega) ?_))
    rw [if_neg (by omega)]
    (repeat (refine And.intro (by omega) ?_))
    exact hP
  | succ j ih =>
    intro i h0 hi hP
    have wi : w32 (i + 1) = i + 1 := w32i (by omega) (by omega)
    apply wp_X9_isHome_2
    simp only [p7, g2, wi]
    (repeat (refine And.intro (by omega) ?_))
    rw [if_pos (by omega)]
    simp only [fi] at hP
    skip
    (repeat (refine And.intro (by omega) ?_))
    by_cases hp : c (t + 2) i = k
    · rw [if_pos (decide_eq_true hp)] at hP
      simp only [hp, if_true, if_false, true_and, and_self, not_true_eq_false, ne_eq, not_false_eq_true]
      first | exact hP | exact ⟨by omega, hP⟩
    · rw [if_neg (by simpa using hp)] at hP
      simp only [hp, if_true, if_false, not_false_eq_true]
      exact ih _ (by omega) (by omega) hP
theorem q_isHome (t k : Int) (H : TLs G c t) : EvI (d + 1) mX9_isHome [mR 15 t, mI k] (G, c) P = P (fi (fun i => decide (c (t + 2) i = k)) (fun _ => 1) 0 (c t 3).toNat 0) (G, c) := evI_eq (ev_X9_isHome d _ G c t k H.n (l_isHome d _ G c t k H (c t 3).toNat 0 (by omega) (by have := H.b3; omega) ⟨rfl, rfl⟩)) P
theorem l_isUnsure (t k : Int) (H : TLs G c t) : ∀ (j : Nat) (i : Int), 0 ≤ i → i + j = c t 5 → P (fi (fun i => decide (c (t + 4) i = k)) (fun i => 1) (0) j i) (G, c) → At (d + 1) mX9_isUnsure 2 [mR 15 t, mI k, mI i] [] (G, c) (QI P) := by
  have hn := H.n; have p7 := H.p7; have p9 := H.p9; have p10 := H.p10; have p8 := H.p8; have p13 := H.p13; have g2 := H.g2; have g3 := H.g3; have g4 := H.g4; have g5 := H.g5; have b1 := H.b1; have b3 := H.b3; have b4 := H.b4; have b5 := H.b5
  intro j
  induction j with
  | zero =>
    intro i h0 hi hP
    apply wp_X9_isUnsure_2
    try simp only [p9, g4]
    (repeat (refine And.intro (by omega) ?_))
    rw [if_neg (by omega)]
    (repeat (refine And.intro (by omega) ?_))
    exact hP
  | succ j ih =>
    intro i h0 hi hP
    have wi : w32 (i + 1) = i + 1 := w32i (by omega) (by omega)
    apply wp_X9_isUnsure_2
    simp only [p9, g4, wi]
    (repeat (refine And.intro (by omega) ?_))
    rw [if_pos (by omega)]
    simp only [fi] at hP
    skip
    (repeat (refine And.intro (by omega) ?_))
    by_cases hp : c (t + 4) i = k
    · rw [if_pos (decide_eq_true hp)] at hP
      simp only [hp, if_true, if_false, true_and, and_self, not_true_eq_false, ne_eq, not_false_eq_true]
      first | exact hP | exact ⟨by omega, hP⟩
    · rw [if_neg (by simpa using hp)] at hP
      simp only [hp, if_true, if_false, not_false_eq_true]
      exact ih _ (by omega) (by omega) hP
theorem q_isUnsure (t k : Int) (H : TLs G c t) : EvI (d + 1) mX9_isUnsure [mR 15 t, mI k] (G, c) P = P (fi (fun i => decide (c (t + 4) i = k)) (fun _ => 1) 0 (c t 5).toNat 0) (G, c) := evI_eq (ev_X9_isUnsure d _ G c t k H.n (l_isUnsure d _ G c t k H (c t 5).toNat 0 (by omega) (by have := H.b5; omega) ⟨rfl, rfl⟩)) P
theorem l_homeStand (t : Int) (H : TLs G c t) : ∀ (j : Nat) (i : Int) (s : Int), 0 ≤ i → i + j = c t 3 → P (fo (fun i s => o_or s (o_shl (c (t + 2) i) (w32 (3 * i)))) j i s) (G, c) → At (d + 1) mX9_homeStand 4 [mR 15 t, mI s, mI i] [] (G, c) (QI P) := by
  have hn := H.n; have p7 := H.p7; have p9 := H.p9; have p10 := H.p10; have p8 := H.p8; have p13 := H.p13; have g2 := H.g2; have g3 := H.g3; have g4 := H.g4; have g5 := H.g5; have b1 := H.b1; have b3 := H.b3; have b4 := H.b4; have b5 := H.b5
  intro j
  induction j with
  | zero =>
    intro i s h0 hi hP
    apply wp_X9_homeStand_4
    try simp only [p7, g2]
    (repeat (refine And.intro (by omega) ?_))
    rw [if_neg (by omega)]
    skip
    exact hP
  | succ j ih =>
    intro i s h0 hi hP
    have wi : w32 (i + 1) = i + 1 := w32i (by omega) (by omega)
    apply wp_X9_homeStand_4
    simp only [p7, g2, wi]
    (repeat (refine And.intro (by omega) ?_))
    rw [if_pos (by omega)]
    simp only [fo] at hP
    skip
    (repeat' (first | (refine And.intro (by omega) ?_) | (split <;> rename_i hc <;> (first | rw [if_pos hc] at hP | rw [if_neg hc] at hP))))
    all_goals exact ih _ _ (by omega) (by omega) hP
theorem q_homeStand (t : Int) (H : TLs G c t) : EvI (d + 1) mX9_homeStand [mR 15 t] (G, c) P = P (hmS c t) (G, c) := evI_eq (ev_X9_homeStand d _ G c t H.n (l_homeStand d _ G c t H (c t 3).toNat 0 0 (by omega) (by have := H.b3; omega) ⟨rfl, rfl⟩)) P
theorem l_standBy (t b : Int) (H : TLs G c t) : ∀ (j : Nat) (i : Int) (s : Int), 0 ≤ i → i + j = c t 5 → P (fo (fun i s => if bt b i = 1 then wth s (c (t + 4) i) (c (t + 5) i) else s) j i s) (G, c) → At (d + 2) mX9_standBy 7 [mR 15 t, mI b, mI s, mI i] [] (G, c) (QI P) := by
  have hn := H.n; have p7 := H.p7; have p9 := H.p9; have p10 := H.p10; have p8 := H.p8; have p13 := H.p13; have g2 := H.g2; have g3 := H.g3; have g4 := H.g4; have g5 := H.g5; have b1 := H.b1; have b3 := H.b3; have b4 := H.b4; have b5 := H.b5
  intro j
  induction j with
  | zero =>
    intro i s h0 hi hP
    apply wp_X9_standBy_7
    try simp only [p9, p10, g4, g5, q_X7_with]
    (repeat (refine And.intro (by omega) ?_))
    rw [if_neg (by omega)]
    skip
    exact hP
  | succ j ih =>
    intro i s h0 hi hP
    have wi : w32 (i + 1) = i + 1 := w32i (by omega) (by omega)
    apply wp_X9_standBy_7
    simp only [p9, p10, g4, g5, q_X7_with, wi]
    (repeat (refine And.intro (by omega) ?_))
    rw [if_pos (by omega)]
    simp only [fo] at hP
    simp only [bt] at hP
    (repeat' (first | (refine And.intro (by omega) ?_) | (split <;> rename_i hc <;> (first | rw [if_pos hc] at hP | rw [if_neg hc] at hP))))
    all_goals exact ih _ _ (by omega) (by omega) hP
theorem q_standBy (t b : Int) (H : TLs G c t) : EvI (d + 2) mX9_standBy [mR 15 t, mI b] (G, c) P = P (stB c t b) (G, c) := evI_eq (ev_X9_standBy (d + 1) _ G c t b H.n (by rw [q_homeStand _ _ _ _ t H]; exact l_standBy d _ G c t b H (c t 5).toNat 0 _ (by omega) (by have := H.b5; omega) ⟨rfl, rfl⟩)) P
theorem l_areUnlike (t st : Int) (H : TLs G c t) (P0 : Int → MM → Prop) (hP0 : ∀ s, P s (G, c) → (if pop s = c t 3 then P0 1 (G, c) else P0 0 (G, c))) : ∀ (j : Nat) (i : Int) (s : Int), 0 ≤ i → i + j = c t 3 → P (fo (fun i s => o_or s (o_shl 1 (dg st i))) j i s) (G, c) → At (d + 2) mX9_areUnlike 4 [mR 15 t, mI st, mI s, mI i] [] (G, c) (QI P0) := by
  have hn := H.n; have p7 := H.p7; have p9 := H.p9; have p10 := H.p10; have p8 := H.p8; have p13 := H.p13; have g2 := H.g2; have g3 := H.g3; have g4 := H.g4; have g5 := H.g5; have b1 := H.b1; have b3 := H.b3; have b4 := H.b4; have b5 := H.b5
  intro j
  induction j with
  | zero =>
    intro i s h0 hi hP
    apply wp_X9_areUnlike_4
    try simp only [q_X7_at, q_J6_bitCount]
    (repeat (refine And.intro (by omega) ?_))
    rw [if_neg (by omega)]
    skip
    have := hP0 _ hP; simp only [fo] at this; split <;> simp_all
  | succ j ih =>
    intro i s h0 hi hP
    have wi : w32 (i + 1) = i + 1 := w32i (by omega) (by omega)
    apply wp_X9_areUnlike_4
    simp only [q_X7_at, q_J6_bitCount, wi]
    (repeat (refine And.intro (by omega) ?_))
    rw [if_pos (by omega)]
    simp only [fo] at hP
    skip
    (repeat' (first | (refine And.intro (by omega) ?_) | (split <;> rename_i hc <;> (first | rw [if_pos hc] at hP | rw [if_neg hc] at hP))))
    all_goals exact ih _ _ (by omega) (by omega) hP
theorem q_areUnlike (t st : Int) (H : TLs G c t) : EvI (d + 2) mX9_areUnlike [mR 15 t, mI st] (G, c) P = P (unl c t st) (G, c) := evI_eq (ev_X9_areUnlike (d + 1) _ G c t st H.n (l_areUnlike d (fun s _ => s = fo (fun i s => o_or s (o_shl 1 (dg st i))) (c t 3).toNat 0 0) G c t st H _ (fun s hs => by subst hs; unfold unl; split <;> simp_all) (c t 3).toNat 0 0 (by omega) (by have := H.b3; omega) rfl)) P
theorem q_unsureSets (t : Int) (H : TLs G c t) : EvI (d + 1) mX9_unsureSets [mR 15 t] (G, c) P = P (o_shl 1 (c t 5)) (G, c) := evI_eq (ev_X9_unsureSets d _ G c t H.n ⟨H.n, rfl, rfl⟩) P
theorem l_fitting (t : Int) (H : TLs G c t) : ∀ (j : Nat) (i : Int) (s : Int), 0 ≤ i → i + j = o_shl 1 (c t 5) → P (fo (fun i s => if unl c t (stB c t i) = 0 then s else if hld c (t + 14) (stB c t i) = w32 ((o_shl 1 (c (t + 14) 3)) - 1) then o_or s (o_shl 1 i) else s) j i s) (G, c) → At (d + 3) mX9_fitting 4 [mR 15 t, mI s, mI i, MU] [] (G, c) (QI P) := by
  have hn := H.n; have p7 := H.p7; have p9 := H.p9; have p10 := H.p10; have p8 := H.p8; have p13 := H.p13; have g2 := H.g2; have g3 := H.g3; have g4 := H.g4; have g5 := H.g5; have b1 := H.b1; have b3 := H.b3; have b4 := H.b4; have b5 := H.b5; have hb := shl1_le b5.1 b5.2
  intro j
  induction j with
  | zero =>
    intro i s h0 hi hP
    apply wp_X9_fitting_4
    try simp only [q_unsureSets _ _ _ _ t H, q_standBy _ _ _ _ t _ H, q_areUnlike _ _ _ _ t _ H, q_holding _ _ _ _ (t + 14) 5 _ H.s, q_all _ _ _ _ (t + 14) 5 H.s, p13]
    (repeat (refine And.intro (by omega) ?_))
    rw [if_neg (by omega)]
    skip
    exact hP
  | succ j ih =>
    intro i s h0 hi hP
    have wi : w32 (i + 1) = i + 1 := w32i (by omega) (by omega)
    apply wp_X9_fitting_4
    simp only [q_unsureSets _ _ _ _ t H, q_standBy _ _ _ _ t _ H, q_areUnlike _ _ _ _ t _ H, q_holding _ _ _ _ (t + 14) 5 _ H.s, q_all _ _ _ _ (t + 14) 5 H.s, p13, wi]
    (repeat (refine And.intro (by omega) ?_))
    rw [if_pos (by omega)]
    simp only [fo] at hP
    skip
    (repeat' (first | (refine And.intro (by omega) ?_) | (split <;> rename_i hc <;> (first | rw [if_pos hc] at hP | rw [if_neg hc] at hP))))
    all_goals exact ih _ _ (by omega) (by omega) hP
theorem q_fitting (t : Int) (H : TLs G c t) : EvI (d + 3) mX9_fitting [mR 15 t] (G, c) P = P (fit c t) (G, c) := evI_eq (ev_X9_fitting (d + 2) _ G c t H.n (l_fitting d _ G c t H (o_shl 1 (c t 5)).toNat 0 0 (by omega) (by have := shl1_le H.b5.1 H.b5.2; omega) ⟨rfl, rfl⟩)) P
theorem l_leftAtMost (t f u : Int) (H : TLs G c t) (P0 : Int → MM → Prop) (hP0 : ∀ s, P s (G, c) → P0 (if s < w32 (pop f - s) then w32 (pop f - s) else s) (G, c)) : ∀ (j : Nat) (i : Int) (s : Int), 0 ≤ i → i + j = o_shl 1 (c t 5) → P (fo (fun i s => w32 (s + o_and (bt f i) (bt i u))) j i s) (G, c) → At (d + 2) mX9_leftAtMost 5 [mR 15 t, mI f, mI u, mI s, mI i] [] (G, c) (QI P0) := by
  have hn := H.n; have p7 := H.p7; have p9 := H.p9; have p10 := H.p10; have p8 := H.p8; have p13 := H.p13; have g2 := H.g2; have g3 := H.g3; have g4 := H.g4; have g5 := H.g5; have b1 := H.b1; have b3 := H.b3; have b4 := H.b4; have b5 := H.b5; have hb := shl1_le b5.1 b5.2
  intro j
  induction j with
  | zero =>
    intro i s h0 hi hP
    apply wp_X9_leftAtMost_5
    try simp only [q_unsureSets _ _ _ _ t H, q_J6_bitCount, q_J9_max]
    (repeat (refine And.intro (by omega) ?_))
    rw [if_neg (by omega)]
    skip
    exact hP0 _ hP
  | succ j ih =>
    intro i s h0 hi hP
    have wi : w32 (i + 1) = i + 1 := w32i (by omega) (by omega)
    apply wp_X9_leftAtMost_5
    simp only [q_unsureSets _ _ _ _ t H, q_J6_bitCount, q_J9_max, wi]
    (repeat (refine And.intro (by omega) ?_))
    rw [if_pos (by omega)]
    simp only [fo] at hP
    skip
    (repeat' (first | (refine And.intro (by omega) ?_) | (split <;> rename_i hc <;> (first | rw [if_pos hc] at hP | rw [if_neg hc] at hP))))
    all_goals exact ih _ _ (by omega) (by omega) hP
theorem q_leftAtMost (t f u : Int) (H : TLs G c t) : EvI (d + 2) mX9_leftAtMost [mR 15 t, mI f, mI u] (G, c) P = P (lam c t f u) (G, c) := evI_eq (ev_X9_leftAtMost (d + 1) _ G c t f u H.n (l_leftAtMost d (fun s _ => s = fo (fun i s => w32 (s + o_and (bt f i) (bt i u))) (o_shl 1 (c t 5)).toNat 0 0) G c t f u H _ (fun s hs => by subst hs; exact ⟨rfl, rfl⟩) (o_shl 1 (c t 5)).toNat 0 0 (by omega) (by have := shl1_le H.b5.1 H.b5.2; omega) rfl)) P
theorem l_shakeWeight (t n : Int) (H : TLs G c t) (hn0 : 0 ≤ n) (hn1 : n ≤ 1000) : ∀ (j : Nat) (i : Int) (s : Int), 0 ≤ i → i + j = n → P (fo (fun _ s => w64 (s * (w32 (100 * c t 4)))) j i s) (G, c) → At (d + 1) mX9_shakeWeight 5 [mR 15 t, mI n, mL s, MU, mI i] [] (G, c) (QL P) := by
  have hn := H.n; have p7 := H.p7; have p9 := H.p9; have p10 := H.p10; have p8 := H.p8; have p13 := H.p13; have g2 := H.g2; have g3 := H.g3; have g4 := H.g4; have g5 := H.g5; have b1 := H.b1; have b3 := H.b3; have b4 := H.b4; have b5 := H.b5
  intro j
  induction j with
  | zero =>
    intro i s h0 hi hP
    apply wp_X9_shakeWeight_5
    skip
    (repeat (refine And.intro (by omega) ?_))
    rw [if_neg (by omega)]
    skip
    exact hP
  | succ j ih =>
    intro i s h0 hi hP
    have wi : w32 (i + 1) = i + 1 := w32i (by omega) (by omega)
    apply wp_X9_shakeWeight_5
    simp only [wi]
    (repeat (refine And.intro (by omega) ?_))
    rw [if_pos (by omega)]
    simp only [fo] at hP
    skip
    (repeat' (first | (refine And.intro (by omega) ?_) | (split <;> rename_i hc <;> (first | rw [if_pos hc] at hP | rw [if_neg hc] at hP))))
    all_goals exact ih _ _ (by omega) (by omega) hP
theorem q_shakeWeight (t n : Int) (H : TLs G c t) (hn0 : 0 ≤ n) (hn1 : n ≤ 1000) : EvL (d + 1) mX9_shakeWeight [mR 15 t, mI n] (G, c) P = P (shw c t n) (G, c) := evL_eq (ev_X9_shakeWeight d _ G c t n H.n (l_shakeWeight d _ G c t n H hn0 hn1 n.toNat 0 1 (by omega) (by omega) ⟨rfl, rfl⟩)) P
theorem l_changeBy (t n : Int) (H : TLs G c t) (hn1 : n ≤ 6) : ∀ (j : Nat) (i y l : Int), 0 ≤ i → i + j = n → 0 ≤ l → l < 2147483648 → P (chF c t j y l) (G, c) → At (d + 3) mX9_changeBy 30 [mR 15 t, MU, mI n, mI y, mI l, mI i, MU] [] (G, c) (QI P) := by
  have hn := H.n; have p7 := H.p7; have p9 := H.p9; have p10 := H.p10; have p8 := H.p8; have p13 := H.p13; have g2 := H.g2; have g3 := H.g3; have g4 := H.g4; have g5 := H.g5; have b1 := H.b1; have b3 := H.b3; have b4 := H.b4; have b5 := H.b5
  intro j
  induction j with
  | zero =>
    intro i y l h0 hi hl0 hl hP
    apply wp_X9_changeBy_30
    rw [if_neg (by omega)]
    simp only [chF] at hP
    split <;> rename_i hc
    · rw [if_pos hc] at hP; exact hP
    · rw [if_neg hc] at hP; exact hP
  | succ j ih =>
    intro i y l h0 hi hl0 hl hP
    have wi : w32 (i + 1) = i + 1 := w32i (by omega) (by omega)
    obtain ⟨r1, r2⟩ := rem10 hl0 hl
    apply wp_X9_changeBy_30
    rw [if_pos (by omega)]
    refine ⟨by omega, ?_⟩
    simp only [chF] at hP
    have hw : w32 (o_rem l 10 - 1) = o_rem l 10 - 1 := w32i (by omega) (by omega)
    split <;> rename_i hc
    · rw [if_pos hc] at hP; exact hP
    · rw [if_neg hc] at hP
      refine ⟨hn, ?_⟩
      split <;> rename_i hc2
      · rw [if_pos hc2] at hP; exact hP
      · rw [if_neg hc2] at hP
        simp only [p8, g3, wi, q_X7_through _ _ _ _ _ _ _ (show c t 1 ≤ 1000 by omega)]
        refine ⟨hn, ⟨by omega, by omega, by omega⟩, hn, by omega, ?_⟩
        exact ih _ _ _ (by omega) (by omega) (by omega) (by omega) hP
theorem q_changeBy (t r n : Int) (H : TLs G c t) (hr : r < 2147483648) : EvI (d + 4) mX9_changeBy [mR 15 t, mI r, mI n] (G, c) P = P (chb c t r n) (G, c) := by
  refine evI_eq (ev_X9_changeBy (d + 3) _ G c t r n H.n ?_) P
  unfold chb
  split
  · rw [if_pos (by omega)]; exact ⟨rfl, rfl⟩
  · split
    · rw [if_pos (by omega)]; exact ⟨rfl, rfl⟩
    · split
      · rw [if_pos (by omega)]; exact ⟨rfl, rfl⟩
      · rw [if_neg (by omega)]
        simp only [q_X7_same]
        refine ⟨H.n, ?_⟩
        exact l_changeBy (d + 1) _ G c t n H (by omega) n.toNat 0 _ r (by omega) (by omega) (by omega) hr ⟨rfl, rfl⟩
end
