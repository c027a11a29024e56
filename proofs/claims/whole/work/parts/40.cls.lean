/-! the class: its object (0), the told one t -/
def CI (G : MG) (c : MC) (t : Int) : Prop := (t = 1 ∨ t = 24) ∧ (c 0 0 = t) ∧ (c 0 1 = 19) ∧ (c 0 2 = 42) ∧ (c 0 3 = 45) ∧ (c 0 4 = 52) ∧ (c 0 5 = 59) ∧ (TLs G c t)
theorem CI.t {G : MG} {c : MC} {t : Int} (h : CI G c t) : t = 1 ∨ t = 24 := h.1
theorem CI.p0 {G : MG} {c : MC} {t : Int} (h : CI G c t) : c 0 0 = t := h.2.1
theorem CI.p2 {G : MG} {c : MC} {t : Int} (h : CI G c t) : c 0 1 = 19 := h.2.2.1
theorem CI.p3 {G : MG} {c : MC} {t : Int} (h : CI G c t) : c 0 2 = 42 := h.2.2.2.1
theorem CI.p4 {G : MG} {c : MC} {t : Int} (h : CI G c t) : c 0 3 = 45 := h.2.2.2.2.1
theorem CI.p5 {G : MG} {c : MC} {t : Int} (h : CI G c t) : c 0 4 = 52 := h.2.2.2.2.2.1
theorem CI.p6 {G : MG} {c : MC} {t : Int} (h : CI G c t) : c 0 5 = 59 := h.2.2.2.2.2.2.1
theorem CI.H {G : MG} {c : MC} {t : Int} (h : CI G c t) : TLs G c t := h.2.2.2.2.2.2.2
section
variable (d : Nat) (P : Int → MM → Prop) (G : MG) (c : MC) (t : Int) (I : CI G c t)
theorem q_refused (wy : Int) : EvI (d + 1) mX10_refused [mR 16 0, mI wy] (G, c) P = P (-1) (G, up c 0 6 wy) := evI_eq (ev_X10_refused d _ G c 0 wy (by decide) ⟨by decide, by rintro _ rfl; exact ⟨rfl, rfl⟩⟩) P
theorem q_fine (v : Int) : EvI (d + 1) mX10_fine [mR 16 0, mI v] (G, c) P = P v (G, up c 0 6 0) := evI_eq (ev_X10_fine d _ G c 0 v (by decide) ⟨by decide, by rintro _ rfl; exact ⟨rfl, rfl⟩⟩) P
theorem q_fineLong (v : Int) : EvL (d + 1) mX10_fineLong [mR 16 0, mL v] (G, c) P = P v (G, up c 0 6 0) := evL_eq (ev_X10_fineLong d _ G c 0 v (by decide) ⟨by decide, by rintro _ rfl; exact ⟨rfl, rfl⟩⟩) P
theorem q_isTube (I : CI G c t) : EvI (d + 1) mX10_isTube [mR 16 0] (G, c) P = P (if 0 < c t 1 then 1 else 0) (G, c) := evI_eq (ev_X10_isTube d _ G c 0 (by decide) (by have ht := I.t; rw [I.p0]; grind)) P
theorem q_isPerson (I : CI G c t) (p : Int) : EvI (d + 1) mX10_isPerson [mR 16 0, mI p] (G, c) P = P (if 0 ≤ p ∧ p < c t 3 then 1 else 0) (G, c) := evI_eq (ev_X10_isPerson d _ G c 0 p (by decide) (by have ht := I.t; rw [I.p0]; grind)) P
theorem q_isSlot (I : CI G c t) (p : Int) : EvI (d + 1) mX10_isSlot [mR 16 0, mI p] (G, c) P = P (if 0 ≤ p ∧ p < c t 1 then 1 else 0) (G, c) := evI_eq (ev_X10_isSlot d _ G c 0 p (by decide) (by have ht := I.t; rw [I.p0]; grind)) P
theorem q_isTurn (I : CI G c t) (p : Int) : EvI (d + 1) mX10_isTurn [mR 16 0, mI p] (G, c) P = P (if 0 ≤ p ∧ p < c t 4 then 1 else 0) (G, c) := evI_eq (ev_X10_isTurn d _ G c 0 p (by decide) (by have ht := I.t; rw [I.p0]; grind)) P
theorem q_areTwo (I : CI G c t) (p q : Int) : EvI (d + 2) mX10_areTwo [mR 16 0, mI p, mI q] (G, c) P = P (if (0 ≤ p ∧ p < c t 3) ∧ (0 ≤ q ∧ q < c t 3) ∧ p ≠ q then 1 else 0) (G, c) := evI_eq (ev_X10_areTwo (d + 1) _ G c 0 p q (by decide) (by simp only [q_isPerson _ _ _ _ t I]; grind)) P
theorem q_areColours (k : Int) : EvI (d + 1) mX10_areColours [mI k] (G, c) P = P (if 1 ≤ k ∧ k ≤ 9 then 1 else 0) (G, c) := evI_eq (ev_X10_areColours d _ G c k (by grind)) P
theorem q_areBeads (k : Int) : EvI (d + 1) mX10_areBeads [mI k] (G, c) P = P (if 1 ≤ k ∧ k ≤ 12 then 1 else 0) (G, c) := evI_eq (ev_X10_areBeads d _ G c k (by grind)) P
theorem q_isBlue (k : Int) : EvI (d + 1) mX10_isBlue [mI k] (G, c) P = P (if 0 ≤ k ∧ k ≤ 9 then 1 else 0) (G, c) := evI_eq (ev_X10_isBlue d _ G c k (by grind)) P
theorem q_isSeed (k : Int) : EvI (d + 1) mX10_isSeed [mI k] (G, c) P = P (if 0 ≤ k ∧ k ≤ 65536 then 1 else 0) (G, c) := evI_eq (ev_X10_isSeed d _ G c k (by grind)) P
theorem q_slotOf (I : CI G c t) (p : Int) : EvI (d + 2) mX10_slotOf [mR 16 0, mI p] (G, c) P = P (dg (c 42 0) p) (G, c) := evI_eq (ev_X10_slotOf (d + 1) _ G c 0 p (by decide) (by simp only [I.p3, q_X7_at]; simp)) P
theorem q_sectors (I : CI G c t) : EvI (d + 1) mX10_sectors [mR 16 0] (G, c) P = P (2 * c t 0) (G, c) := evI_eq (ev_X10_sectors d _ G c 0 (by decide) (by have ht := I.t; have b0 := I.H.b0; rw [I.p0, w32i (by omega) (by omega)]; exact ⟨by omega, by omega, rfl, rfl⟩)) P
theorem q_places (I : CI G c t) : EvI (d + 2) mX10_places [mR 16 0] (G, c) P = P (2 * c t 0 * c t 1) (G, c) := evI_eq (ev_X10_places (d + 1) _ G c 0 (by decide) (by
  have ht := I.t; have b0 := I.H.b0; have b1 := I.H.b1
  have e : 2 * c t 0 * c t 1 ≤ 18 * 6 := Int.mul_le_mul (by omega) (by omega) (by omega) (by omega)
  have e0 : 0 ≤ 2 * c t 0 * c t 1 := Int.mul_nonneg (by omega) (by omega)
  simp only [q_sectors d _ G c t I, I.p0]
  rw [w32i (x := 2 * c t 0 * c t 1) (by omega) (by omega)]
  refine ⟨by omega, by omega, ?_⟩
  simp)) P
theorem q_isPlace (I : CI G c t) (i : Int) : EvI (d + 3) mX10_isPlace [mR 16 0, mI i] (G, c) P = P (if 0 ≤ i ∧ i < 2 * c t 0 * c t 1 then 1 else 0) (G, c) := evI_eq (ev_X10_isPlace (d + 2) _ G c 0 i (by decide) (by simp only [q_places d _ G c t I]; grind)) P
theorem q_slotAt (I : CI G c t) (i : Int) (h : c t 1 ≠ 0) : EvI (d + 1) mX10_slotAt [mR 16 0, mI i] (G, c) P = P (ssl (c t 1) i) (G, c) := evI_eq (ev_X10_slotAt d _ G c 0 i (by decide) (by
  have ht := I.t
  rw [I.p0]; unfold ssl
  refine ⟨by omega, by omega, ?_⟩
  rw [if_neg h]
  refine ⟨by omega, by omega, h, by omega, by omega, h, by omega, ?_⟩
  split
  · rw [if_neg (by decide)]; exact ⟨rfl, rfl⟩
  · rw [if_pos rfl]; exact ⟨by omega, by omega, rfl, rfl⟩)) P
theorem q_placeIn (I : CI G c t) (s k : Int) (hs : 0 ≤ s) (hs' : s < 1000) (hk : 0 ≤ k) (hk' : k < 10) : EvI (d + 1) mX10_placeIn [mR 16 0, mI s, mI k] (G, c) P = P (if s % 2 = 0 then s * c t 1 + k else s * c t 1 + (c t 1 - 1 - k)) (G, c) := evI_eq (ev_X10_placeIn d _ G c 0 s k (by decide) (by
  have ht := I.t; have b1 := I.H.b1
  have e0 : 0 ≤ s * c t 1 := Int.mul_nonneg hs b1.1
  have e1 : s * c t 1 ≤ 1000 * 6 := Int.mul_le_mul (by omega) (by omega) (by omega) (by omega)
  rw [I.p0, o_rem_of hs (by omega) (by omega) (by omega), w32i (x := s * c t 1) (by omega) (by omega), w32i (x := c t 1 - 1) (by omega) (by omega), w32i (x := c t 1 - 1 - k) (by omega) (by omega), w32i (x := s * c t 1 + k) (by omega) (by omega), w32i (x := s * c t 1 + (c t 1 - 1 - k)) (by omega) (by omega)]
  refine ⟨by omega, ?_⟩
  split
  · exact ⟨by omega, by omega, rfl, rfl⟩
  · exact ⟨by omega, by omega, by omega, by omega, rfl, rfl⟩)) P
theorem l_whoIsIn (I : CI G c t) (k : Int) : ∀ (j : Nat) (i : Int), 0 ≤ i → i + j = c t 3 → P (fi (fun i => decide (dg (c 42 0) i = k)) (fun i => i) (-2) j i) (G, c) → At (d + 3) mX10_whoIsIn 2 [mR 16 0, mI k, mI i] [] (G, c) (QI P) := by
  have ht := I.t; have b3 := I.H.b3; have b5 := I.H.b5; have b1 := I.H.b1; have b4 := I.H.b4
  intro j
  induction j with
  | zero =>
    intro i h0 hi hP
    apply wp_X10_whoIsIn_2
    try simp only [I.p0, q_slotOf d _ G c t I]
    (repeat (refine And.intro (by first | omega | (simp only [true_and, and_true, and_self]; omega) | (simp only [true_and, and_true, and_self])) ?_))
    rw [if_neg (by omega)]
    (repeat (refine And.intro (by first | omega | (simp only [true_and, and_true, and_self]; omega) | (simp only [true_and, and_true, and_self])) ?_))
    exact hP
  | succ j ih =>
    intro i h0 hi hP
    have wi : w32 (i + 1) = i + 1 := w32i (by omega) (by omega)
    apply wp_X10_whoIsIn_2
    simp only [I.p0, q_slotOf d _ G c t I, wi]
    (repeat (refine And.intro (by first | omega | (simp only [true_and, and_true, and_self]; omega) | (simp only [true_and, and_true, and_self])) ?_))
    rw [if_pos (by omega)]
    simp only [fi] at hP
    skip
    (repeat (refine And.intro (by first | omega | (simp only [true_and, and_true, and_self]; omega) | (simp only [true_and, and_true, and_self])) ?_))
    by_cases hp : dg (c 42 0) i = k
    · rw [if_pos (decide_eq_true hp)] at hP
      simp only [hp, if_true, if_false, true_and, and_self, not_true_eq_false, ne_eq, not_false_eq_true]
      first | exact hP | exact ⟨by omega, hP⟩
    · rw [if_neg (by simpa using hp)] at hP
      simp only [hp, if_true, if_false, not_false_eq_true]
      exact ih _ (by omega) (by omega) hP
theorem q_whoIsIn (I : CI G c t) (k : Int) : EvI (d + 3) mX10_whoIsIn [mR 16 0, mI k] (G, c) P = P (whoF (dg (c 42 0)) (c t 3) k) (G, c) := evI_eq (ev_X10_whoIsIn (d + 2) _ G c 0 k (by decide) (l_whoIsIn d _ G c t I k (c t 3).toNat 0 (by omega) (by have := I.H.b3; omega) ⟨rfl, rfl⟩)) P
def bsc (x : Int → Int) (m p : Int) : Int := fo (fun q s => if bes (x p) (x q) = 0 then s else o_or s (o_shl 1 q)) m.toNat 0 0
theorem l_besideBits (I : CI G c t) (p : Int) : ∀ (j : Nat) (i : Int) (s : Int), 0 ≤ i → i + j = c t 3 → P (fo (fun q s => if bes (dg (c 42 0) p) (dg (c 42 0) q) = 0 then s else o_or s (o_shl 1 q)) j i s) (G, c) → At (d + 3) mX10_besideBits 4 [mR 16 0, mI p, mI s, mI i] [] (G, c) (QI P) := by
  have ht := I.t; have b3 := I.H.b3; have b5 := I.H.b5; have b1 := I.H.b1; have b4 := I.H.b4
  intro j
  induction j with
  | zero =>
    intro i s h0 hi hP
    apply wp_X10_besideBits_4
    try simp only [I.p0, q_slotOf d _ G c t I, q_X7_areBeside]
    (repeat (refine And.intro (by first | omega | (simp only [true_and, and_true, and_self]; omega) | (simp only [true_and, and_true, and_self])) ?_))
    rw [if_neg (by omega)]
    skip
    exact hP
  | succ j ih =>
    intro i s h0 hi hP
    have wi : w32 (i + 1) = i + 1 := w32i (by omega) (by omega)
    apply wp_X10_besideBits_4
    simp only [I.p0, q_slotOf d _ G c t I, q_X7_areBeside, wi]
    (repeat (refine And.intro (by first | omega | (simp only [true_and, and_true, and_self]; omega) | (simp only [true_and, and_true, and_self])) ?_))
    rw [if_pos (by omega)]
    simp only [fo] at hP
    skip
    (repeat' (first | (refine And.intro (by omega) ?_) | (split <;> rename_i hc <;> (first | rw [if_pos hc] at hP | rw [if_neg hc] at hP))))
    all_goals exact ih _ _ (by omega) (by omega) hP
theorem q_besideBits (I : CI G c t) (p : Int) : EvI (d + 3) mX10_besideBits [mR 16 0, mI p] (G, c) P = P (bsc (dg (c 42 0)) (c t 3) p) (G, c) := evI_eq (ev_X10_besideBits (d + 2) _ G c 0 p (by decide) (l_besideBits d _ G c t I p (c t 3).toNat 0 0 (by omega) (by have := I.H.b3; omega) ⟨rfl, rfl⟩)) P
theorem q_quarrelsBy (I : CI G c t) (st : Int) : EvI (d + 3) mX10_quarrelsBy [mR 16 0, mI st] (G, c) P = P (pop (hld c (t + 6) st)) (G, c) := evI_eq (ev_X10_quarrelsBy (d + 2) _ G c 0 st (by decide) (by have ht := I.t; simp only [I.p0, I.H.p11, q_holding d _ G c (t + 6) 6 st I.H.q, q_J6_bitCount]; refine ⟨by omega, by omega, ?_⟩; simp)) P
def wma (c : MC) (t f : Int) : Int := if f = 0 then -2 else if c t 5 = 0 then -2 else fo (fun u s => if lam c t f u < lam c t f s then u else s) (c t 5 - 1).toNat 1 0
theorem l_whomToAsk (I : CI G c t) (f : Int) : ∀ (j : Nat) (i : Int) (s : Int), 0 ≤ i → i + j = c t 5 → P (fo (fun u s => if lam c t f u < lam c t f s then u else s) j i s) (G, c) → At (d + 3) mX10_whomToAsk 21 [mR 16 0, mI f, mI s, mI i] [] (G, c) (QI P) := by
  have ht := I.t; have b3 := I.H.b3; have b5 := I.H.b5; have b1 := I.H.b1; have b4 := I.H.b4
  intro j
  induction j with
  | zero =>
    intro i s h0 hi hP
    apply wp_X10_whomToAsk_21
    try simp only [I.p0, q_leftAtMost d _ G c t f _ I.H]
    (repeat (refine And.intro (by first | omega | (simp only [true_and, and_true, and_self]; omega) | (simp only [true_and, and_true, and_self])) ?_))
    rw [if_neg (by omega)]
    skip
    exact hP
  | succ j ih =>
    intro i s h0 hi hP
    have wi : w32 (i + 1) = i + 1 := w32i (by omega) (by omega)
    apply wp_X10_whomToAsk_21
    simp only [I.p0, q_leftAtMost d _ G c t f _ I.H, wi]
    (repeat (refine And.intro (by first | omega | (simp only [true_and, and_true, and_self]; omega) | (simp only [true_and, and_true, and_self])) ?_))
    rw [if_pos (by omega)]
    simp only [fo] at hP
    skip
    (repeat' (first | (refine And.intro (by omega) ?_) | (split <;> rename_i hc <;> (first | rw [if_pos hc] at hP | rw [if_neg hc] at hP))))
    all_goals exact ih _ _ (by omega) (by omega) hP
theorem q_whomToAsk (I : CI G c t) (f : Int) : EvI (d + 3) mX10_whomToAsk [mR 16 0, mI f] (G, c) P = P (wma c t f) (G, c) := evI_eq (ev_X10_whomToAsk (d + 2) _ G c 0 f (by decide) (by
  have ht := I.t; have b5 := I.H.b5
  rw [I.p0]; unfold wma
  split
  · exact ⟨rfl, rfl⟩
  · refine ⟨by omega, by omega, ?_⟩
    split
    · exact ⟨rfl, rfl⟩
    · exact l_whomToAsk d _ G c t I f (c t 5 - 1).toNat 1 0 (by omega) (by omega) ⟨rfl, rfl⟩)) P
end
