/-! loops as functions; the words of six; the static methods -/
def fo {α : Type} (f : Int → α → α) : Nat → Int → α → α
  | 0, _, s => s
  | j + 1, i, s => fo f j (i + 1) (f i s)
def fi {β : Type} (p : Int → Bool) (r : Int → β) (e : β) : Nat → Int → β
  | 0, _ => e
  | j + 1, i => if p i = true then r i else fi p r e j (i + 1)
theorem fo_congr {α : Type} {f g : Int → α → α} : ∀ (j : Nat) (i : Int) (s : α), (∀ k s, i ≤ k → k < i + j → f k s = g k s) → fo f j i s = fo g j i s := by
  intro j
  induction j with
  | zero => intro i s _; rfl
  | succ j ih =>
    intro i s h
    simp only [fo]
    rw [h i s (by omega) (by omega)]
    exact ih _ _ (fun k s h1 h2 => h k s (by omega) (by omega))
theorem fi_congr {β : Type} {p q : Int → Bool} {r r' : Int → β} {e : β} : ∀ (j : Nat) (i : Int), (∀ k, i ≤ k → k < i + j → p k = q k ∧ r k = r' k) → fi p r e j i = fi q r' e j i := by
  intro j
  induction j with
  | zero => intro i _; rfl
  | succ j ih =>
    intro i h
    simp only [fi]
    rw [(h i (by omega) (by omega)).1, (h i (by omega) (by omega)).2, ih _ (fun k h1 h2 => h k (by omega) (by omega))]
def wr (c : MC) (a lo n : Int) (f : Int → Int) : MC := fun a' j' => if a' = a ∧ lo ≤ j' ∧ j' < lo + n then f j' else c a' j'
theorem wr_zero {c : MC} {a lo n : Int} {f : Int → Int} (h : n ≤ 0) : wr c a lo n f = c := by
  funext a' j'
  unfold wr
  rw [if_neg (by omega)]
theorem wr_up {c : MC} {a lo n v j : Int} {f : Int → Int} (h : 0 ≤ n) (hj : j = lo + n) (hv : v = f j) : up (wr c a lo n f) a j v = wr c a lo (n + 1) f := by
  subst hj hv
  funext a' j'
  simp only [wr, up]
  by_cases h1 : a' = a ∧ j' = lo + n
  · rw [if_pos h1, if_pos (by omega), h1.2]
  · rw [if_neg h1]
    by_cases h2 : a' = a ∧ lo ≤ j' ∧ j' < lo + n
    · rw [if_pos h2, if_pos (by omega)]
    · rw [if_neg h2, if_neg (by omega)]
theorem wr_in {c : MC} {a lo n j : Int} {f : Int → Int} (h1 : lo ≤ j) (h2 : j < lo + n) : wr c a lo n f a j = f j := by
  unfold wr; rw [if_pos ⟨rfl, h1, h2⟩]
theorem wr_ne {c : MC} {a a' lo n j : Int} {f : Int → Int} (h : a' ≠ a) : wr c a lo n f a' j = c a' j := by
  unfold wr; rw [if_neg (fun q => h q.1)]
theorem wr_out {c : MC} {a a' lo n j : Int} {f : Int → Int} (h : j < lo ∨ lo + n ≤ j) : wr c a lo n f a' j = c a' j := by
  unfold wr; rw [if_neg (by omega)]
theorem up_eq {c : MC} {a j v : Int} : up c a j v a j = v := by unfold up; rw [if_pos ⟨rfl, rfl⟩]
theorem up_na {c : MC} {a j v a' j' : Int} (h : a' ≠ a) : up c a j v a' j' = c a' j' := by unfold up; rw [if_neg (fun q => h q.1)]
theorem up_nj {c : MC} {a j v a' j' : Int} (h : j' ≠ j) : up c a j v a' j' = c a' j' := by unfold up; rw [if_neg (fun q => h q.2)]
/-! words of six -/
def wth (x i v : Int) : Int := o_or (o_and x (o_xor (o_shl 7 (w32 (3 * i))) (-1))) (o_shl v (w32 (3 * i)))
def bes (a b : Int) : Int := if w32 (a - b) = 1 ∨ w32 (b - a) = 1 then 1 else 0
def sam (n : Int) : Int := o_and 181896 (w32 ((o_shl 1 (w32 (3 * n))) - 1))
def evn (a n : Int) : Int := if o_rem (w32 (n - a)) 2 = 0 then 1 else 0
def thr (a b n : Int) : Int := fo (fun i s => o_or s (o_shl (dg b (dg a i)) (w32 (3 * i)))) n.toNat 0 0
def owr (n : Int) : Int := fo (fun i s => o_or s (o_shl (w32 ((w32 (n - 1)) - i)) (w32 (3 * i)))) n.toNat 0 0
def inv6 (x n : Int) : Int := fo (fun i s => o_or s (o_shl i (w32 (3 * dg x i)))) n.toNat 0 0
def fix6 (x n : Int) : Int := fo (fun i s => if dg x i = i then w32 (s + 1) else w32 (s + 0)) n.toNat 0 0
abbrev bt (x k : Int) : Int := o_and (o_shr x k) 1
def cyI (x : Int) : Nat → Int → Int → Int
  | 0, p, _ => p
  | s + 1, p, k => if bt p k = 0 then cyI x s (o_or p (o_shl 1 k)) (dg x k) else p
def cyO (x n : Int) : Nat → Int → Int → Int → Int
  | 0, _, _, q => q
  | j + 1, i, p, q => cyO x n j (i + 1) (cyI x n.toNat p i) (if bt p i = 0 then w32 (q + 1) else q)
def cyc (x n : Int) : Int := cyO x n n.toNat 0 0 0
def orF (x n : Int) : Nat → Int → Int → Int
  | 0, _, t => t
  | j + 1, y, t => if y = sam n then t else orF x n j (thr y x n) (w32 (t + 1))
def ord6 (x n : Int) : Int := orF x n 720 x 1
def pop (x : Int) : Int := o_and (w32 ((w32 ((o_and (w32 ((w32 ((o_and (w32 (x - (o_and (o_ushr x 1) 1431655765))) 858993459) + (o_and (o_ushr (w32 (x - (o_and (o_ushr x 1) 1431655765))) 2) 858993459))) + (o_ushr (w32 ((o_and (w32 (x - (o_and (o_ushr x 1) 1431655765))) 858993459) + (o_and (o_ushr (w32 (x - (o_and (o_ushr x 1) 1431655765))) 2) 858993459))) 4))) 252645135) + (o_ushr (o_and (w32 ((w32 ((o_and (w32 (x - (o_and (o_ushr x 1) 1431655765))) 858993459) + (o_and (o_ushr (w32 (x - (o_and (o_ushr x 1) 1431655765))) 2) 858993459))) + (o_ushr (w32 ((o_and (w32 (x - (o_and (o_ushr x 1) 1431655765))) 858993459) + (o_and (o_ushr (w32 (x - (o_and (o_ushr x 1) 1431655765))) 2) 858993459))) 4))) 252645135) 8))) + (o_ushr (w32 ((o_and (w32 ((w32 ((o_and (w32 (x - (o_and (o_ushr x 1) 1431655765))) 858993459) + (o_and (o_ushr (w32 (x - (o_and (o_ushr x 1) 1431655765))) 2) 858993459))) + (o_ushr (w32 ((o_and (w32 (x - (o_and (o_ushr x 1) 1431655765))) 858993459) + (o_and (o_ushr (w32 (x - (o_and (o_ushr x 1) 1431655765))) 2) 858993459))) 4))) 252645135) + (o_ushr (o_and (w32 ((w32 ((o_and (w32 (x - (o_and (o_ushr x 1) 1431655765))) 858993459) + (o_and (o_ushr (w32 (x - (o_and (o_ushr x 1) 1431655765))) 2) 858993459))) + (o_ushr (w32 ((o_and (w32 (x - (o_and (o_ushr x 1) 1431655765))) 858993459) + (o_and (o_ushr (w32 (x - (o_and (o_ushr x 1) 1431655765))) 2) 858993459))) 4))) 252645135) 8))) 16))) 63
def rkF (x n : Int) : Nat → Int → Int → Int → Int
  | 0, _, r, _ => r
  | j + 1, i, r, u => rkF x n j (i + 1) (w32 ((w32 ((w32 (r * (w32 (n - i)))) + dg x i)) - pop (o_and u (w32 ((o_shl 1 (dg x i)) - 1))))) (o_or u (o_shl 1 (dg x i)))
def rnk (x n : Int) : Int := rkF x n n.toNat 0 0 0
section
variable (d : Nat) (P : Int → MM → Prop) (G : MG) (c : MC)
theorem q_X7_at (x i : Int) : EvI (d + 1) mX7_at [mI x, mI i] (G, c) P = P (dg x i) (G, c) := evI_eq (ev_X7_at d _ G c x i ⟨rfl, rfl⟩) P
theorem q_X7_with (x i v : Int) : EvI (d + 1) mX7_with [mI x, mI i, mI v] (G, c) P = P (wth x i v) (G, c) := evI_eq (ev_X7_with d _ G c x i v ⟨rfl, rfl⟩) P
theorem q_X7_areBeside (a b : Int) : EvI (d + 1) mX7_areBeside [mI a, mI b] (G, c) P = P (bes a b) (G, c) := evI_eq (ev_X7_areBeside d _ G c a b (by unfold bes; grind)) P
theorem q_X12_areBeside (a b : Int) : EvI (d + 1) mX12_areBeside [mI a, mI b] (G, c) P = P (bes a b) (G, c) := evI_eq (ev_X12_areBeside d _ G c a b (by unfold bes; grind)) P
theorem q_X7_same (n : Int) : EvI (d + 1) mX7_same [mI n] (G, c) P = P (sam n) (G, c) := evI_eq (ev_X7_same d _ G c n ⟨rfl, rfl⟩) P
theorem q_X7_isEven (a n : Int) : EvI (d + 1) mX7_isEven [mI a, mI n] (G, c) P = P (evn a n) (G, c) := evI_eq (ev_X7_isEven d _ G c a n (by unfold evn; grind)) P
theorem q_J6_bitCount (x : Int) : EvI (d + 1) mJ6_bitCount_0f7a4 [mI x] (G, c) P = P (pop x) (G, c) := evI_eq (ev_J6_bitCount_0f7a4 d _ G c x ⟨rfl, rfl⟩) P
theorem q_J9_abs (x : Int) : EvI (d + 1) mJ9_abs_0f7a4 [mI x] (G, c) P = P (if x < 0 then w32 (0 - x) else x) (G, c) := evI_eq (ev_J9_abs_0f7a4 d _ G c x (by grind)) P
theorem q_J9_max (x y : Int) : EvI (d + 1) mJ9_max_7cf53 [mI x, mI y] (G, c) P = P (if x < y then y else x) (G, c) := evI_eq (ev_J9_max_7cf53 d _ G c x y (by grind)) P
theorem q_J9_min (x y : Int) : EvI (d + 1) mJ9_min_7cf53 [mI x, mI y] (G, c) P = P (if y < x then y else x) (G, c) := evI_eq (ev_J9_min_7cf53 d _ G c x y (by grind)) P
theorem l_through (a b n : Int) (hn : n ≤ 1000) : ∀ (j : Nat) (i s : Int), 0 ≤ i → i + j = max n 0 → P (fo (fun i s => o_or s (o_shl (dg b (dg a i)) (w32 (3 * i)))) j i s) (G, c) → At (d + 2) mX7_through 5 [mI a, mI b, mI n, mI s, mI i] [] (G, c) (QI P) := by
  intro j
  induction j with
  | zero => intro i s h0 hi hP; apply wp_X7_through_5; rw [if_neg (by omega)]; exact hP
  | succ j ih =>
    intro i s h0 hi hP
    apply wp_X7_through_5
    rw [if_pos (by omega)]
    simp only [q_X7_at]
    rw [w32i (x := i + 1) (by omega) (by omega)]
    exact ih _ _ (by omega) (by omega) hP
theorem q_X7_through (a b n : Int) (hn : n ≤ 1000) : EvI (d + 2) mX7_through [mI a, mI b, mI n] (G, c) P = P (thr a b n) (G, c) := evI_eq (ev_X7_through (d + 1) _ G c a b n (l_through d _ G c a b n hn n.toNat 0 0 (by omega) (by omega) ⟨rfl, rfl⟩)) P
theorem l_owr (n : Int) (hn : n ≤ 1000) : ∀ (j : Nat) (i s : Int), 0 ≤ i → i + j = max n 0 → P (fo (fun i s => o_or s (o_shl (w32 ((w32 (n - 1)) - i)) (w32 (3 * i)))) j i s) (G, c) → At (d + 1) mX7_otherWayRound 4 [mI n, mI s, mI i] [] (G, c) (QI P) := by
  intro j
  induction j with
  | zero => intro i s h0 hi hP; apply wp_X7_otherWayRound_4; rw [if_neg (by omega)]; exact hP
  | succ j ih =>
    intro i s h0 hi hP
    apply wp_X7_otherWayRound_4
    rw [if_pos (by omega), w32i (x := i + 1) (by omega) (by omega)]
    exact ih _ _ (by omega) (by omega) hP
theorem q_X7_otherWayRound (n : Int) (hn : n ≤ 1000) : EvI (d + 1) mX7_otherWayRound [mI n] (G, c) P = P (owr n) (G, c) := evI_eq (ev_X7_otherWayRound d _ G c n (l_owr d _ G c n hn n.toNat 0 0 (by omega) (by omega) ⟨rfl, rfl⟩)) P
theorem l_inverse (x n : Int) (hn : n ≤ 1000) : ∀ (j : Nat) (i s : Int), 0 ≤ i → i + j = max n 0 → P (fo (fun i s => o_or s (o_shl i (w32 (3 * dg x i)))) j i s) (G, c) → At (d + 2) mX7_inverse 4 [mI x, mI n, mI s, mI i] [] (G, c) (QI P) := by
  intro j
  induction j with
  | zero => intro i s h0 hi hP; apply wp_X7_inverse_4; rw [if_neg (by omega)]; exact hP
  | succ j ih =>
    intro i s h0 hi hP
    apply wp_X7_inverse_4
    rw [if_pos (by omega)]
    simp only [q_X7_at]
    rw [w32i (x := i + 1) (by omega) (by omega)]
    exact ih _ _ (by omega) (by omega) hP
theorem q_X7_inverse (x n : Int) (hn : n ≤ 1000) : EvI (d + 2) mX7_inverse [mI x, mI n] (G, c) P = P (inv6 x n) (G, c) := evI_eq (ev_X7_inverse (d + 1) _ G c x n (l_inverse d _ G c x n hn n.toNat 0 0 (by omega) (by omega) ⟨rfl, rfl⟩)) P
theorem l_fixed (x n : Int) (hn : n ≤ 1000) : ∀ (j : Nat) (i s : Int), 0 ≤ i → i + j = max n 0 → P (fo (fun i s => if dg x i = i then w32 (s + 1) else w32 (s + 0)) j i s) (G, c) → At (d + 2) mX7_fixed 4 [mI x, mI n, mI s, mI i] [] (G, c) (QI P) := by
  intro j
  induction j with
  | zero => intro i s h0 hi hP; apply wp_X7_fixed_4; rw [if_neg (by omega)]; exact hP
  | succ j ih =>
    intro i s h0 hi hP
    apply wp_X7_fixed_4
    rw [if_pos (by omega)]
    simp only [q_X7_at]
    rw [w32i (x := i + 1) (by omega) (by omega)]
    simp only [fo] at hP
    split <;> rename_i hc
    · rw [if_pos hc] at hP; exact ih _ _ (by omega) (by omega) hP
    · rw [if_neg hc] at hP; exact ih _ _ (by omega) (by omega) hP
theorem q_X7_fixed (x n : Int) (hn : n ≤ 1000) : EvI (d + 2) mX7_fixed [mI x, mI n] (G, c) P = P (fix6 x n) (G, c) := evI_eq (ev_X7_fixed (d + 1) _ G c x n (l_fixed d _ G c x n hn n.toNat 0 0 (by omega) (by omega) ⟨rfl, rfl⟩)) P
theorem q_X7_commuting (a b n : Int) (hn : n ≤ 1000) : EvI (d + 3) mX7_commuting [mI a, mI b, mI n] (G, c) P = P (if thr a b n = thr b a n then 1 else 0) (G, c) := evI_eq (ev_X7_commuting (d + 2) _ G c a b n (by simp only [q_X7_through _ _ _ _ _ _ _ hn]; grind)) P
theorem l_cyI (x n q i : Int) (hn : n ≤ 1000) (hk : ∀ p, P (cyO x n (n - i - 1).toNat (i + 1) p q) (G, c) → At (d + 2) mX7_cycles 7 [mI x, mI n, mI p, mI q, mI (i + 1), MU, MU] [] (G, c) (QI P)) (hi0 : 0 ≤ i) (hi : i < n) : ∀ (s : Nat) (e p k : Int), 0 ≤ e → e + s = n → P (cyO x n (n - i - 1).toNat (i + 1) (cyI x s p k) q) (G, c) → At (d + 2) mX7_cycles 32 [mI x, mI n, mI p, mI q, mI i, mI k, mI e] [] (G, c) (QI P) := by
  intro s
  induction s with
  | zero =>
    intro e p k h0 he hP
    apply wp_X7_cycles_32
    rw [if_neg (by omega), w32i (x := i + 1) (by omega) (by omega)]
    exact hk _ hP
  | succ s ih =>
    intro e p k h0 he hP
    apply wp_X7_cycles_32
    rw [if_pos (by omega)]
    simp only [q_X7_at]
    rw [w32i (x := i + 1) (by omega) (by omega), w32i (x := e + 1) (by omega) (by omega)]
    simp only [cyI, bt] at hP
    split <;> rename_i hc
    · rw [if_pos hc] at hP; exact ih _ _ _ (by omega) (by omega) hP
    · rw [if_neg hc] at hP; exact hk _ hP
theorem l_cyO (x n : Int) (hn : n ≤ 1000) : ∀ (j : Nat) (i p q : Int), 0 ≤ i → i + j = max n 0 → P (cyO x n j i p q) (G, c) → At (d + 2) mX7_cycles 7 [mI x, mI n, mI p, mI q, mI i, MU, MU] [] (G, c) (QI P) := by
  intro j
  induction j with
  | zero => intro i p q h0 hi hP; apply wp_X7_cycles_7; rw [if_neg (by omega)]; exact hP
  | succ j ih =>
    intro i p q h0 hi hP
    apply wp_X7_cycles_7
    rw [if_pos (by omega)]
    have ej : (n - i - 1).toNat = j := by omega
    simp only [cyO, bt] at hP
    split <;> rename_i hc
    · rw [if_pos hc] at hP
      refine l_cyI d P G c x n _ i hn (fun p hp => ?_) h0 (by omega) n.toNat 0 p i (by omega) (by omega) ?_
      · rw [ej] at hp; exact ih _ _ _ (by omega) (by omega) hp
      · rw [ej]; exact hP
    · rw [if_neg hc] at hP
      refine l_cyI d P G c x n _ i hn (fun p hp => ?_) h0 (by omega) n.toNat 0 p i (by omega) (by omega) ?_
      · rw [ej] at hp; exact ih _ _ _ (by omega) (by omega) hp
      · rw [ej]; exact hP
theorem q_X7_cycles (x n : Int) (hn : n ≤ 1000) : EvI (d + 2) mX7_cycles [mI x, mI n] (G, c) P = P (cyc x n) (G, c) := evI_eq (ev_X7_cycles (d + 1) _ G c x n (l_cyO d _ G c x n hn n.toNat 0 0 0 (by omega) (by omega) ⟨rfl, rfl⟩)) P
theorem l_order (x n : Int) (hn : n ≤ 1000) : ∀ (j : Nat) (i y t : Int), 0 ≤ i → i + j = 720 → P (orF x n j y t) (G, c) → At (d + 3) mX7_order 7 [mI x, mI n, mI y, mI t, mI i] [] (G, c) (QI P) := by
  intro j
  induction j with
  | zero => intro i y t h0 hi hP; apply wp_X7_order_7; rw [if_neg (by omega)]; exact hP
  | succ j ih =>
    intro i y t h0 hi hP
    apply wp_X7_order_7
    rw [if_pos (by omega)]
    simp only [q_X7_same, q_X7_through _ _ _ _ _ _ _ hn]
    rw [w32i (x := i + 1) (by omega) (by omega)]
    simp only [orF] at hP
    split <;> rename_i hc
    · rw [if_pos hc] at hP; exact hP
    · rw [if_neg hc] at hP; exact ih _ _ _ (by omega) (by omega) hP
theorem q_X7_order (x n : Int) (hn : n ≤ 1000) : EvI (d + 3) mX7_order [mI x, mI n] (G, c) P = P (ord6 x n) (G, c) := evI_eq (ev_X7_order (d + 2) _ G c x n (l_order d _ G c x n hn 720 0 x 1 (by omega) (by omega) ⟨rfl, rfl⟩)) P
theorem l_rank (x n : Int) (hn : n ≤ 1000) : ∀ (j : Nat) (i r u : Int), 0 ≤ i → i + j = max n 0 → P (rkF x n j i r u) (G, c) → At (d + 2) mX7_rank 7 [mI x, mI n, mI r, mI u, mI i, MU, MU] [] (G, c) (QI P) := by
  intro j
  induction j with
  | zero => intro i r u h0 hi hP; apply wp_X7_rank_7; rw [if_neg (by omega)]; exact hP
  | succ j ih =>
    intro i r u h0 hi hP
    apply wp_X7_rank_7
    rw [if_pos (by omega)]
    simp only [q_X7_at, q_J6_bitCount]
    rw [w32i (x := i + 1) (by omega) (by omega)]
    exact ih _ _ _ (by omega) (by omega) hP
theorem q_X7_rank (x n : Int) (hn : n ≤ 1000) : EvI (d + 2) mX7_rank [mI x, mI n] (G, c) P = P (rnk x n) (G, c) := evI_eq (ev_X7_rank (d + 1) _ G c x n (l_rank d _ G c x n hn n.toNat 0 0 0 (by omega) (by omega) ⟨rfl, rfl⟩)) P
end
