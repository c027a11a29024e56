theorem fi_none {β : Type} {p : Int → Bool} {r : Int → β} {e : β} : ∀ (j : Nat) (i : Int), (∀ k, i ≤ k → k < i + j → p k = false) → fi p r e j i = e := by
  intro j
  induction j with
  | zero => intro i _; rfl
  | succ j ih => intro i h; simp only [fi]; rw [h i (by omega) (by omega)]; exact ih _ (fun k a b => h k (by omega) (by omega))
theorem fi_some {β : Type} {p : Int → Bool} {v e : β} : ∀ (j : Nat) (i k : Int), i ≤ k → k < i + j → p k = true → fi p (fun _ => v) e j i = v := by
  intro j
  induction j with
  | zero => intro i k _ _ _; omega
  | succ j ih =>
    intro i k a b h
    simp only [fi]
    by_cases e : p i = true
    · rw [if_pos e]
    · rw [if_neg e]
      exact ih _ k (by have : k ≠ i := fun q => e (q ▸ h); omega) (by omega) h
theorem seen_eq {f : Int → Int} {v a : Int} (a0 : 0 ≤ a) (a1 : a ≤ 18) : ∀ (j : Nat) (i s r : Int), 0 ≤ s → s + j ≤ 10 → r = a * s → fo (fun p s => if f p = v then w32 (s + a) else s) j i r = w32 (a * fo (fun p s => if f p = v then w32 (s + 1) else w32 (s + 0)) j i s) := by
  intro j
  induction j with
  | zero =>
    intro i s r s0 s1 hr
    have : a * s ≤ 18 * 10 := Int.mul_le_mul a1 (by omega) s0 (by omega)
    have : 0 ≤ a * s := Int.mul_nonneg a0 s0
    simp only [fo]
    rw [hr, w32i (by omega) (by omega)]
  | succ j ih =>
    intro i s r s0 s1 hr
    have h1 : a * s ≤ 18 * 10 := Int.mul_le_mul a1 (by omega) s0 (by omega)
    have h2 : 0 ≤ a * s := Int.mul_nonneg a0 s0
    simp only [fo]
    rw [w32i (x := s + 1) (by omega) (by omega), w32i (x := s + 0) (by omega) (by omega), w32i (x := r + a) (by omega) (by omega)]
    by_cases e : f i = v
    · rw [if_pos e, if_pos e]
      exact ih _ _ _ (by omega) (by omega) (by rw [hr, Int.mul_add, Int.mul_one])
    · rw [if_neg e, if_neg e]
      exact ih _ _ _ (by omega) (by omega) (by rw [Int.add_zero]; exact hr)
section
variable (d : Nat) (P : Int → MM → Prop) (G : MG) (c : MC) (t T : Int)
theorem l_cseenIn (I : CI G c t) (a : Int) (K : Int → Prop) (hK : ∀ s, K s → P s (G, up c 0 6 0)) : ∀ (j : Nat) (i : Int) (s : Int), 0 ≤ i → i + j = c t 3 → K (fo (fun p s => if c (t + 1) p = a then w32 (s + 2 * c t 0) else s) j i s) → At (d + 2) mX10_seenIn 26 [mR 16 0, mI a, mI s, mI i] [] (G, c) (QI P) := by
  have ht := I.t; have b3 := I.H.b3; have b0 := I.H.b0
  intro j
  induction j with
  | zero =>
    intro i s h0 hi hP
    apply wp_X10_seenIn_26
    try simp only [I.p0, I.H.p6, I.H.g1, q_sectors _ _ _ _ t I, q_fine]
    (repeat (refine And.intro (by first | omega | (simp only [true_and, and_true, and_self]; omega) | (simp only [true_and, and_true, and_self])) ?_))
    rw [if_neg (by omega)]
    skip
    exact hK _ hP
  | succ j ih =>
    intro i s h0 hi hP
    have wi : w32 (i + 1) = i + 1 := w32i (by omega) (by omega)
    apply wp_X10_seenIn_26
    simp only [I.p0, I.H.p6, I.H.g1, q_sectors _ _ _ _ t I, q_fine, wi]
    (repeat (refine And.intro (by first | omega | (simp only [true_and, and_true, and_self]; omega) | (simp only [true_and, and_true, and_self])) ?_))
    rw [if_pos (by omega)]
    simp only [fo] at hP
    skip
    (repeat' (first | (refine And.intro (by omega) ?_) | (split <;> rename_i hc <;> (first | rw [if_pos hc] at hP | rw [if_neg hc] at hP))))
    all_goals exact ih _ _ (by omega) (by omega) hP
theorem l_mseenIn (M : MDs G c T) (a : Int) (K : Int → Prop) (hK : ∀ s, K s → P (w32 (w32 (2 * c T 0) * s)) (G, mtr c 0)) : ∀ (j : Nat) (i : Int) (s : Int), 0 ≤ i → i + j = c T 3 → K (fo (fun p s => if c (T + 1) p = a then w32 (s + 1) else w32 (s + 0)) j i s) → At (d + 2) mX12_seenIn 31 [mR 18 62, mI a, mI s, mI i] [] (G, c) (QI P) := by
  have hT := M.T; have b3 := M.b3
  intro j
  induction j with
  | zero =>
    intro i s h0 hi hP
    apply wp_X12_seenIn_31
    try simp only [M.p3, M.t10, M.u1, q_mgood]
    (repeat (refine And.intro (by first | omega | (simp only [true_and, and_true, and_self]; omega) | (simp only [true_and, and_true, and_self])) ?_))
    rw [if_neg (by omega)]
    (repeat (refine And.intro (by first | omega | (simp only [true_and, and_true, and_self]; omega) | (simp only [true_and, and_true, and_self])) ?_))
    exact hK _ hP
  | succ j ih =>
    intro i s h0 hi hP
    have wi : w32 (i + 1) = i + 1 := w32i (by omega) (by omega)
    apply wp_X12_seenIn_31
    simp only [M.p3, M.t10, M.u1, q_mgood, wi]
    (repeat (refine And.intro (by first | omega | (simp only [true_and, and_true, and_self]; omega) | (simp only [true_and, and_true, and_self])) ?_))
    rw [if_pos (by omega)]
    simp only [fo] at hP
    skip
    (repeat' (first | (refine And.intro (by omega) ?_) | (split <;> rename_i hc <;> (first | rw [if_pos hc] at hP | rw [if_neg hc] at hP))))
    all_goals exact ih _ _ (by omega) (by omega) hP
theorem l_doCommute (M : MDs G c T) (a b : Int) (ha : 0 ≤ a) (ha3 : a ≤ 3) (hb : 0 ≤ b) (hb3 : b ≤ 3) (hr : ∀ t k, t = a ∨ t = b → 0 ≤ k → k < c T 1 → 0 ≤ sld c T t k ∧ sld c T t k < c T 1) : ∀ (j : Nat) (i : Int), 0 ≤ i → i + j = c T 1 → P (fi (fun i => decide (sld c T a (sld c T b i) ≠ sld c T b (sld c T a i))) (fun i => 0) (1) j i) (G, c) → At (d + 2) mX12_doCommute 2 [mR 18 62, mI a, mI b, mI i] [] (G, c) (QI P) := by
  have hT := M.T; have b1 := M.b1
  intro j
  induction j with
  | zero =>
    intro i h0 hi hP
    apply wp_X12_doCommute_2
    try simp only [M.p3]
    (repeat (refine And.intro (by first | omega | (simp only [true_and, and_true, and_self]; omega) | (simp only [true_and, and_true, and_self])) ?_))
    rw [if_neg (by omega)]
    (repeat (refine And.intro (by first | omega | (simp only [true_and, and_true, and_self]; omega) | (simp only [true_and, and_true, and_self])) ?_))
    exact hP
  | succ j ih =>
    intro i h0 hi hP
    have wi : w32 (i + 1) = i + 1 := w32i (by omega) (by omega)
    apply wp_X12_doCommute_2
    simp only [M.p3, wi]
    (repeat (refine And.intro (by first | omega | (simp only [true_and, and_true, and_self]; omega) | (simp only [true_and, and_true, and_self])) ?_))
    rw [if_pos (by omega)]
    simp only [fi] at hP
    have r1 := hr a i (Or.inl rfl) (by omega) (by omega); have r2 := hr b i (Or.inr rfl) (by omega) (by omega); rw [q_slid _ _ _ _ T M b i hb hb3 (by omega) (by omega)]; simp only []; rw [q_slid _ _ _ _ T M a _ ha ha3 r2.1 (by omega)]; simp only []; rw [q_slid _ _ _ _ T M a i ha ha3 (by omega) (by omega)]; simp only []; rw [q_slid _ _ _ _ T M b _ hb hb3 r1.1 (by omega)]; simp only []
    (repeat (refine And.intro (by first | omega | (simp only [true_and, and_true, and_self]; omega) | (simp only [true_and, and_true, and_self])) ?_))
    by_cases hp : sld c T a (sld c T b i) ≠ sld c T b (sld c T a i)
    · rw [if_pos (decide_eq_true hp)] at hP
      rw [if_neg hp]; exact ⟨by omega, hP⟩
    · rw [if_neg (by simpa using hp)] at hP
      rw [if_pos (Decidable.not_not.mp hp)]; exact ih _ (by omega) (by omega) hP
theorem q_doCommute (M : MDs G c T) (a b : Int) (ha : 0 ≤ a) (ha3 : a ≤ 3) (hb : 0 ≤ b) (hb3 : b ≤ 3) (hr : ∀ t k, t = a ∨ t = b → 0 ≤ k → k < c T 1 → 0 ≤ sld c T t k ∧ sld c T t k < c T 1) : EvI (d + 2) mX12_doCommute [mR 18 62, mI a, mI b] (G, c) P = P (fi (fun i => decide (sld c T a (sld c T b i) ≠ sld c T b (sld c T a i))) (fun _ => 0) 1 (c T 1).toNat 0) (G, c) := evI_eq (ev_X12_doCommute (d + 1) _ G c 62 a b (by decide) (l_doCommute d _ G c T M a b ha ha3 hb hb3 hr (c T 1).toNat 0 (by omega) (by have := M.b1; omega) ⟨rfl, rfl⟩)) P
end
theorem k_person (d : Nat) (G : MG) (c : MC) (a b : Int) (H : IV G c) : EvI (d + 40) mX10_person [mR 16 0, mI a, mI b] (G, c) (fun r1 ν1 => EvI (d + 40) mX12_person [mR 18 62, mI a, mI b] (ν1.1, ν1.2) (fun r2 ν2 => K2 G r1 r2 ν2)) := by
  obtain ⟨hr, t, z, S, V⟩ := H
  have H0 : IV0 G c := ⟨t, z, S, V⟩
  rcases V with V | ⟨T, n, m, u, q, w, x, s, ka, ki, g, V⟩
  · have I := S.ciN V
    have e1 := V.e1; have e3 := V.e3; have e4 := V.e4; have N := V.T
    have N1 : ∀ wy, up (up c 0 6 wy) 62 0 0 62 3 = -1 := fun wy => by rw [up_nj (by decide), up_na (by decide)]; exact N
    refine ev_X10_person (d + 39) _ G c 0 a b (by decide) ?_
    simp only [z_isTube _ _ _ _ t I e1, z_isPerson _ _ _ _ t I _ e3, z_isSlot _ _ _ _ t I _ e1, z_isTurn _ _ _ _ t I _ e4, z_areTwo _ _ _ _ t I _ _ e3, z_isPlace _ _ _ _ t I _ e1, ↓reduceIte, q_refused]
    refine ev_X12_person (d + 39) _ G _ 62 a b (by decide) ⟨by decide, ?_⟩
    rintro _ rfl
    simp only [q_nisSlot _ _ _ _ (N1 _), q_nisPerson _ _ _ _ (N1 _), q_nisTurn _ _ _ _ (N1 _), q_nareTwo _ _ _ _ (N1 _), q_nisPlace _ _ _ _ (N1 _), N1, ↓reduceIte, q_mrefused, Int.reduceNeg, Int.reduceLT, Int.reduceLE, true_and]
    exact ⟨rfl, rfl, IV.q H0 (by decide) (agr_0 _)⟩
  · have I := S.ciT V
    have M := V.M; have hT := M.T; have ht := V.t
    have v1 := V.v1; have v3 := V.v3; have v4 := V.v4; have e0 := V.e0; have e1 := V.e1; have e3 := V.e3; have e4 := V.e4; have e5 := V.e5
    have b0 := M.b0; have b1 := M.b1; have b3 := M.b3; have b4 := M.b4
    rw [v1] at b1; rw [v3] at b3; rw [v4] at b4
    have hnp : 0 < n := by omega
    have hTn : ¬ T < 0 := by omega
    have M1 : ∀ wy, MDs G (up (up c 0 6 wy) 62 0 0) T := fun wy => (M.ki ki_up7).agr (agr_0 _)
    have r64 : ∀ wy, up (up c 0 6 wy) 62 0 0 64 = c 64 := fun wy => by funext j; rw [up_na (by decide), up_na (by decide)]
    have rT : ∀ wy k, up (up c 0 6 wy) 62 0 0 T k = c T k := fun wy k => by rw [up_na (by omega), up_na (by omega)]
    have rTT : ∀ wy (a : Int), 0 ≤ a → up (up c 0 6 wy) 62 0 0 (T + a) = c (T + a) := fun wy a ha => by funext j; rw [up_na (by omega), up_na (by omega)]
    have rS : ∀ wy a b, sld (up (up c 0 6 wy) 62 0 0) T a b = sld c T a b := fun wy a b => sld_eq (fun a j q => by rw [up_na (by omega), up_na (by omega)]) hT
    have hS : ∀ a b, 0 ≤ a → a < u → 0 ≤ b → b < n → sld c T a b = dg (g a) b := fun a b h1 h2 h3 h4 => by unfold sld; rw [v4, if_pos h2]; exact V.tk a b h1 h2 h3 h4
    have V1 : ∀ wy, TV G (up (up c 0 6 wy) 62 0 0) t T n m u q w x s ka ki g := fun wy => (V.kp ki_up7).kp (ki_agr (agr_0 _))
    skip
    refine ev_X10_person (d + 39) _ G c 0 a b (by decide) ?_
    simp only [q_isTube _ _ _ _ t I, q_isPerson _ _ _ _ t I, q_isSlot _ _ _ _ t I, q_isTurn _ _ _ _ t I, q_areTwo _ _ _ _ t I, q_isPlace _ _ _ _ t I, e0, e1, e3, e4, hnp, ↓reduceIte]
    by_cases h1 : 0 ≤ a ∧ a < m
    · by_cases h2 : 0 ≤ b ∧ b ≤ 4
      · have h2a : ¬ b < 0 := by omega
        have h2b : ¬ 4 < b := by omega
        simp only [h1, h2, h2a, h2b, and_self, ↓reduceIte]
        have M2 : MDs G (wr (up (up c 0 6 0) 62 0 0) 65 0 6 (fun p => c 64 p)) T := (M1 0).agr (Agr.rf.w (fun j => by unfold scr; omega))
        have A2 : Agr (up c 0 6 0) (wr (up (up c 0 6 0) 62 0 0) 65 0 6 (fun p => c 64 p)) := (agr_0 _).w (fun j => by unfold scr; omega)
        have x2 : ∀ p, 0 ≤ p → p < m → dg (c 42 0) p = wr (up (up c 0 6 0) 62 0 0) 65 0 6 (fun p => c 64 p) 65 p := fun p a b => by rw [wr_in a (by omega)]; exact (V.sv p a b).1
        have rT2 : ∀ k, wr (up (up c 0 6 0) 62 0 0) 65 0 6 (fun p => c 64 p) T k = c T k := fun k => by rw [wr_ne (by omega)]; exact rT 0 k
        have rTT2 : ∀ (a : Int), 0 ≤ a → wr (up (up c 0 6 0) 62 0 0) 65 0 6 (fun p => c 64 p) (T + a) = c (T + a) := fun a ha => by funext j; rw [wr_ne (by omega), rTT 0 a ha]
        have hM : ∀ (K : Int → MM → Prop), (∀ v, EvI (d + 39) mX12_good [mR 18 62, mI v] (G, wr (up (up c 0 6 0) 62 0 0) 65 0 6 (fun p => c 64 p)) K = K v (G, mtr (wr (up (up c 0 6 0) 62 0 0) 65 0 6 (fun p => c 64 p)) 0)) := fun K v => q_mgood _ _ _ _ v
        have hb : b = 0 ∨ b = 1 ∨ b = 2 ∨ b = 3 ∨ b = 4 := by omega
        rcases hb with rfl | rfl | rfl | rfl | rfl
        · simp only [↓reduceIte, I.p0, I.H.p6, I.H.g1, q_fine]
          (repeat (refine And.intro (by first | omega | (simp only [true_and, and_true, and_self]; omega) | (simp only [true_and, and_true, and_self])) ?_))
          refine ev_X12_person (d + 39) _ G _ 62 a 0 (by decide) ⟨by decide, ?_⟩
          rintro _ rfl
          simp only [q_misSlot _ _ _ _ T (M1 _), q_misPerson _ _ _ _ T (M1 _), q_misTurn _ _ _ _ T (M1 _), q_mareTwo _ _ _ _ T (M1 _), q_misPlace _ _ _ _ T (M1 _), (M1 _).p3, hTn, rT, v1, v3, v4, ↓reduceIte, Int.reduceLE, true_and, h1, h2, h2a, h2b, q_min, and_self, ↓reduceIte, q_works _ _ _ _ T (M1 _), r64, M2.p3, M2.t10, M2.u1, q_mgood]
          (repeat (refine And.intro (by first | omega | (simp only [true_and, and_true, and_self]; omega) | (simp only [true_and, and_true, and_self])) ?_))
          exact ⟨by rw [rTT2 1 (by omega)]; exact V.co a h1.1 h1.2, rfl, IV.q H0 (by decide) A2⟩
        · simp only [↓reduceIte, q_slotOf _ _ _ _ t I, q_fine, Int.reduceEq]
          refine ev_X12_person (d + 39) _ G _ 62 a 1 (by decide) ⟨by decide, ?_⟩
          rintro _ rfl
          simp only [q_misSlot _ _ _ _ T (M1 _), q_misPerson _ _ _ _ T (M1 _), q_misTurn _ _ _ _ T (M1 _), q_mareTwo _ _ _ _ T (M1 _), q_misPlace _ _ _ _ T (M1 _), (M1 _).p3, hTn, rT, v1, v3, v4, ↓reduceIte, Int.reduceLE, true_and, h1, h2, h2a, h2b, q_min, and_self, ↓reduceIte, q_works _ _ _ _ T (M1 _), r64, M2.p16, M2.l64, q_mgood, Int.reduceEq]
          (repeat (refine And.intro (by first | omega | (simp only [true_and, and_true, and_self]; omega) | (simp only [true_and, and_true, and_self])) ?_))
          exact ⟨by rw [wr_ne (by decide), r64]; exact (V.sv a h1.1 h1.2).1, rfl, IV.q H0 (by decide) A2⟩
        · simp only [↓reduceIte, q_besideBits _ _ _ _ t I, q_fine, Int.reduceEq, e3]
          refine ev_X12_person (d + 39) _ G _ 62 a 2 (by decide) ⟨by decide, ?_⟩
          rintro _ rfl
          simp only [q_misSlot _ _ _ _ T (M1 _), q_misPerson _ _ _ _ T (M1 _), q_misTurn _ _ _ _ T (M1 _), q_mareTwo _ _ _ _ T (M1 _), q_misPlace _ _ _ _ T (M1 _), (M1 _).p3, hTn, rT, v1, v3, v4, ↓reduceIte, Int.reduceLE, true_and, h1, h2, h2a, h2b, q_min, and_self, ↓reduceIte, q_works _ _ _ _ T (M1 _), r64, q_besideOf _ _ _ _ T M2 a h1.1 (by omega), q_mgood, Int.reduceEq, rT2]
          exact ⟨by rw [bsc_bs, bsd_bs _ _ (by omega)]; exact bs_congr (fun k k0 k1 => by rw [← x2 a h1.1 h1.2, ← x2 k k0 k1]), rfl, IV.q H0 (by decide) A2⟩
        · simp only [↓reduceIte, I.p0, I.H.p11, q_partners _ _ _ _ (t + 6) 6 a I.H.q, q_fine, Int.reduceEq]
          (repeat (refine And.intro (by first | omega | (simp only [true_and, and_true, and_self]; omega) | (simp only [true_and, and_true, and_self])) ?_))
          refine ev_X12_person (d + 39) _ G _ 62 a 3 (by decide) ⟨by decide, ?_⟩
          rintro _ rfl
          simp only [q_misSlot _ _ _ _ T (M1 _), q_misPerson _ _ _ _ T (M1 _), q_misTurn _ _ _ _ T (M1 _), q_mareTwo _ _ _ _ T (M1 _), q_misPlace _ _ _ _ T (M1 _), (M1 _).p3, hTn, rT, v1, v3, v4, ↓reduceIte, Int.reduceLE, true_and, h1, h2, h2a, h2b, q_min, and_self, ↓reduceIte, q_works _ _ _ _ T (M1 _), r64, M2.p3, M2.t12, M2.u3, q_mgood, Int.reduceEq]
          (repeat (refine And.intro (by first | omega | (simp only [true_and, and_true, and_self]; omega) | (simp only [true_and, and_true, and_self])) ?_))
          exact ⟨by rw [rTT2 3 (by omega)]; exact (V.fo a h1.1 h1.2).symm, rfl, IV.q H0 (by decide) A2⟩
        · simp only [↓reduceIte, I.p0, I.H.p7, I.H.g2, q_fine, Int.reduceEq]
          (repeat (refine And.intro (by first | omega | (simp only [true_and, and_true, and_self]; omega) | (simp only [true_and, and_true, and_self])) ?_))
          refine ev_X12_person (d + 39) _ G _ 62 a 4 (by decide) ⟨by decide, ?_⟩
          rintro _ rfl
          simp only [q_misSlot _ _ _ _ T (M1 _), q_misPerson _ _ _ _ T (M1 _), q_misTurn _ _ _ _ T (M1 _), q_mareTwo _ _ _ _ T (M1 _), q_misPlace _ _ _ _ T (M1 _), (M1 _).p3, hTn, rT, v1, v3, v4, ↓reduceIte, Int.reduceLE, true_and, h1, h2, h2a, h2b, q_min, and_self, ↓reduceIte, q_works _ _ _ _ T (M1 _), r64, M2.p3, M2.t11, M2.u2, q_mgood, Int.reduceEq]
          (repeat (refine And.intro (by first | omega | (simp only [true_and, and_true, and_self]; omega) | (simp only [true_and, and_true, and_self])) ?_))
          exact ⟨by rw [rTT2 2 (by omega)]; exact (V.ho a h1.1 h1.2).1, rfl, IV.q H0 (by decide) A2⟩
      · rcases (show b < 0 ∨ (¬ b < 0 ∧ 4 < b) by omega) with hc | hc
        · simp only [h1, h2, hc, and_self, ↓reduceIte, q_refused]
          refine ev_X12_person (d + 39) _ G _ 62 a b (by decide) ⟨by decide, ?_⟩
          rintro _ rfl
          simp only [q_misSlot _ _ _ _ T (M1 _), q_misPerson _ _ _ _ T (M1 _), q_misTurn _ _ _ _ T (M1 _), q_mareTwo _ _ _ _ T (M1 _), q_misPlace _ _ _ _ T (M1 _), (M1 _).p3, hTn, rT, v1, v3, v4, ↓reduceIte, Int.reduceLE, true_and, h1, h2, hc, q_min, and_self, ↓reduceIte, q_mrefused, Int.reduceLT]
          exact ⟨rfl, rfl, IV.q H0 (by decide) (agr_0 _)⟩
        · simp only [h1, h2, hc, and_self, ↓reduceIte, q_refused]
          refine ev_X12_person (d + 39) _ G _ 62 a b (by decide) ⟨by decide, ?_⟩
          rintro _ rfl
          simp only [q_misSlot _ _ _ _ T (M1 _), q_misPerson _ _ _ _ T (M1 _), q_misTurn _ _ _ _ T (M1 _), q_mareTwo _ _ _ _ T (M1 _), q_misPlace _ _ _ _ T (M1 _), (M1 _).p3, hTn, rT, v1, v3, v4, ↓reduceIte, Int.reduceLE, true_and, h1, h2, hc, q_min, and_self, ↓reduceIte, q_mrefused, Int.reduceLT]
          exact ⟨rfl, rfl, IV.q H0 (by decide) (agr_0 _)⟩
    · simp only [h1, and_self, ↓reduceIte, q_refused]
      refine ev_X12_person (d + 39) _ G _ 62 a b (by decide) ⟨by decide, ?_⟩
      rintro _ rfl
      simp only [q_misSlot _ _ _ _ T (M1 _), q_misPerson _ _ _ _ T (M1 _), q_misTurn _ _ _ _ T (M1 _), q_mareTwo _ _ _ _ T (M1 _), q_misPlace _ _ _ _ T (M1 _), (M1 _).p3, hTn, rT, v1, v3, v4, ↓reduceIte, Int.reduceLE, true_and, h1, and_self, ↓reduceIte, q_mrefused]
      exact ⟨rfl, rfl, IV.q H0 (by decide) (agr_0 _)⟩
theorem k_seenIn (d : Nat) (G : MG) (c : MC) (a : Int) (H : IV G c) : EvI (d + 40) mX10_seenIn [mR 16 0, mI a] (G, c) (fun r1 ν1 => EvI (d + 40) mX12_seenIn [mR 18 62, mI a] (ν1.1, ν1.2) (fun r2 ν2 => K2 G r1 r2 ν2)) := by
  obtain ⟨hr, t, z, S, V⟩ := H
  have H0 : IV0 G c := ⟨t, z, S, V⟩
  rcases V with V | ⟨T, n, m, u, q, w, x, s, ka, ki, g, V⟩
  · have I := S.ciN V
    have e1 := V.e1; have e3 := V.e3; have e4 := V.e4; have N := V.T
    have N1 : ∀ wy, up (up c 0 6 wy) 62 0 0 62 3 = -1 := fun wy => by rw [up_nj (by decide), up_na (by decide)]; exact N
    refine ev_X10_seenIn (d + 39) _ G c 0 a (by decide) ?_
    simp only [z_isTube _ _ _ _ t I e1, z_isPerson _ _ _ _ t I _ e3, z_isSlot _ _ _ _ t I _ e1, z_isTurn _ _ _ _ t I _ e4, z_areTwo _ _ _ _ t I _ _ e3, z_isPlace _ _ _ _ t I _ e1, ↓reduceIte, q_refused]
    refine ev_X12_seenIn (d + 39) _ G _ 62 a (by decide) ⟨by decide, ?_⟩
    rintro _ rfl
    simp only [q_nisSlot _ _ _ _ (N1 _), q_nisPerson _ _ _ _ (N1 _), q_nisTurn _ _ _ _ (N1 _), q_nareTwo _ _ _ _ (N1 _), q_nisPlace _ _ _ _ (N1 _), N1, ↓reduceIte, q_mrefused, Int.reduceNeg, Int.reduceLT, Int.reduceLE, true_and]
    exact ⟨rfl, rfl, IV.q H0 (by decide) (agr_0 _)⟩
  · have I := S.ciT V
    have M := V.M; have hT := M.T; have ht := V.t
    have v1 := V.v1; have v3 := V.v3; have v4 := V.v4; have e0 := V.e0; have e1 := V.e1; have e3 := V.e3; have e4 := V.e4; have e5 := V.e5
    have b0 := M.b0; have b1 := M.b1; have b3 := M.b3; have b4 := M.b4
    rw [v1] at b1; rw [v3] at b3; rw [v4] at b4
    have hnp : 0 < n := by omega
    have hTn : ¬ T < 0 := by omega
    have M1 : ∀ wy, MDs G (up (up c 0 6 wy) 62 0 0) T := fun wy => (M.ki ki_up7).agr (agr_0 _)
    have r64 : ∀ wy, up (up c 0 6 wy) 62 0 0 64 = c 64 := fun wy => by funext j; rw [up_na (by decide), up_na (by decide)]
    have rT : ∀ wy k, up (up c 0 6 wy) 62 0 0 T k = c T k := fun wy k => by rw [up_na (by omega), up_na (by omega)]
    have rTT : ∀ wy (a : Int), 0 ≤ a → up (up c 0 6 wy) 62 0 0 (T + a) = c (T + a) := fun wy a ha => by funext j; rw [up_na (by omega), up_na (by omega)]
    have rS : ∀ wy a b, sld (up (up c 0 6 wy) 62 0 0) T a b = sld c T a b := fun wy a b => sld_eq (fun a j q => by rw [up_na (by omega), up_na (by omega)]) hT
    have hS : ∀ a b, 0 ≤ a → a < u → 0 ≤ b → b < n → sld c T a b = dg (g a) b := fun a b h1 h2 h3 h4 => by unfold sld; rw [v4, if_pos h2]; exact V.tk a b h1 h2 h3 h4
    have V1 : ∀ wy, TV G (up (up c 0 6 wy) 62 0 0) t T n m u q w x s ka ki g := fun wy => (V.kp ki_up7).kp (ki_agr (agr_0 _))
    skip
    refine ev_X10_seenIn (d + 39) _ G c 0 a (by decide) ?_
    simp only [q_isTube _ _ _ _ t I, q_isPerson _ _ _ _ t I, q_isSlot _ _ _ _ t I, q_isTurn _ _ _ _ t I, q_areTwo _ _ _ _ t I, q_isPlace _ _ _ _ t I, e0, e1, e3, e4, hnp, ↓reduceIte]
    by_cases h1 : 0 ≤ a ∧ a ≤ 2
    · have h1a : ¬ a < 0 := by omega
      have h1b : ¬ 2 < a := by omega
      simp only [h1, h1a, h1b, and_self, ↓reduceIte]
      refine l_cseenIn (d + 38) _ G c t I a (fun s => s = fo (fun p s => if c (t + 1) p = a then w32 (s + 2 * c t 0) else s) m.toNat 0 0) (fun s hs => ?_) m.toNat 0 0 (by omega) (by rw [e3]; omega) rfl
      refine ev_X12_seenIn (d + 39) _ G _ 62 a (by decide) ⟨by decide, ?_⟩
      rintro _ rfl
      simp only [q_misSlot _ _ _ _ T (M1 _), q_misPerson _ _ _ _ T (M1 _), q_misTurn _ _ _ _ T (M1 _), q_mareTwo _ _ _ _ T (M1 _), q_misPlace _ _ _ _ T (M1 _), (M1 _).p3, hTn, rT, v1, v3, v4, ↓reduceIte, Int.reduceLE, true_and, h1, h1a, h1b, q_min, and_self, ↓reduceIte]
      (repeat (refine And.intro (by first | omega | (simp only [true_and, and_true, and_self]; omega) | (simp only [true_and, and_true, and_self])) ?_))
      refine l_mseenIn (d + 38) _ G _ T (M1 0) a (fun r => r = fo (fun p s => if c (T + 1) p = a then w32 (s + 1) else w32 (s + 0)) m.toNat 0 0) (fun r hr' => ?_) m.toNat 0 0 (by omega) (by rw [rT, v3]; omega) (by rw [rTT 0 1 (by omega)])
      refine ⟨?_, rfl, IV.q H0 (by decide) (agr_0 _)⟩
      rw [hs, hr', rT, w32i (x := 2 * c T 0) (by omega) (by omega), e0, ← seen_eq (f := c (T + 1)) (v := a) (by omega) (by omega) m.toNat 0 0 0 (by omega) (by omega) (by omega)]
      apply fo_congr
      intro k s k0 k1
      rw [V.co k k0 (by omega)]
    · rcases (show a < 0 ∨ (¬ a < 0 ∧ 2 < a) by omega) with hc | hc
      · simp only [h1, hc, and_self, ↓reduceIte, q_refused]
        refine ev_X12_seenIn (d + 39) _ G _ 62 a (by decide) ⟨by decide, ?_⟩
        rintro _ rfl
        simp only [q_misSlot _ _ _ _ T (M1 _), q_misPerson _ _ _ _ T (M1 _), q_misTurn _ _ _ _ T (M1 _), q_mareTwo _ _ _ _ T (M1 _), q_misPlace _ _ _ _ T (M1 _), (M1 _).p3, hTn, rT, v1, v3, v4, ↓reduceIte, Int.reduceLE, true_and, h1, hc, q_min, and_self, ↓reduceIte, q_mrefused, Int.reduceLT]
        exact ⟨rfl, rfl, IV.q H0 (by decide) (agr_0 _)⟩
      · simp only [h1, hc, and_self, ↓reduceIte, q_refused]
        refine ev_X12_seenIn (d + 39) _ G _ 62 a (by decide) ⟨by decide, ?_⟩
        rintro _ rfl
        simp only [q_misSlot _ _ _ _ T (M1 _), q_misPerson _ _ _ _ T (M1 _), q_misTurn _ _ _ _ T (M1 _), q_mareTwo _ _ _ _ T (M1 _), q_misPlace _ _ _ _ T (M1 _), (M1 _).p3, hTn, rT, v1, v3, v4, ↓reduceIte, Int.reduceLE, true_and, h1, hc, q_min, and_self, ↓reduceIte, q_mrefused, Int.reduceLT]
        exact ⟨rfl, rfl, IV.q H0 (by decide) (agr_0 _)⟩
theorem k_commute (d : Nat) (G : MG) (c : MC) (a b : Int) (H : IV G c) : EvI (d + 40) mX10_commute [mR 16 0, mI a, mI b] (G, c) (fun r1 ν1 => EvI (d + 40) mX12_commute [mR 18 62, mI a, mI b] (ν1.1, ν1.2) (fun r2 ν2 => K2 G r1 r2 ν2)) := by
  obtain ⟨hr, t, z, S, V⟩ := H
  have H0 : IV0 G c := ⟨t, z, S, V⟩
  rcases V with V | ⟨T, n, m, u, q, w, x, s, ka, ki, g, V⟩
  · have I := S.ciN V
    have e1 := V.e1; have e3 := V.e3; have e4 := V.e4; have N := V.T
    have N1 : ∀ wy, up (up c 0 6 wy) 62 0 0 62 3 = -1 := fun wy => by rw [up_nj (by decide), up_na (by decide)]; exact N
    refine ev_X10_commute (d + 39) _ G c 0 a b (by decide) ?_
    simp only [z_isTube _ _ _ _ t I e1, z_isPerson _ _ _ _ t I _ e3, z_isSlot _ _ _ _ t I _ e1, z_isTurn _ _ _ _ t I _ e4, z_areTwo _ _ _ _ t I _ _ e3, z_isPlace _ _ _ _ t I _ e1, ↓reduceIte, q_refused]
    refine ev_X12_commute (d + 39) _ G _ 62 a b (by decide) ⟨by decide, ?_⟩
    rintro _ rfl
    simp only [q_nisSlot _ _ _ _ (N1 _), q_nisPerson _ _ _ _ (N1 _), q_nisTurn _ _ _ _ (N1 _), q_nareTwo _ _ _ _ (N1 _), q_nisPlace _ _ _ _ (N1 _), N1, ↓reduceIte, q_mrefused, Int.reduceNeg, Int.reduceLT, Int.reduceLE, true_and]
    exact ⟨rfl, rfl, IV.q H0 (by decide) (agr_0 _)⟩
  · have I := S.ciT V
    have M := V.M; have hT := M.T; have ht := V.t
    have v1 := V.v1; have v3 := V.v3; have v4 := V.v4; have e0 := V.e0; have e1 := V.e1; have e3 := V.e3; have e4 := V.e4; have e5 := V.e5
    have b0 := M.b0; have b1 := M.b1; have b3 := M.b3; have b4 := M.b4
    rw [v1] at b1; rw [v3] at b3; rw [v4] at b4
    have hnp : 0 < n := by omega
    have hTn : ¬ T < 0 := by omega
    have M1 : ∀ wy, MDs G (up (up c 0 6 wy) 62 0 0) T := fun wy => (M.ki ki_up7).agr (agr_0 _)
    have r64 : ∀ wy, up (up c 0 6 wy) 62 0 0 64 = c 64 := fun wy => by funext j; rw [up_na (by decide), up_na (by decide)]
    have rT : ∀ wy k, up (up c 0 6 wy) 62 0 0 T k = c T k := fun wy k => by rw [up_na (by omega), up_na (by omega)]
    have rTT : ∀ wy (a : Int), 0 ≤ a → up (up c 0 6 wy) 62 0 0 (T + a) = c (T + a) := fun wy a ha => by funext j; rw [up_na (by omega), up_na (by omega)]
    have rS : ∀ wy a b, sld (up (up c 0 6 wy) 62 0 0) T a b = sld c T a b := fun wy a b => sld_eq (fun a j q => by rw [up_na (by omega), up_na (by omega)]) hT
    have hS : ∀ a b, 0 ≤ a → a < u → 0 ≤ b → b < n → sld c T a b = dg (g a) b := fun a b h1 h2 h3 h4 => by unfold sld; rw [v4, if_pos h2]; exact V.tk a b h1 h2 h3 h4
    have V1 : ∀ wy, TV G (up (up c 0 6 wy) 62 0 0) t T n m u q w x s ka ki g := fun wy => (V.kp ki_up7).kp (ki_agr (agr_0 _))
    skip
    refine ev_X10_commute (d + 39) _ G c 0 a b (by decide) ?_
    simp only [q_isTube _ _ _ _ t I, q_isPerson _ _ _ _ t I, q_isSlot _ _ _ _ t I, q_isTurn _ _ _ _ t I, q_areTwo _ _ _ _ t I, q_isPlace _ _ _ _ t I, e0, e1, e3, e4, hnp, ↓reduceIte]
    by_cases h1 : 0 ≤ a ∧ a < u
    · by_cases h2 : 0 ≤ b ∧ b < u
      · simp only [h1, h2, and_self, ↓reduceIte, I.p0, I.H.p8, I.H.g3, e1, q_X7_commuting _ _ _ _ _ _ n (show n ≤ 1000 by omega), q_fine]
        (repeat (refine And.intro (by first | omega | (simp only [true_and, and_true, and_self]; omega) | (simp only [true_and, and_true, and_self])) ?_))
        have hrg : ∀ t k, t = a ∨ t = b → 0 ≤ k → k < n → 0 ≤ sld c T t k ∧ sld c T t k < n := fun t k ht h3 h4 => by
          have : 0 ≤ t ∧ t < u := by omega
          rw [hS t k this.1 this.2 h3 h4]; exact (V.gp t this.1 this.2).rg k h3 h4
        have eC : c (t + 3) a = g a ∧ c (t + 3) b = g b := ⟨V.g a h1.1 h1.2, V.g b h2.1 h2.2⟩
        have mdl : ∀ (r : Int), r = fi (fun i => decide (sld c T a (sld c T b i) ≠ sld c T b (sld c T a i))) (fun _ => 0) 1 n.toNat 0 → EvI (d + 40) mX12_commute [mR 18 62, mI a, mI b] (G, up c 0 6 0) (fun r2 ν2 => K2 G r r2 ν2) := by
          intro r hr'
          refine ev_X12_commute (d + 39) _ G _ 62 a b (by decide) ⟨by decide, ?_⟩
          rintro _ rfl
          simp only [q_misSlot _ _ _ _ T (M1 _), q_misPerson _ _ _ _ T (M1 _), q_misTurn _ _ _ _ T (M1 _), q_mareTwo _ _ _ _ T (M1 _), q_misPlace _ _ _ _ T (M1 _), (M1 _).p3, hTn, rT, v1, v3, v4, ↓reduceIte, Int.reduceLE, true_and, h1, h2, and_self, ↓reduceIte]
          rw [q_doCommute _ _ _ _ T (M1 0) a b h1.1 (by omega) h2.1 (by omega) (fun t k ht h3 h4 => by rw [rT, v1] at *; rw [rS]; exact hrg t k ht h3 h4)]
          simp only [rS, rT, v1, ← hr', q_mgood]
          have h01 : r = 0 ∨ r = 1 := by
            rw [hr']
            by_cases hq : ∃ k, 0 ≤ k ∧ k < n ∧ sld c T a (sld c T b k) ≠ sld c T b (sld c T a k)
            · obtain ⟨k, k0, k1, k2⟩ := hq
              exact Or.inl (fi_some n.toNat 0 k k0 (by omega) (by simpa using k2))
            · exact Or.inr (fi_none n.toNat 0 (fun k k0 k1 => by
                have : sld c T a (sld c T b k) = sld c T b (sld c T a k) := Decidable.not_not.mp (fun q => hq ⟨k, k0, by omega, q⟩)
                simp [this]))
          rcases h01 with h0 | h0
          · rw [h0, if_pos rfl]; exact ⟨rfl, rfl, IV.q H0 (by decide) (agr_0 _)⟩
          · rw [h0, if_neg (by decide)]; exact ⟨rfl, rfl, IV.q H0 (by decide) (agr_0 _)⟩
        rw [eC.1, eC.2]
        have ga := V.gp a h1.1 h1.2
        have gb := V.gp b h2.1 h2.2
        by_cases hq : thr (g a) (g b) n = thr (g b) (g a) n
        · rw [if_pos hq, if_neg (by decide)]
          refine mdl 1 (fi_none n.toNat 0 (fun k k0 k1 => ?_)).symm
          have e := congrArg (fun y => dg y k) hq
          simp only [(thr_all (a := g a) (b := g b) (n := n) (by omega) (by omega)).2 k k0 (by omega), (thr_all (a := g b) (b := g a) (n := n) (by omega) (by omega)).2 k k0 (by omega)] at e
          have r1 := ga.rg k k0 (by omega)
          have r2 := gb.rg k k0 (by omega)
          rw [hS b k h2.1 h2.2 k0 (by omega), hS a k h1.1 h1.2 k0 (by omega), hS a _ h1.1 h1.2 r2.1 r2.2, hS b _ h2.1 h2.2 r1.1 r1.2, e]
          simp
        · rw [if_neg hq, if_pos rfl]
          refine mdl 0 ?_
          have hex : ∃ k, 0 ≤ k ∧ k < n ∧ dg (thr (g a) (g b) n) k ≠ dg (thr (g b) (g a) n) k := Classical.byContradiction fun hn => hq ((thr_pm (by omega) (by omega) ga gb).ext (by omega) (by omega) (thr_pm (by omega) (by omega) gb ga) fun k k0 k1 => Decidable.not_not.mp fun q => hn ⟨k, k0, k1, q⟩)
          obtain ⟨k, k0, k1, k2⟩ := hex
          rw [(thr_all (by omega) (by omega)).2 k k0 k1, (thr_all (by omega) (by omega)).2 k k0 k1] at k2
          have r1 := ga.rg k k0 (by omega)
          have r2 := gb.rg k k0 (by omega)
          refine (fi_some n.toNat 0 k k0 (by omega) ?_).symm
          rw [hS b k h2.1 h2.2 k0 (by omega), hS a k h1.1 h1.2 k0 (by omega), hS a _ h1.1 h1.2 r2.1 r2.2, hS b _ h2.1 h2.2 r1.1 r1.2]
          simpa using Ne.symm k2
      · simp only [h1, h2, and_self, ↓reduceIte, q_refused]
        refine ev_X12_commute (d + 39) _ G _ 62 a b (by decide) ⟨by decide, ?_⟩
        rintro _ rfl
        simp only [q_misSlot _ _ _ _ T (M1 _), q_misPerson _ _ _ _ T (M1 _), q_misTurn _ _ _ _ T (M1 _), q_mareTwo _ _ _ _ T (M1 _), q_misPlace _ _ _ _ T (M1 _), (M1 _).p3, hTn, rT, v1, v3, v4, ↓reduceIte, Int.reduceLE, true_and, h1, h2, and_self, ↓reduceIte, q_mrefused]
        exact ⟨rfl, rfl, IV.q H0 (by decide) (agr_0 _)⟩
    · simp only [h1, and_self, ↓reduceIte, q_refused]
      refine ev_X12_commute (d + 39) _ G _ 62 a b (by decide) ⟨by decide, ?_⟩
      rintro _ rfl
      simp only [q_misSlot _ _ _ _ T (M1 _), q_misPerson _ _ _ _ T (M1 _), q_misTurn _ _ _ _ T (M1 _), q_mareTwo _ _ _ _ T (M1 _), q_misPlace _ _ _ _ T (M1 _), (M1 _).p3, hTn, rT, v1, v3, v4, ↓reduceIte, Int.reduceLE, true_and, h1, and_self, ↓reduceIte, q_mrefused]
      exact ⟨rfl, rfl, IV.q H0 (by decide) (agr_0 _)⟩
