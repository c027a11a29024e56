theorem ssl_of {n i : Int} (n2 : 2 ≤ n) (n6 : n ≤ 6) (i0 : 0 ≤ i) (i1 : i < 1000) : ssl n i = if i / n % 2 = 0 then i % n else n - 1 - i % n := by
  unfold ssl
  have h1 : 0 ≤ i / n := Int.ediv_nonneg i0 (by omega)
  have h2 : i / n ≤ i := Int.ediv_le_self n i0
  have h3 : 0 ≤ i % n := Int.emod_nonneg i (by omega)
  have h4 : i % n < n := Int.emod_lt_of_pos i (by omega)
  rw [o_div_of i0 (by omega) (by omega) (by omega), o_rem_of i0 (by omega) (by omega) (by omega), o_rem_of h1 (by omega) (by omega) (by omega), w32i (x := n - 1) (by omega) (by omega), w32i (by omega) (by omega)]
def plc (n k v : Int) : Int := if k % 2 = 0 then k * n + v else k * n + (n - 1 - v)
theorem plc_of {n k v : Int} (n2 : 2 ≤ n) (n6 : n ≤ 6) (k0 : 0 ≤ k) (k1 : k < 20) (v0 : 0 ≤ v) (v1 : v < n) : k * n ≤ plc n k v ∧ plc n k v < (k + 1) * n ∧ plc n k v / n = k ∧ ssl n (plc n k v) = v := by
  unfold plc
  have hn : n = 2 ∨ n = 3 ∨ n = 4 ∨ n = 5 ∨ n = 6 := by omega
  by_cases h : k % 2 = 0
  · rw [if_pos h]
    rcases hn with rfl | rfl | rfl | rfl | rfl <;> refine ⟨by omega, by omega, by omega, ?_⟩ <;> rw [ssl_of (by omega) (by omega) (by omega) (by omega), if_pos (by omega)] <;> omega
  · rw [if_neg h]
    rcases hn with rfl | rfl | rfl | rfl | rfl <;> refine ⟨by omega, by omega, by omega, ?_⟩ <;> rw [ssl_of (by omega) (by omega) (by omega) (by omega), if_neg (by omega)] <;> omega
theorem ssl_plc {n i v : Int} (n2 : 2 ≤ n) (n6 : n ≤ 6) (i0 : 0 ≤ i) (i1 : i < 1000) (h : ssl n i = v) : i = plc n (i / n) v := by
  rw [ssl_of n2 n6 i0 i1] at h
  unfold plc
  have hn : n = 2 ∨ n = 3 ∨ n = 4 ∨ n = 5 ∨ n = 6 := by omega
  by_cases h2 : i / n % 2 = 0
  · rw [if_pos h2] at h ⊢
    rcases hn with rfl | rfl | rfl | rfl | rfl <;> omega
  · rw [if_neg h2] at h ⊢
    rcases hn with rfl | rfl | rfl | rfl | rfl <;> omega
theorem pl_le {S n : Int} (s0 : 2 ≤ S) (s9 : S ≤ 9) (n2 : 2 ≤ n) (n6 : n ≤ 6) : 0 < 2 * S * n ∧ 2 * S * n ≤ 108 := by
  have hn : n = 2 ∨ n = 3 ∨ n = 4 ∨ n = 5 ∨ n = 6 := by omega
  rcases hn with rfl | rfl | rfl | rfl | rfl <;> omega
/-- how many of the places before i show v -/
def qpl (n v i : Int) : Int := i / n + if plc n (i / n) v < i then 1 else 0
theorem qpl_0 {n v : Int} (n2 : 2 ≤ n) (n6 : n ≤ 6) (v0 : 0 ≤ v) (v1 : v < n) : qpl n v 0 = 0 := by
  unfold qpl plc
  simp only [Int.zero_ediv, Int.zero_emod, if_true, Int.zero_mul, Int.zero_add]
  rw [if_neg (by omega)]
theorem qpl_s {n v i : Int} (n2 : 2 ≤ n) (n6 : n ≤ 6) (v0 : 0 ≤ v) (v1 : v < n) (i0 : 0 ≤ i) (i1 : i < 1000) : (ssl n i = v → qpl n v i = i / n ∧ qpl n v (i + 1) = i / n + 1) ∧ (ssl n i ≠ v → qpl n v (i + 1) = qpl n v i) := by
  rw [ssl_of n2 n6 i0 i1]
  unfold qpl plc
  have hn : n = 2 ∨ n = 3 ∨ n = 4 ∨ n = 5 ∨ n = 6 := by omega
  rcases hn with rfl | rfl | rfl | rfl | rfl <;> (constructor <;> intro h <;> (repeat' split at h) <;> (repeat' split) <;> omega)
theorem qpl_e {S n v : Int} (s0 : 2 ≤ S) (s9 : S ≤ 9) (n2 : 2 ≤ n) (n6 : n ≤ 6) (v0 : 0 ≤ v) (v1 : v < n) : qpl n v (2 * S * n) = 2 * S := by
  unfold qpl plc
  rw [Int.mul_ediv_cancel _ (by omega : n ≠ 0), if_pos (show 2 * S % 2 = 0 by omega), if_neg (by omega), Int.add_zero]
theorem fi_who {v : Int → Int} {k : Int} : ∀ (j : Nat) (i : Int), fi (fun p => decide (v p = k)) (fun p => p) (-2) j i = -2 ∨ (i ≤ fi (fun p => decide (v p = k)) (fun p => p) (-2) j i ∧ fi (fun p => decide (v p = k)) (fun p => p) (-2) j i < i + j ∧ v (fi (fun p => decide (v p = k)) (fun p => p) (-2) j i) = k) := by
  intro j
  induction j with
  | zero => intro i; exact Or.inl rfl
  | succ j ih =>
    intro i
    simp only [fi]
    by_cases h : v i = k
    · rw [if_pos (decide_eq_true h)]
      exact Or.inr ⟨by omega, by omega, h⟩
    · rw [if_neg (by simpa using h)]
      rcases ih (i + 1) with q | q
      · exact Or.inl q
      · exact Or.inr ⟨by omega, by omega, q.2.2⟩
theorem whoF_at (v : Int → Int) {m : Int} (m0 : 0 ≤ m) (k : Int) : whoF v m k = -2 ∨ (0 ≤ whoF v m k ∧ whoF v m k < m ∧ v (whoF v m k) = k) := by
  have h := fi_who (v := v) (k := k) m.toNat 0
  unfold whoF
  rcases h with h | h
  · exact Or.inl h
  · exact Or.inr ⟨h.1, by omega, h.2.2⟩
section
variable {G : MG} {c : MC} {t T n m : Int} (d : Nat) (P : Int → MM → Prop)
theorem l_image (M : MDs G c T) (v1 : c T 1 = n) {a b : Int} (a0 : 0 ≤ a) (a1 : a < 6) (n2 : 2 ≤ n) (n6 : n ≤ 6) (s0 : 2 ≤ c T 0) (s9 : c T 0 ≤ 9) (h0 : 0 ≤ c 64 a) (h1 : c 64 a < n) (hF : 0 ≤ b → b < 2 * c T 0 → P (plc n b (c 64 a)) (G, mtr c 0)) (hE : ¬ (0 ≤ b ∧ b < 2 * c T 0) → P (-1) (G, mtr c 1)) : ∀ (j : Nat) (i k : Int), 0 ≤ i → i + j = 2 * c T 0 * n → k = qpl n (c 64 a) i → b < 0 ∨ k ≤ b → At (d + 2) mX12_image 24 [mR 18 62, mI a, mI b, mI k, mI i] [] (G, c) (QI P) := by
  intro j
  have hp := pl_le s0 s9 n2 n6
  induction j with
  | zero =>
    intro i k i0 hi hk hb
    apply wp_X12_image_24
    simp only [q_mplaces _ _ _ _ T M, v1, q_mrefused]
    rw [if_neg (by omega)]
    have he : i = 2 * c T 0 * n := by omega
    rw [he, qpl_e s0 s9 n2 n6 h0 h1] at hk
    exact hE (by omega)
  | succ j ih =>
    intro i k i0 hi hk hb
    have hq := qpl_s n2 n6 h0 h1 i0 (by omega)
    have hq0 : 0 ≤ qpl n (c 64 a) i := by
      unfold qpl
      have := Int.ediv_nonneg i0 (show 0 ≤ n by omega)
      split <;> omega
    have wi : w32 (i + 1) = i + 1 := w32i (by omega) (by omega)
    have hin : i / n ≤ i := Int.ediv_le_self n i0
    apply wp_X12_image_24
    simp only [q_mplaces _ _ _ _ T M, v1, q_seenSlot _ _ _ _ T M, M.p16, M.l64, q_mgood, wi]
    rw [if_pos (by omega)]
    refine ⟨by omega, ⟨by omega, by omega, by omega⟩, ?_⟩
    by_cases hs : ssl n i = c 64 a
    · rw [if_pos hs]
      have hq1 := hq.1 hs
      by_cases hb2 : k = b
      · rw [if_pos hb2]
        have hpp := ssl_plc n2 n6 i0 (by omega) hs
        have hb3 : i / n = b := by omega
        rw [hb3] at hpp
        have hlt : b < 2 * c T 0 := by
          rw [← hb3]
          exact Int.ediv_lt_of_lt_mul (by omega) (by omega)
        have := hF (by omega) hlt
        rw [← hpp] at this
        exact this
      · rw [if_neg hb2, w32i (by omega) (by omega)]
        exact ih (i + 1) (k + 1) (by omega) (by omega) (by omega) (by omega)
    · rw [if_neg hs]
      have hq2 := hq.2 hs
      exact ih (i + 1) k (by omega) (by omega) (by omega) hb
end
theorem k_image (d : Nat) (G : MG) (c : MC) (a b : Int) (H : IV G c) : EvI (d + 40) mX10_image [mR 16 0, mI a, mI b] (G, c) (fun r1 ν1 => EvI (d + 40) mX12_image [mR 18 62, mI a, mI b] (ν1.1, ν1.2) (fun r2 ν2 => K2 G r1 r2 ν2)) := by
  obtain ⟨hr, t, z, S, V⟩ := H
  have H0 : IV0 G c := ⟨t, z, S, V⟩
  rcases V with V | ⟨T, n, m, u, q, w, x, s, ka, ki, g, V⟩
  · have I := S.ciN V
    have e1 := V.e1; have e3 := V.e3; have e4 := V.e4; have N := V.T
    have N1 : ∀ wy, up (up c 0 6 wy) 62 0 0 62 3 = -1 := fun wy => by rw [up_nj (by decide), up_na (by decide)]; exact N
    refine ev_X10_image (d + 39) _ G c 0 a b (by decide) ?_
    simp only [z_isTube _ _ _ _ t I e1, z_isPerson _ _ _ _ t I _ e3, z_isSlot _ _ _ _ t I _ e1, z_isTurn _ _ _ _ t I _ e4, z_areTwo _ _ _ _ t I _ _ e3, z_isPlace _ _ _ _ t I _ e1, ↓reduceIte, q_refused]
    refine ev_X12_image (d + 39) _ G _ 62 a b (by decide) ⟨by decide, ?_⟩
    rintro _ rfl
    simp only [q_nisSlot _ _ _ _ (N1 _), q_nisPerson _ _ _ _ (N1 _), q_nisTurn _ _ _ _ (N1 _), q_nareTwo _ _ _ _ (N1 _), q_nisPlace _ _ _ _ (N1 _), N1, ↓reduceIte, q_mrefused, Int.reduceNeg, Int.reduceLT, Int.reduceLE, true_and]
    exact ⟨rfl, rfl, IV.q H0 (by decide) (agr_0 _)⟩
  · have I := S.ciT V
    have M := V.M; have hT := M.T; have ht := V.t
    have v1 := V.v1; have v3 := V.v3; have v4 := V.v4; have e0 := V.e0; have e1 := V.e1; have e3 := V.e3; have e4 := V.e4; have e5 := V.e5
    have b0 := M.b0; have b1 := M.b1; have b3 := M.b3; have b4 := M.b4
    rw [v1] at b1; rw [v3] at b3; rw [v4] at b4
    have hnp : 0 < n := by omega
    have hTn : ¬ T < 0 := by omega
    have M1 : ∀ wy, MDs G (up (up c 0 6 wy) 62 0 0) T := fun wy => (M.ki ki_up7).agr (agr_0 _)
    have r64 : ∀ wy, up (up c 0 6 wy) 62 0 0 64 = c 64 := fun wy => by funext j; rw [up_na (by decide), up_na (by decide)]
    have rT : ∀ wy k, up (up c 0 6 wy) 62 0 0 T k = c T k := fun wy k => by rw [up_na (by omega), up_na (by omega)]
    have rTT : ∀ wy (a : Int), 0 ≤ a → up (up c 0 6 wy) 62 0 0 (T + a) = c (T + a) := fun wy a ha => by funext j; rw [up_na (by omega), up_na (by omega)]
    have rS : ∀ wy a b, sld (up (up c 0 6 wy) 62 0 0) T a b = sld c T a b := fun wy a b => sld_eq (fun a j q => by rw [up_na (by omega), up_na (by omega)]) hT
    have hS : ∀ a b, 0 ≤ a → a < u → 0 ≤ b → b < n → sld c T a b = dg (g a) b := fun a b h1 h2 h3 h4 => by unfold sld; rw [v4, if_pos h2]; exact V.tk a b h1 h2 h3 h4
    have V1 : ∀ wy, TV G (up (up c 0 6 wy) 62 0 0) t T n m u q w x s ka ki g := fun wy => (V.kp ki_up7).kp (ki_agr (agr_0 _))
    skip
    refine ev_X10_image (d + 39) _ G c 0 a b (by decide) ?_
    simp only [q_isTube _ _ _ _ t I, q_isPerson _ _ _ _ t I, q_isSlot _ _ _ _ t I, q_isTurn _ _ _ _ t I, q_areTwo _ _ _ _ t I, q_isPlace _ _ _ _ t I, e0, e1, e3, e4, hnp, ↓reduceIte]
    by_cases h1 : 0 ≤ a ∧ a < m
    · have vv := V.sv a h1.1 h1.2
      have hs2 : 2 ≤ c T 0 ∧ c T 0 ≤ 9 := by omega
      simp only [h1, and_self, ↓reduceIte, q_sectors _ _ _ _ t I, e0, q_refused, q_slotOf _ _ _ _ t I, vv.1]
      have hm : ∀ wy (X : Int → MM → Prop), (0 ≤ b → b < 2 * c T 0 → X (plc n b (c 64 a)) (G, mtr (up (up c 0 6 wy) 62 0 0) 0)) → (¬ (0 ≤ b ∧ b < 2 * c T 0) → X (-1) (G, mtr (up (up c 0 6 wy) 62 0 0) 1)) → Ev (d + 40) mX12_image [mR 18 62, mI a, mI b] (G, up c 0 6 wy) (QI X) := by
        intro wy X hX hY
        refine ev_X12_image (d + 39) _ G _ 62 a b (by decide) ⟨by decide, ?_⟩
        rintro _ rfl
        simp only [q_misSlot _ _ _ _ T (M1 _), q_misPerson _ _ _ _ T (M1 _), q_misTurn _ _ _ _ T (M1 _), q_mareTwo _ _ _ _ T (M1 _), q_misPlace _ _ _ _ T (M1 _), (M1 _).p3, hTn, rT, v1, v3, v4, ↓reduceIte, Int.reduceLE, true_and, h1, and_self, ↓reduceIte]
        refine l_image (n := n) (d + 38) X (M1 wy) (by rw [rT]; exact v1) (by omega) (by omega) (by omega) (by omega) (by rw [rT]; omega) (by rw [rT]; omega) (by rw [r64]; exact vv.2.1) (by rw [r64]; exact vv.2.2) (by rw [r64, rT]; exact hX) (by rw [rT]; exact hY) (2 * c T 0 * n).toNat 0 0 (by omega) (by rw [rT]; have := pl_le hs2.1 hs2.2 (show 2 ≤ n by omega) (show n ≤ 6 by omega); omega) (by rw [r64, qpl_0 (by omega) (by omega) vv.2.1 vv.2.2]) (by omega)
      by_cases hb : b < 0
      · rw [if_pos hb]
        exact hm 1 _ (fun _ _ => by omega) (fun _ => ⟨rfl, rfl, IV.q H0 (by decide) (agr_0 _)⟩)
      · rw [if_neg hb]
        by_cases hb2 : b < 2 * c T 0
        · rw [if_pos hb2]
          simp only [q_placeIn _ _ _ _ t I b (c 64 a) (by omega) (by omega) (by omega) (by omega), q_fine, e1]
          exact hm 0 _ (fun _ _ => ⟨rfl, rfl, IV.q H0 (by decide) (agr_0 _)⟩) (fun _ => by omega)
        · rw [if_neg hb2]
          exact hm 1 _ (fun _ _ => by omega) (fun _ => ⟨rfl, rfl, IV.q H0 (by decide) (agr_0 _)⟩)
    · simp only [h1, and_self, ↓reduceIte, q_refused]
      refine ev_X12_image (d + 39) _ G _ 62 a b (by decide) ⟨by decide, ?_⟩
      rintro _ rfl
      simp only [q_misSlot _ _ _ _ T (M1 _), q_misPerson _ _ _ _ T (M1 _), q_misTurn _ _ _ _ T (M1 _), q_mareTwo _ _ _ _ T (M1 _), q_misPlace _ _ _ _ T (M1 _), (M1 _).p3, hTn, rT, v1, v3, v4, ↓reduceIte, Int.reduceLE, true_and, h1, and_self, ↓reduceIte, q_mrefused]
      exact ⟨rfl, rfl, IV.q H0 (by decide) (agr_0 _)⟩
def nxp (l i : Int) : Int := if i + 1 < l then i + 1 else 0
def slf (v : Int → Int) (m n l i s : Int) : Int := if whoF v m (ssl n i) < 0 then s else if whoF v m (ssl n i) = whoF v m (ssl n (nxp l i)) then o_or s (o_shl 1 (whoF v m (ssl n i))) else s
theorem or6_0 {s : Int} (s0 : 0 ≤ s) (s6 : s < 64) : o_or s 0 = s := by
  have h : alln 64 (fun s => decide (o_or s 0 = (s : Int))) = true := by decide +kernel
  obtain ⟨s, rfl⟩ := Int.eq_ofNat_of_zero_le s0
  simpa using alln_at h s (by omega)
theorem slf_rg {v : Int → Int} {m n l i s : Int} (m0 : 0 ≤ m) (m6 : m ≤ 6) (s0 : 0 ≤ s) (s6 : s < 64) : 0 ≤ slf v m n l i s ∧ slf v m n l i s < 64 := by
  unfold slf
  split
  · exact ⟨s0, s6⟩
  · split
    · rcases whoF_at v m0 (ssl n i) with h | h
      · omega
      · exact (or6 s0 s6 h.1 (by omega)).1
    · exact ⟨s0, s6⟩
theorem slf_ref {v : Int → Int} {m n l i : Int} (m0 : 0 ≤ m) (h : ¬ whoF v m (ssl n i) = -2) : (0 ≤ whoF v m (ssl n i) ∧ whoF v m (ssl n i) < m) ∧ (ssl n (nxp l i) = v (whoF v m (ssl n i)) ↔ whoF v m (ssl n i) = whoF v m (ssl n (nxp l i))) := by
  rcases whoF_at v m0 (ssl n i) with q | q
  · exact absurd q h
  · refine ⟨⟨q.1, q.2.1⟩, fun e => ?_, fun e => ?_⟩
    · rw [e, q.2.2]
    · rcases whoF_at v m0 (ssl n (nxp l i)) with r | r
      · omega
      · rw [e]; exact r.2.2.symm
theorem nxp_rem {l i : Int} (i0 : 0 ≤ i) (i1 : i < l) (l1 : l < 1000) : o_rem (i + 1) l = nxp l i := by
  rw [o_rem_of (by omega) (by omega) (by omega) (by omega)]
  unfold nxp
  split
  · exact Int.emod_eq_of_lt (by omega) (by omega)
  · rw [show i + 1 = l by omega, Int.emod_self]
section
variable {G : MG} {c : MC} {t T n m : Int} (d : Nat) (P : Int → MM → Prop)
theorem l_cselves (I : CI G c t) (hn : c t 1 ≠ 0) {l : Int} (l1 : l < 1000) : ∀ (j : Nat) (i s : Int), 0 ≤ i → i + j = l → P (fo (fun i s => slf (dg (c 42 0)) (c t 3) (c t 1) l i s) j i s) (G, up c 0 6 0) → At (d + 4) mX10_selves 22 [mR 16 0, mI s, mI l, mI i, MU, MU] [] (G, c) (QI P) := by
  intro j
  induction j with
  | zero =>
    intro i s i0 hi hP
    apply wp_X10_selves_22
    rw [if_neg (by omega), q_fine]
    exact hP
  | succ j ih =>
    intro i s i0 hi hP
    have wi : w32 (i + 1) = i + 1 := w32i (by omega) (by omega)
    apply wp_X10_selves_22
    simp only [fo] at hP
    simp only [wi, q_slotAt _ _ _ _ t I _ hn, q_whoIsIn _ _ _ _ t I]
    rw [if_pos (by omega)]
    unfold slf at hP
    unfold nxp at hP
    split
    · rename_i h2
      rw [if_pos h2] at hP
      split
      · rename_i h3
        rw [if_pos h3] at hP
        exact ih _ _ (by omega) (by omega) hP
      · rename_i h3
        rw [if_neg h3] at hP
        split
        · rename_i h4
          rw [if_pos h4] at hP
          exact ih _ _ (by omega) (by omega) hP
        · rename_i h4
          rw [if_neg h4] at hP
          exact ih _ _ (by omega) (by omega) hP
    · rename_i h2
      rw [if_neg h2] at hP
      split
      · rename_i h3
        rw [if_pos h3] at hP
        exact ih _ _ (by omega) (by omega) hP
      · rename_i h3
        rw [if_neg h3] at hP
        split
        · rename_i h4
          rw [if_pos h4] at hP
          exact ih _ _ (by omega) (by omega) hP
        · rename_i h4
          rw [if_neg h4] at hP
          exact ih _ _ (by omega) (by omega) hP
theorem l_mselves (M : MDs G c T) {l : Int} (hl : 2 * c T 0 * c T 1 = l) (l0 : 0 < l) (l1 : l < 1000) (m0 : 0 ≤ c T 3) (m6 : c T 3 ≤ 6) : ∀ (j : Nat) (i s : Int), 0 ≤ i → i + j = l → 0 ≤ s → s < 64 → P (fo (fun i s => slf (c 64) (c T 3) (c T 1) l i s) j i s) (G, mtr c 0) → At (d + 2) mX12_selves 22 [mR 18 62, mI s, mI i, MU] [] (G, c) (QI P) := by
  intro j
  induction j with
  | zero =>
    intro i s i0 hi s0 s6 hP
    apply wp_X12_selves_22
    simp only [q_mplaces _ _ _ _ T M, hl, q_mgood]
    rw [if_neg (by omega)]
    exact hP
  | succ j ih =>
    intro i s i0 hi s0 s6 hP
    have wi : w32 (i + 1) = i + 1 := w32i (by omega) (by omega)
    have hr := slf_rg (v := c 64) (n := c T 1) (l := l) (i := i) m0 m6 s0 s6
    apply wp_X12_selves_22
    simp only [fo] at hP
    simp only [wi, q_mplaces _ _ _ _ T M, hl, q_seenSlot _ _ _ _ T M, q_whoIn _ _ _ _ T M, M.p16, M.l64, nxp_rem i0 (by omega : i < l) l1, or6_0 s0 s6]
    rw [if_pos (by omega)]
    by_cases h : whoF (c 64) (c T 3) (ssl (c T 1) i) = -2
    · rw [if_pos h]
      have e : slf (c 64) (c T 3) (c T 1) l i s = s := by unfold slf; rw [if_pos (by omega)]
      rw [e] at hP
      exact ih _ _ (by omega) (by omega) s0 s6 hP
    · rw [if_neg h]
      obtain ⟨q1, q2⟩ := slf_ref (l := l) m0 h
      refine ⟨by omega, by omega, by omega, ?_⟩
      by_cases h2 : ssl (c T 1) (nxp l i) = c 64 (whoF (c 64) (c T 3) (ssl (c T 1) i))
      · rw [if_pos h2]
        have e : slf (c 64) (c T 3) (c T 1) l i s = o_or s (o_shl 1 (whoF (c 64) (c T 3) (ssl (c T 1) i))) := by unfold slf; rw [if_neg (by omega), if_pos (q2.1 h2)]
        rw [e] at hP hr
        exact ih _ _ (by omega) (by omega) hr.1 hr.2 hP
      · rw [if_neg h2]
        have e : slf (c 64) (c T 3) (c T 1) l i s = s := by unfold slf; rw [if_neg (by omega), if_neg (fun q => h2 (q2.2 q))]
        rw [e] at hP
        exact ih _ _ (by omega) (by omega) s0 s6 hP
end
theorem k_selves (d : Nat) (G : MG) (c : MC) (H : IV G c) : EvI (d + 40) mX10_selves [mR 16 0] (G, c) (fun r1 ν1 => EvI (d + 40) mX12_selves [mR 18 62] (ν1.1, ν1.2) (fun r2 ν2 => K2 G r1 r2 ν2)) := by
  obtain ⟨hr, t, z, S, V⟩ := H
  have H0 : IV0 G c := ⟨t, z, S, V⟩
  rcases V with V | ⟨T, n, m, u, q, w, x, s, ka, ki, g, V⟩
  · have I := S.ciN V
    have e1 := V.e1; have e3 := V.e3; have e4 := V.e4; have N := V.T
    have N1 : ∀ wy, up (up c 0 6 wy) 62 0 0 62 3 = -1 := fun wy => by rw [up_nj (by decide), up_na (by decide)]; exact N
    refine ev_X10_selves (d + 39) _ G c 0 (by decide) ?_
    simp only [z_isTube _ _ _ _ t I e1, z_isPerson _ _ _ _ t I _ e3, z_isSlot _ _ _ _ t I _ e1, z_isTurn _ _ _ _ t I _ e4, z_areTwo _ _ _ _ t I _ _ e3, z_isPlace _ _ _ _ t I _ e1, ↓reduceIte, q_refused]
    refine ev_X12_selves (d + 39) _ G _ 62 (by decide) ⟨by decide, ?_⟩
    rintro _ rfl
    simp only [q_nisSlot _ _ _ _ (N1 _), q_nisPerson _ _ _ _ (N1 _), q_nisTurn _ _ _ _ (N1 _), q_nareTwo _ _ _ _ (N1 _), q_nisPlace _ _ _ _ (N1 _), N1, ↓reduceIte, q_mrefused, Int.reduceNeg, Int.reduceLT, Int.reduceLE, true_and]
    exact ⟨rfl, rfl, IV.q H0 (by decide) (agr_0 _)⟩
  · have I := S.ciT V
    have M := V.M; have hT := M.T; have ht := V.t
    have v1 := V.v1; have v3 := V.v3; have v4 := V.v4; have e0 := V.e0; have e1 := V.e1; have e3 := V.e3; have e4 := V.e4; have e5 := V.e5
    have b0 := M.b0; have b1 := M.b1; have b3 := M.b3; have b4 := M.b4
    rw [v1] at b1; rw [v3] at b3; rw [v4] at b4
    have hnp : 0 < n := by omega
    have hTn : ¬ T < 0 := by omega
    have M1 : ∀ wy, MDs G (up (up c 0 6 wy) 62 0 0) T := fun wy => (M.ki ki_up7).agr (agr_0 _)
    have r64 : ∀ wy, up (up c 0 6 wy) 62 0 0 64 = c 64 := fun wy => by funext j; rw [up_na (by decide), up_na (by decide)]
    have rT : ∀ wy k, up (up c 0 6 wy) 62 0 0 T k = c T k := fun wy k => by rw [up_na (by omega), up_na (by omega)]
    have rTT : ∀ wy (a : Int), 0 ≤ a → up (up c 0 6 wy) 62 0 0 (T + a) = c (T + a) := fun wy a ha => by funext j; rw [up_na (by omega), up_na (by omega)]
    have rS : ∀ wy a b, sld (up (up c 0 6 wy) 62 0 0) T a b = sld c T a b := fun wy a b => sld_eq (fun a j q => by rw [up_na (by omega), up_na (by omega)]) hT
    have hS : ∀ a b, 0 ≤ a → a < u → 0 ≤ b → b < n → sld c T a b = dg (g a) b := fun a b h1 h2 h3 h4 => by unfold sld; rw [v4, if_pos h2]; exact V.tk a b h1 h2 h3 h4
    have V1 : ∀ wy, TV G (up (up c 0 6 wy) 62 0 0) t T n m u q w x s ka ki g := fun wy => (V.kp ki_up7).kp (ki_agr (agr_0 _))
    skip
    refine ev_X10_selves (d + 39) _ G c 0 (by decide) ?_
    simp only [q_isTube _ _ _ _ t I, q_isPerson _ _ _ _ t I, q_isSlot _ _ _ _ t I, q_isTurn _ _ _ _ t I, q_areTwo _ _ _ _ t I, q_isPlace _ _ _ _ t I, e0, e1, e3, e4, hnp, ↓reduceIte]
    have hs2 : 2 ≤ c T 0 ∧ c T 0 ≤ 9 := by omega
    have hpl := pl_le hs2.1 hs2.2 (show 2 ≤ n by omega) (show n ≤ 6 by omega)
    simp only [q_places _ _ _ _ t I, e0, e1]
    have hwho : ∀ k, whoF (dg (c 42 0)) m k = whoF (c 64) m k := fun k => whoF_congr (fun p p0 p1 => (V.sv p p0 p1).1)
    refine l_cselves (d + 36) _ I (by omega) (show 2 * c T 0 * n < 1000 by omega) (2 * c T 0 * n).toNat 0 0 (by omega) (by omega) ?_
    rw [e3, e1]
    have hs : ∀ i s, slf (dg (c 42 0)) m n (2 * c T 0 * n) i s = slf (c 64) m n (2 * c T 0 * n) i s := fun i s => by unfold slf; simp only [hwho]
    simp only [hs]
    refine ev_X12_selves (d + 39) _ G _ 62 (by decide) ⟨by decide, ?_⟩
    rintro _ rfl
    simp only [q_misSlot _ _ _ _ T (M1 _), q_misPerson _ _ _ _ T (M1 _), q_misTurn _ _ _ _ T (M1 _), q_mareTwo _ _ _ _ T (M1 _), q_misPlace _ _ _ _ T (M1 _), (M1 _).p3, hTn, rT, v1, v3, v4, ↓reduceIte, Int.reduceLE, true_and]
    refine l_mselves (d + 38) _ (M1 _) (l := 2 * c T 0 * n) (by rw [rT, rT, v1]) (by omega) (by omega) (by rw [rT]; omega) (by rw [rT]; omega) (2 * c T 0 * n).toNat 0 0 (by omega) (by omega) (by omega) (by omega) ?_
    rw [r64, rT, rT, v1, v3]
    exact ⟨rfl, rfl, IV.q H0 (by decide) (agr_0 _)⟩
