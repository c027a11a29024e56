/-! weights over states, shaken -/
theorem sm_z (f : Int → Int) {n : Int} (h : n ≤ 0) : sm f n = 0 := by
  unfold sm
  rw [show n.toNat = 0 by omega]
  rfl
theorem sm_neg {P : Int → Prop} (h0 : ∀ n, n ≤ 0 → P n) (hs : ∀ n, 0 ≤ n → P n → P (n + 1)) : ∀ n, P n := by
  intro n
  by_cases h : n ≤ 0
  · exact h0 n h
  · exact sm_nat P (h0 0 (by omega)) hs n (by omega)
theorem sm_pl (f f' : Int → Int) : ∀ n, sm (fun i => f i + f' i) n = sm f n + sm f' n := by
  apply sm_neg
  · intro n h; rw [sm_z _ h, sm_z _ h, sm_z _ h]; rfl
  · intro n h ih; rw [sm_succ _ h, sm_succ _ h, sm_succ _ h, ih]; omega
theorem sm_ml (a : Int) (f : Int → Int) : ∀ n, sm (fun i => a * f i) n = a * sm f n := by
  apply sm_neg
  · intro n h; rw [sm_z _ h, sm_z _ h]; simp
  · intro n h ih; rw [sm_succ _ h, sm_succ _ h, ih, Int.mul_add]
theorem sm_nn {f : Int → Int} : ∀ n, (∀ i, 0 ≤ i → i < n → 0 ≤ f i) → 0 ≤ sm f n := by
  apply sm_neg
  · intro n h _; rw [sm_z _ h]; omega
  · intro n h ih k
    rw [sm_succ _ h]
    have := ih (fun i a b => k i a (by omega))
    have := k n h (by omega)
    omega
theorem sm_le {f f' : Int → Int} : ∀ n, (∀ i, 0 ≤ i → i < n → f i ≤ f' i) → sm f n ≤ sm f' n := by
  apply sm_neg
  · intro n h _; rw [sm_z _ h, sm_z _ h]; omega
  · intro n h ih k
    rw [sm_succ _ h, sm_succ _ h]
    have := ih (fun i a b => k i a (by omega))
    have := k n h (by omega)
    omega
theorem sm_mono {f : Int → Int} {k : Int} : ∀ n, k ≤ n → (∀ i, 0 ≤ i → i < n → 0 ≤ f i) → sm f k ≤ sm f n := by
  apply sm_neg
  · intro n h hk _; rw [sm_z _ h, sm_z _ (by omega)]; omega
  · intro n h ih hk hf
    by_cases e : k = n + 1
    · rw [e]; omega
    · have := ih (by omega) (fun i a b => hf i a (by omega))
      have := hf n h (by omega)
      rw [sm_succ _ h]
      omega
theorem sm_one {f : Int → Int} {r n : Int} (r0 : 0 ≤ r) (r1 : r < n) (h : ∀ i, 0 ≤ i → i < n → 0 ≤ f i) : f r ≤ sm f n := by
  have h1 := sm_mono (k := r + 1) n (by omega) h
  have h2 := sm_nn (f := f) r (fun i a b => h i a (by omega))
  rw [sm_succ _ r0] at h1
  omega
theorem sm_pt {f f' : Int → Int} {r : Int} (h : ∀ i, i ≠ r → f' i = f i) : ∀ n, 0 ≤ r → sm f' n = sm f n + (if r < n then f' r - f r else 0) := by
  apply sm_neg
  · intro n hn r0; rw [sm_z _ hn, sm_z _ hn, if_neg (by omega)]; rfl
  · intro n hn ih r0
    rw [sm_succ _ hn, sm_succ _ hn, ih r0]
    by_cases e : n = r
    · subst e
      rw [if_neg (by omega), if_pos (by omega)]
      omega
    · rw [h n e]
      by_cases e2 : r < n
      · rw [if_pos e2, if_pos (by omega)]; omega
      · rw [if_neg e2, if_neg (by omega)]; omega
theorem sm_sw (F : Int → Int → Int) (b : Int) : ∀ a, sm (fun i => sm (fun j => F i j) b) a = sm (fun j => sm (fun i => F i j) a) b := by
  apply sm_neg
  · intro n h
    rw [sm_z _ h]
    rw [sm_congr (g := fun _ => (0 : Int) * 0) (fun i _ _ => sm_z _ h), sm_ml]
    simp
  · intro n h ih
    rw [sm_succ _ h, ih, ← sm_pl]
    apply sm_congr
    intro i _ _
    rw [sm_succ _ h]
theorem sm_kst (a : Int) : ∀ n, 0 ≤ n → sm (fun _ => a) n = a * n := by
  apply sm_nat
  · rw [sm_z _ (by omega)]; simp
  · intro n h ih; rw [sm_succ _ h, ih, Int.mul_add, Int.mul_one]
theorem sm_dl (f : Int → Int) {r n : Int} (r0 : 0 ≤ r) (r1 : r < n) : sm (fun i => f i * (if i = r then 1 else 0)) n = f r := by
  have h := sm_pt (f := fun _ => (0 : Int) * 0) (f' := fun i => f i * (if i = r then 1 else 0)) (r := r) (fun i hi => by simp only [if_neg hi]; simp) n r0
  rw [h, if_pos r1, sm_ml]
  simp
theorem ml2 {a b A B : Int} (a0 : 0 ≤ a) (a1 : a ≤ A) (b0 : 0 ≤ b) (b1 : b ≤ B) : 0 ≤ a * b ∧ a * b ≤ A * B := ⟨Int.mul_nonneg a0 b0, Int.mul_le_mul a1 b1 b0 (by omega)⟩
/-- one shake of what is weighed -/
def stp (to : Int → Int → Int) (u s : Int) (F : Int → Int) (i : Int) : Int := (100 - s) * u * F i + s * sm (fun t => F (to i t)) u
def wkF (to : Int → Int → Int) (u s : Int) : Nat → (Int → Int) → Int → Int
  | 0, F, i => F i
  | k + 1, F, i => wkF to u s k (stp to u s F) i
def tw (u : Int) (k : Nat) : Int := (100 * u) ^ k
theorem tw_b {u : Int} (u1 : 1 ≤ u) (u3 : u ≤ 3) {k : Nat} (hk : k ≤ 5) : 1 ≤ tw u k ∧ tw u k ≤ 2430000000000 := by
  have hu : u = 1 ∨ u = 2 ∨ u = 3 := by omega
  have hk : k = 0 ∨ k = 1 ∨ k = 2 ∨ k = 3 ∨ k = 4 ∨ k = 5 := by omega
  rcases hu with rfl | rfl | rfl <;> rcases hk with rfl | rfl | rfl | rfl | rfl | rfl <;> decide
theorem tw_b4 {u : Int} (u1 : 1 ≤ u) (u3 : u ≤ 3) {k : Nat} (hk : k ≤ 4) : 1 ≤ tw u k ∧ tw u k ≤ 8100000000 := by
  have hu : u = 1 ∨ u = 2 ∨ u = 3 := by omega
  have hk : k = 0 ∨ k = 1 ∨ k = 2 ∨ k = 3 ∨ k = 4 := by omega
  rcases hu with rfl | rfl | rfl <;> rcases hk with rfl | rfl | rfl | rfl | rfl <;> decide
theorem tw_s {u : Int} {k : Nat} : tw u (k + 1) = tw u k * (100 * u) := by unfold tw; rw [Int.pow_succ]
theorem stp_k (to : Int → Int → Int) {u : Int} (u0 : 0 ≤ u) (s a : Int) : stp to u s (fun _ => a) = fun _ => 100 * u * a := by
  funext i
  unfold stp
  rw [sm_kst _ _ u0]
  grind
theorem wk_k (to : Int → Int → Int) {u : Int} (u0 : 0 ≤ u) (s : Int) : ∀ (k : Nat) (a i : Int), wkF to u s k (fun _ => a) i = tw u k * a := by
  intro k
  induction k with
  | zero => intro a i; simp [wkF, tw]
  | succ k ih =>
    intro a i
    simp only [wkF]
    rw [stp_k to u0, ih, tw_s, Int.mul_assoc (tw u k)]
/-- two systems of states, the one in the other -/
theorem wk_in {to to' : Int → Int → Int} {u s N : Int} {f : Int → Int} (hto : ∀ i t, 0 ≤ i → i < N → 0 ≤ t → t < u → (0 ≤ to i t ∧ to i t < N) ∧ f (to i t) = to' (f i) t) : ∀ (k : Nat) (F F' : Int → Int), (∀ i, 0 ≤ i → i < N → F i = F' (f i)) → ∀ i, 0 ≤ i → i < N → wkF to u s k F i = wkF to' u s k F' (f i) := by
  intro k
  induction k with
  | zero => intro F F' h i i0 i1; exact h i i0 i1
  | succ k ih =>
    intro F F' h
    simp only [wkF]
    refine ih _ _ (fun i i0 i1 => ?_)
    unfold stp
    rw [h i i0 i1]
    congr 2
    apply sm_congr
    intro t t0 t1
    have := hto i t i0 i1 t0 t1
    rw [h _ this.1.1 this.1.2, this.2]
/-- what has been weighed anew when the states before i, and the first t turns of i, are through -/
def Sct (N u s : Int) (to : Int → Int → Int) (w nx : Int → Int) (i t : Int) : Prop := (∀ k, 0 ≤ k → k < N → 0 ≤ nx k) ∧ ∀ F : Int → Int, sm (fun k => nx k * F k) N = (100 - s) * u * sm (fun k => w k * F k) N + s * sm (fun k => w k * sm (fun t => F (to k t)) u) i + s * (w i * sm (fun t => F (to i t)) t)
theorem Sct.z {N u s : Int} {to : Int → Int → Int} {w nx : Int → Int} (u1 : 0 ≤ u) (s1 : s ≤ 100) (w0 : ∀ k, 0 ≤ k → k < N → 0 ≤ w k) (h : ∀ k, 0 ≤ k → k < N → nx k = w k * ((100 - s) * u)) : Sct N u s to w nx 0 0 := by
  refine ⟨fun k a b => ?_, fun F => ?_⟩
  · rw [h k a b]; exact Int.mul_nonneg (w0 k a b) (Int.mul_nonneg (by omega) u1)
  · rw [sm_z _ (Int.le_refl 0), sm_z _ (Int.le_refl 0), ← sm_ml, Int.mul_zero, Int.mul_zero, Int.mul_zero, Int.add_zero, Int.add_zero]
    apply sm_congr
    intro k a b
    rw [h k a b, Int.mul_comm (w k), Int.mul_assoc]
theorem Sct.skip {N u s : Int} {to : Int → Int → Int} {w nx : Int → Int} {i : Int} (i0 : 0 ≤ i) (hw : w i = 0) (h : Sct N u s to w nx i 0) : Sct N u s to w nx (i + 1) 0 := by
  refine ⟨h.1, fun F => ?_⟩
  rw [h.2 F, sm_succ _ i0, hw, sm_z _ (Int.le_refl 0), sm_z _ (Int.le_refl 0)]
  simp
theorem Sct.next {N u s : Int} {to : Int → Int → Int} {w nx : Int → Int} {i : Int} (i0 : 0 ≤ i) (h : Sct N u s to w nx i u) : Sct N u s to w nx (i + 1) 0 := by
  refine ⟨h.1, fun F => ?_⟩
  rw [h.2 F, sm_succ _ i0, sm_z (fun t => F (to (i + 1) t)) (Int.le_refl 0), Int.mul_add]
  simp
  omega
theorem Sct.step {N u s : Int} {to : Int → Int → Int} {w nx nx' : Int → Int} {i t : Int} (t0 : 0 ≤ t) (s0 : 0 ≤ s) (hwi : 0 ≤ w i) (r0 : 0 ≤ to i t) (r1 : to i t < N) (h : Sct N u s to w nx i t) (e : nx' (to i t) = nx (to i t) + w i * s) (e' : ∀ k, k ≠ to i t → nx' k = nx k) : Sct N u s to w nx' i (t + 1) := by
  refine ⟨fun k a b => ?_, fun F => ?_⟩
  · by_cases hk : k = to i t
    · rw [hk, e]
      have := h.1 _ r0 r1
      have := Int.mul_nonneg hwi s0
      omega
    · rw [e' k hk]; exact h.1 k a b
  · rw [sm_pt (f := fun k => nx k * F k) (f' := fun k => nx' k * F k) (r := to i t) (fun k hk => by simp only [e' k hk]) N r0, if_pos r1, h.2 F, sm_succ _ t0]
    simp only [e]
    grind
theorem Sct.done {N u s : Int} {to : Int → Int → Int} {w nx : Int → Int} (h : Sct N u s to w nx N 0) (F : Int → Int) : sm (fun k => nx k * F k) N = sm (fun k => w k * stp to u s F k) N := by
  rw [h.2 F, sm_z _ (Int.le_refl 0), Int.mul_zero, Int.mul_zero, Int.add_zero, ← sm_ml, ← sm_ml, ← sm_pl]
  apply sm_congr
  intro k _ _
  unfold stp
  grind
theorem Sct.bd {N u s T : Int} {to : Int → Int → Int} {w nx : Int → Int} {i t : Int} (u1 : 1 ≤ u) (u3 : u ≤ 3) (s0 : 0 ≤ s) (s1 : s ≤ 100) (w0 : ∀ k, 0 ≤ k → k < N → 0 ≤ w k) (wT : sm w N = T) (T1 : T ≤ 8100000000) (i0 : 0 ≤ i) (i1 : i < N) (t0 : 0 ≤ t) (t1 : t ≤ u) (h : Sct N u s to w nx i t) : (∀ k, 0 ≤ k → k < N → 0 ≤ nx k ∧ nx k ≤ 7290000000000) ∧ (0 ≤ w i * s ∧ w i * s ≤ 810000000000) := by
  have hT := sm_nn (f := w) N w0
  have hwi := sm_one (f := w) i0 i1 w0
  have hwi0 := w0 i i0 i1
  have hF := h.2 (fun _ => 1)
  have e1 : sm (fun k => nx k * (1 : Int)) N = sm nx N := sm_congr (fun k _ _ => Int.mul_one _)
  have e2 : sm (fun k => w k * (1 : Int)) N = T := by rw [← wT]; exact sm_congr (fun k _ _ => Int.mul_one _)
  have e3 : sm (fun k => w k * sm (fun _ => (1 : Int)) u) i = u * sm w i := by
    rw [← sm_ml]
    apply sm_congr
    intro k _ _
    rw [sm_kst _ _ (by omega), Int.one_mul, Int.mul_comm]
  have e4 : sm (fun _ => (1 : Int)) t = t := by rw [sm_kst _ _ t0, Int.one_mul]
  simp only [e1, e2, e3, e4] at hF
  have hm := sm_mono (f := w) (k := i) N (by omega) w0
  have hm0 := sm_nn (f := w) i (fun k a b => w0 k a (by omega))
  have a1 := ml2 (a := 100 - s) (b := u) (A := 100) (B := 3) (by omega) (by omega) (by omega) u3
  have a2 := ml2 (a := (100 - s) * u) (b := T) (A := 100 * 3) (B := 8100000000) a1.1 a1.2 (by omega) T1
  have a3 := ml2 (a := u) (b := sm w i) (A := 3) (B := 8100000000) (by omega) u3 hm0 (by omega)
  have a4 := ml2 (a := s) (b := u * sm w i) (A := 100) (B := 3 * 8100000000) s0 s1 a3.1 a3.2
  have a5 := ml2 (a := w i) (b := t) (A := 8100000000) (B := 3) hwi0 (by omega) t0 (by omega)
  have a6 := ml2 (a := s) (b := w i * t) (A := 100) (B := 8100000000 * 3) s0 s1 a5.1 a5.2
  have a7 := ml2 (a := w i) (b := s) (A := 8100000000) (B := 100) hwi0 (by omega) s0 s1
  refine ⟨fun k k0 k1 => ⟨h.1 k k0 k1, ?_⟩, a7.1, by omega⟩
  have := sm_one (f := nx) k0 k1 h.1
  omega
/-- what stands behind k shakes, begun at i -/
def Wgh (N u s : Int) (to : Int → Int → Int) (w : Int → Int) (k : Nat) (i : Int) : Prop := (∀ j, 0 ≤ j → j < N → 0 ≤ w j) ∧ ∀ F : Int → Int, sm (fun j => w j * F j) N = wkF to u s k F i
theorem Wgh.z {N u s : Int} {to : Int → Int → Int} {w : Int → Int} {i : Int} (i0 : 0 ≤ i) (i1 : i < N) (h : ∀ j, 0 ≤ j → j < N → w j = if j = i then 1 else 0) : Wgh N u s to w 0 i := by
  refine ⟨fun j a b => ?_, fun F => ?_⟩
  · rw [h j a b]; split <;> omega
  · show _ = F i
    rw [← sm_dl F i0 i1]
    apply sm_congr
    intro j a b
    rw [h j a b, Int.mul_comm]
theorem Wgh.s {N u s : Int} {to : Int → Int → Int} {w nx : Int → Int} {k : Nat} {i : Int} (h : Wgh N u s to w k i) (hs : Sct N u s to w nx N 0) : Wgh N u s to nx (k + 1) i := ⟨hs.1, fun F => by rw [hs.done F, h.2 _]; rfl⟩
theorem Wgh.t {N u s : Int} {to : Int → Int → Int} {w : Int → Int} {k : Nat} {i : Int} (u0 : 0 ≤ u) (h : Wgh N u s to w k i) : sm w N = tw u k := by
  have := h.2 (fun _ => 1)
  rw [wk_k to u0, Int.mul_one] at this
  rw [← this]
  exact sm_congr (fun k _ _ => (Int.mul_one _).symm)
theorem Wgh.c {N u s : Int} {to : Int → Int → Int} {w w' : Int → Int} {k : Nat} {i : Int} (h : Wgh N u s to w k i) (e : ∀ j, 0 ≤ j → j < N → w' j = w j) : Wgh N u s to w' k i := ⟨fun j a b => by rw [e j a b]; exact h.1 j a b, fun F => by rw [← h.2 F]; exact sm_congr (fun j a b => by rw [e j a b])⟩
/-- the pairs of slots beside each other, among the states -/
def bsm (w : Int → Int) (k : Int) : Int := sm (fun j => w (9 * j + 1) + w (9 * j + 8)) k
def bsF (k j : Int) : Int := sm (fun i => (if j = 9 * i + 1 then 1 else 0) + (if j = 9 * i + 8 then 1 else 0)) k
theorem bsm_eq (w : Int → Int) {k : Int} (hk : k ≤ 6) : sm (fun j => w j * bsF k j) 64 = bsm w k := by
  unfold bsF bsm
  have e : sm (fun j => w j * sm (fun i => (if j = 9 * i + 1 then (1 : Int) else 0) + (if j = 9 * i + 8 then 1 else 0)) k) 64 = sm (fun j => sm (fun i => w j * (if j = 9 * i + 1 then (1 : Int) else 0) + w j * (if j = 9 * i + 8 then 1 else 0)) k) 64 := by
    apply sm_congr
    intro j _ _
    rw [← sm_ml]
    apply sm_congr
    intro i _ _
    rw [Int.mul_add]
  rw [e, sm_sw]
  apply sm_congr
  intro i i0 i1
  rw [sm_pl, sm_dl w (by omega) (by omega), sm_dl w (by omega) (by omega)]
theorem bsF_chk : alln 5 (fun n => alln 6 fun a => alln 6 fun b => decide (n + 2 ≤ a) || decide (n + 2 ≤ b) || decide (bsF ((n : Int) + 1) (8 * (a : Int) + (b : Int)) = bes (a : Int) (b : Int))) = true := by decide +kernel
theorem bsF_eq {n a b : Int} (n2 : 2 ≤ n) (n6 : n ≤ 6) (a0 : 0 ≤ a) (a1 : a < n) (b0 : 0 ≤ b) (b1 : b < n) : bsF (n - 1) (8 * a + b) = bes a b := by
  obtain ⟨m, hm⟩ := Int.eq_ofNat_of_zero_le (show 0 ≤ n - 2 by omega)
  obtain ⟨a, rfl⟩ := Int.eq_ofNat_of_zero_le a0
  obtain ⟨b, rfl⟩ := Int.eq_ofNat_of_zero_le b0
  have := alln_at (alln_at (alln_at bsF_chk m (by omega)) a (by omega)) b (by omega)
  simp only [Bool.or_eq_true, decide_eq_true_eq] at this
  rw [show n - 1 = (m : Int) + 1 by omega]
  rcases this with (h | h) | h
  · omega
  · omega
  · exact h
