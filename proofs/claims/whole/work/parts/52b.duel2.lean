def pwr (B : Int) : Nat → Int
  | 0 => 1
  | j + 1 => pwr B j * B
theorem pwr_pos {B : Int} (h : 2 ≤ B) : ∀ j, 0 < pwr B j := by
  intro j
  induction j with
  | zero => exact Int.one_pos
  | succ j ih => exact Int.mul_pos ih (by omega)
theorem pwr_le {B : Int} (h : 2 ≤ B) (h4 : B ≤ 4) {j : Nat} (hj : j ≤ 5) : pwr B j ≤ 1024 := by
  have hB : B = 2 ∨ B = 3 ∨ B = 4 := by omega
  have hJ : j = 0 ∨ j = 1 ∨ j = 2 ∨ j = 3 ∨ j = 4 ∨ j = 5 := by omega
  rcases hB with rfl | rfl | rfl <;> rcases hJ with rfl | rfl | rfl | rfl | rfl | rfl <;> decide
def ps (g : Int → Int) (B k : Int) : Nat → Int → Int
  | 0, _ => k
  | j + 1, i => mv g (i % B) (ps g B k j (i / B))
def wl (j : Nat) : Int := if j % 2 = 0 then 1 else 0
def LV (g : Int → Int) (u k l : Int) (N j : Nat) (i : Int) : Int := VG g u (N - j) (ps g (u + 1) k j i) (ps g (u + 1) l j i) (wl j)
theorem wl_01 (j : Nat) : wl j = 0 ∨ wl j = 1 := by unfold wl; split <;> simp
theorem wl_s (j : Nat) : 1 - wl j = wl (j + 1) := by unfold wl; split <;> split <;> omega
theorem LV_01 (g : Int → Int) (u k l : Int) (N j : Nat) (i : Int) : LV g u k l N j i = 0 ∨ LV g u k l N j i = 1 := VG_01 _ _ _ _ _ _ (wl_01 j)
theorem ps_s {g : Int → Int} {B k : Int} (hB : 2 ≤ B) {j : Nat} {i x : Int} (x0 : 0 ≤ x) (x1 : x < B) : ps g B k (j + 1) (i * B + x) = mv g x (ps g B k j i) := by
  have h1 : (i * B + x) % B = x := by rw [Int.mul_comm, Int.add_comm, Int.add_mul_emod_self_left]; exact Int.emod_eq_of_lt x0 x1
  have h2 : (i * B + x) / B = i := by rw [Int.add_comm, Int.add_mul_ediv_right _ _ (by omega : B ≠ 0), Int.ediv_eq_zero_of_lt x0 x1, Int.zero_add]
  simp only [ps]
  rw [h1, h2]
theorem LV_s {g : Int → Int} {u k l : Int} (hu : 1 ≤ u) {N j : Nat} (hj : j < N) (i : Int) : LV g u k l N j i = fi (fun x => decide (LV g u k l N (j + 1) (i * (u + 1) + x) = wl j)) (fun _ => wl j) (1 - wl j) (u + 1).toNat 0 := by
  unfold LV
  obtain ⟨M, hM⟩ : ∃ M, N - j = M + 1 := ⟨N - j - 1, by omega⟩
  rw [hM, show N - (j + 1) = M by omega]
  simp only [VG]
  apply fi_congr
  intro x x0 x1
  refine ⟨?_, rfl⟩
  rw [ps_s (by omega) x0 (by omega), ps_s (by omega) x0 (by omega), wl_s]
def mmF (a : Int → Int) (w : Int) (x s : Int) : Int := if w = 0 then (if a x < s then a x else s) else (if s < a x then a x else s)
theorem mm_lem {a : Int → Int} {w : Int} (hw : w = 0 ∨ w = 1) : ∀ (j : Nat) (i s : Int), (∀ x, i ≤ x → x < i + j → a x = 0 ∨ a x = 1) → (s = 0 ∨ s = 1) → fo (mmF a w) j i s = if s = w then w else fi (fun x => decide (a x = w)) (fun _ => w) (1 - w) j i := by
  intro j
  induction j with
  | zero => intro i s _ hs; simp only [fo, fi]; split <;> omega
  | succ j ih =>
    intro i s ha hs
    have h1 := ha i (by omega) (by omega)
    simp only [fo, fi]
    have hm : mmF a w i s = 0 ∨ mmF a w i s = 1 := by unfold mmF; (repeat' split) <;> assumption
    rw [ih (i + 1) _ (fun x p q => ha x (by omega) (by omega)) hm]
    by_cases e : s = w
    · rw [if_pos e]
      have : mmF a w i s = w := by
        unfold mmF
        rcases hw with rfl | rfl
        · rw [if_pos rfl]; split <;> omega
        · rw [if_neg (by decide)]; split <;> omega
      rw [if_pos this]
    · rw [if_neg e]
      by_cases e2 : a i = w
      · have : mmF a w i s = w := by
          unfold mmF
          rcases hw with rfl | rfl
          · rw [if_pos rfl]; split <;> omega
          · rw [if_neg (by decide)]; split <;> omega
        rw [if_pos this, if_pos (decide_eq_true e2)]
      · have : ¬ mmF a w i s = w := by
          unfold mmF
          rcases hw with rfl | rfl
          · rw [if_pos rfl]; split <;> omega
          · rw [if_neg (by decide)]; split <;> omega
        rw [if_neg this, if_neg (fun q => e2 (of_decide_eq_true q))]
theorem fi_sh {p : Int → Bool} {v e : Int} (b : Int) : ∀ (j : Nat) (i : Int), fi p (fun _ => v) e j (b + i) = fi (fun x => p (b + x)) (fun _ => v) e j i := by
  intro j
  induction j with
  | zero => intro i; rfl
  | succ j ih => intro i; simp only [fi]; rw [← ih (i + 1), show b + i + 1 = b + (i + 1) by omega]
theorem mm_all {a f : Int → Int} {w u b : Int} (hw : w = 0 ∨ w = 1) (u0 : 0 ≤ u) (ha : ∀ x, 0 ≤ x → x < u + 1 → a (b + x) = f x ∧ (f x = 0 ∨ f x = 1)) : fo (mmF a w) u.toNat (b + 1) (a b) = fi (fun x => decide (f x = w)) (fun _ => w) (1 - w) (u + 1).toNat 0 := by
  have h0 := ha 0 (by omega) (by omega)
  rw [Int.add_zero] at h0
  rw [mm_lem hw _ _ _ (fun x p q => by have := ha (x - b) (by omega) (by omega); rw [show b + (x - b) = x by omega] at this; omega) (by omega), show (u + 1).toNat = u.toNat + 1 by omega]
  simp only [fi]
  rw [h0.1, fi_sh b u.toNat 1]
  by_cases e : f 0 = w
  · rw [if_pos e, if_pos (decide_eq_true e)]
  · rw [if_neg e, if_neg (fun q => e (of_decide_eq_true q))]
    apply fi_congr
    intro x x0 x1
    refine ⟨?_, rfl⟩
    rw [(ha x (by omega) (by omega)).1]
theorem nb5 {j b N : Nat} (h : j + (b + 1) = N) (hN : N ≤ 5) : b + 1 ≤ 5 ∧ b ≤ 5 := by omega
theorem nj5 {j N : Nat} (h : j < N) (hN : N ≤ 5) : j + 1 ≤ 5 ∧ j ≤ 5 := by omega
section
variable {G : MG} {c : MC} {t z T n m u q w x s ka ki : Int} {g : Int → Int} (d : Nat) (P : Int → MM → Prop)
theorem q_choices (M : MDs G c T) : EvI (d + 1) mX12_choices [mR 18 62] (G, c) P = P (c T 4 + 1) (G, c) := evI_eq (ev_X12_choices d _ G c 62 (by decide) (by
  have hT := M.T; have b4 := M.b4
  rw [M.p3, w32i (by omega) (by omega)]
  exact ⟨by omega, by omega, rfl, rfl⟩)) P
theorem q_best (M : MDs G c T) (hu : c T 4 = u) (i w : Int) (i0 : 0 ≤ i) (i1 : i + u < 1024) : EvI (d + 2) mX12_bestFrom [mR 18 62, mI i, mI w] (G, c) P = P (fo (mmF (c 76) w) u.toNat (i + 1) (c 76 i)) (G, c) := by
  have b4 := M.b4
  rw [hu] at b4
  refine evI_eq (ev_X12_bestFrom (d + 1) _ G c 62 i w (by decide) ?_) P
  rw [M.p35, M.l76, w32i (by omega) (by omega)]
  refine ⟨by omega, ⟨by omega, by omega, by omega⟩, ?_⟩
  have lp : ∀ (j : Nat) (y s v : Int), 0 ≤ y → y + j = i + u + 1 → v = fo (mmF (c 76) w) j y s → At (d + 1 + 1) mX12_bestFrom 12 [mR 18 62, mI i, mI w, mI s, mI y] [] (G, c) (QI fun x ν' => x = v ∧ ν' = (G, c)) := by
    intro j
    induction j with
    | zero =>
      intro y s v y0 hy hv
      apply wp_X12_bestFrom_12
      simp only [q_choices _ _ M, hu]
      rw [w32i (x := i + (u + 1)) (by omega) (by omega), if_neg (by omega)]
      exact ⟨hv.symm, by first | rfl | trivial⟩
    | succ j ih =>
      intro y s v y0 hy hv
      have wy : w32 (y + 1) = y + 1 := w32i (by omega) (by omega)
      simp only [fo] at hv
      unfold mmF at hv
      apply wp_X12_bestFrom_12
      simp only [q_choices _ _ M, hu, M.p35, M.l76, wy]
      rw [w32i (x := i + (u + 1)) (by omega) (by omega), if_pos (by omega)]
      by_cases h : w = 0
      · rw [if_pos h] at hv ⊢
        refine ⟨by omega, ⟨by omega, by omega, by omega⟩, ?_⟩
        split
        · rename_i h2; rw [if_pos h2] at hv; exact ⟨by omega, ⟨by omega, by omega, by omega⟩, ih _ _ _ (by omega) (by omega) hv⟩
        · rename_i h2; rw [if_neg h2] at hv; exact ih _ _ _ (by omega) (by omega) hv
      · rw [if_neg h] at hv ⊢
        refine ⟨by omega, ⟨by omega, by omega, by omega⟩, ?_⟩
        split
        · rename_i h2; rw [if_pos h2] at hv; exact ⟨by omega, ⟨by omega, by omega, by omega⟩, ih _ _ _ (by omega) (by omega) hv⟩
        · rename_i h2; rw [if_neg h2] at hv; exact ih _ _ _ (by omega) (by omega) hv
  exact lp u.toNat (i + 1) _ _ (by omega) (by omega) rfl
/-- the levels, from the last but one back to the second -/
theorem l_arg173 (V : TV G c t T n m u q w x s ka ki g) {k l : Int} {N j : Nat} (hj : j < N) (hN : N ≤ 5) (Q : MM → Prop) (hQ : ∀ c', (∀ a b, a ≠ 76 → c' a b = c a b) → (∀ i, 0 ≤ i → i < pwr (u + 1) j → c' 76 i = LV g u k l N j i) → At (d + 3) mX12_argues 156 [mR 18 62, MU, MU, MU, mI (pwr (u + 1) j), mI ((j : Int) - 1), MU, MU, MU, MU, MU] [] (G, c') (QV Q)) : ∀ (b : Nat) (i : Int) (c' : MC), 0 ≤ i → i + b = pwr (u + 1) j → (∀ a b, a ≠ 76 → c' a b = c a b) → (∀ y, 0 ≤ y → y < i → c' 76 y = LV g u k l N j y) → (∀ y, i ≤ y → y < pwr (u + 1) (j + 1) → c' 76 y = LV g u k l N (j + 1) y) → At (d + 3) mX12_argues 173 [mR 18 62, MU, MU, MU, mI (pwr (u + 1) j), mI (j : Int), mI i, MU, MU, MU, MU] [] (G, c') (QV Q) := by
  have b4 := V.M.b4; have hT := V.M.T
  rw [V.v4] at b4
  have hp := pwr_le (B := u + 1) (by omega) (by omega) (nj5 hj hN).1
  have hpj := pwr_le (B := u + 1) (by omega) (by omega) (nj5 hj hN).2
  have hp0 := pwr_pos (B := u + 1) (by omega) j
  have hs : pwr (u + 1) (j + 1) = pwr (u + 1) j * (u + 1) := rfl
  have hjl : (j : Int) ≤ 5 := by omega
  intro b
  induction b with
  | zero =>
    intro i c' i0 hi hc h1 h2
    apply wp_X12_argues_173
    rw [if_neg (by omega), w32i (by omega) (by omega)]
    exact hQ c' hc (fun y y0 y1 => h1 y y0 (by omega))
  | succ b ih =>
    intro i c' i0 hi hc h1 h2
    have M := V.M.kp (c' := c') (fun a b k => hc a b (by unfold Kp at k; omega))
    have e4 : c' T 4 = u := by rw [hc T 4 (by omega)]; exact V.v4
    have wi : w32 (i + 1) = i + 1 := w32i (by omega) (by omega)
    have hle : (i + 1) * (u + 1) ≤ pwr (u + 1) j * (u + 1) := Int.mul_le_mul_of_nonneg_right (by omega) (by omega)
    have hex : (i + 1) * (u + 1) = i * (u + 1) + (u + 1) := by rw [Int.add_mul, Int.one_mul]
    have hi0 : 0 ≤ i * (u + 1) := Int.mul_nonneg i0 (by omega)
    have hii : i ≤ i * (u + 1) := by
      have := Int.mul_le_mul_of_nonneg_left (show 1 ≤ u + 1 by omega) i0
      omega
    have wm : w32 (i * (u + 1)) = i * (u + 1) := w32i (by omega) (by omega)
    have hLV := LV_s (g := g) (u := u) (k := k) (l := l) (by omega) hj i
    have key : ∀ wv, wv = wl j → fo (mmF (c' 76) wv) u.toNat (i * (u + 1) + 1) (c' 76 (i * (u + 1))) = LV g u k l N j i := by
      rintro _ rfl
      rw [hLV]
      exact mm_all (wl_01 j) (by omega) (fun y y0 y1 => ⟨h2 _ (by omega) (by omega), LV_01 _ _ _ _ _ _ _⟩)
    have hr : o_rem (j : Int) 2 = (j : Int) % 2 := o_rem_of (by omega) (by omega) (by omega) (by omega)
    have go : ∀ c3, c3 = up c' 76 i (LV g u k l N j i) → At (d + 3) mX12_argues 173 [mR 18 62, MU, MU, MU, mI (pwr (u + 1) j), mI (j : Int), mI (i + 1), MU, MU, MU, MU] [] (G, c3) (QV Q) := by
      rintro _ rfl
      refine ih (i + 1) _ (by omega) (by omega) (fun a b h => by rw [up_na h]; exact hc a b h) (fun y y0 y1 => ?_) (fun y y0 y1 => ?_)
      · by_cases e : y = i
        · rw [e, up_eq]
        · rw [up_nj e]; exact h1 y y0 (by omega)
      · rw [up_nj (by omega)]; exact h2 y (by omega) y1
    apply wp_X12_argues_173
    simp only [q_choices _ _ M, e4, hr, wm, wi, q_best _ _ M e4 _ _ hi0 (show i * (u + 1) + u < 1024 by omega), M.p35, M.l76]
    rw [if_pos (by omega)]
    refine ⟨by omega, by decide, ?_⟩
    by_cases h : (j : Int) % 2 = 0
    · rw [if_pos h, key 1 (by unfold wl; rw [if_pos (by omega)])]
      exact ⟨⟨by omega, by omega, by omega⟩, go⟩
    · rw [if_neg h, key 0 (by unfold wl; rw [if_neg (by omega)])]
      exact ⟨⟨by omega, by omega, by omega⟩, go⟩
theorem l_arg156 {k l : Int} {N : Nat} (hN : N ≤ 5) (Q : MM → Prop) {c0 : MC} (hQ : ∀ c', (∀ a b, a ≠ 76 → c' a b = c0 a b) → (∀ i, 0 ≤ i → i < u + 1 → c' 76 i = LV g u k l N 1 i) → Q (G, c')) : ∀ (j : Nat) (c : MC), TV G c t T n m u q w x s ka ki g → (∀ a b, a ≠ 76 → c a b = c0 a b) → j < N → (∀ i, 0 ≤ i → i < pwr (u + 1) (j + 1) → c 76 i = LV g u k l N (j + 1) i) → At (d + 3) mX12_argues 156 [mR 18 62, MU, MU, MU, mI (pwr (u + 1) (j + 1)), mI (j : Int), MU, MU, MU, MU, MU] [] (G, c) (QV Q) := by
  intro j
  induction j with
  | zero =>
    intro c V hc hj h1
    apply wp_X12_argues_156
    rw [if_neg (by omega)]
    refine hQ c hc (fun i i0 i1 => h1 i i0 ?_)
    show i < 1 * (u + 1)
    omega
  | succ j ih =>
    intro c V hc hj h1
    have b4 := V.M.b4; have hT := V.M.T
    rw [V.v4] at b4
    have hp := pwr_le (B := u + 1) (by omega) (by omega) (nj5 hj hN).1
    have hp0 := pwr_pos (B := u + 1) (by omega) (j + 1 + 1)
    have hp1 := pwr_pos (B := u + 1) (by omega) (j + 1)
    have hd : o_div (pwr (u + 1) (j + 1 + 1)) (u + 1) = pwr (u + 1) (j + 1) := by
      rw [o_div_of (by omega) (by omega) (by omega) (by omega)]
      exact Int.mul_ediv_cancel _ (by omega)
    apply wp_X12_argues_156
    rw [if_pos (by omega)]
    simp only [q_choices _ _ V.M, V.v4, hd]
    refine ⟨by omega, ?_⟩
    refine l_arg173 d V hj hN Q (fun c' hc' h' => ?_) (pwr (u + 1) (j + 1)).toNat 0 c (by omega) (by omega) (fun _ _ _ => rfl) (fun y y0 y1 => by omega) (fun y y0 y1 => h1 y y0 y1)
    have V' : TV G c' t T n m u q w x s ka ki g := V.kp (fun a b h => hc' a b (by unfold KI scr at h; omega))
    have := ih c' V' (fun a b h => (hc' a b h).trans (hc a b h)) (by omega) h'
    rw [show ((j + 1 : Nat) : Int) - 1 = (j : Int) by omega]
    exact this
/-- the leaves -/
theorem l_arg60 (V : TV G c t T n m u q w x s ka ki g) {p1 p2 k l i : Int} {N : Nat} (hN : N ≤ 5) (hk : 0 ≤ k ∧ k < n) (hl : 0 ≤ l ∧ l < n) (i0 : 0 ≤ i) (i1 : i < pwr (u + 1) N) (Q : MM → Prop) (hQ : At (d + 3) mX12_argues 30 [mR 18 62, mI p1, mI p2, mI (N : Int), mI (pwr (u + 1) N), mI (i + 1), MU, MU, MU, MU, MU] [] (G, up c 76 i (bes (ps g (u + 1) k N i) (ps g (u + 1) l N i))) (QV Q)) : ∀ (b j : Nat), j + b = N → At (d + 3) mX12_argues 60 [mR 18 62, mI p1, mI p2, mI (N : Int), mI (pwr (u + 1) N), mI i, mI (ps g (u + 1) k j (i / pwr (u + 1) b)), mI (ps g (u + 1) l j (i / pwr (u + 1) b)), mI (pwr (u + 1) b), mI (j : Int), MU] [] (G, c) (QV Q) := by
  have b4 := V.M.b4; have b1 := V.M.b1; have hT := V.M.T; have M := V.M
  rw [V.v4] at b4; rw [V.v1] at b1
  have hpN := pwr_le (B := u + 1) (by omega) (by omega) hN
  have wi : w32 (i + 1) = i + 1 := w32i (by omega) (by omega)
  have rg : ∀ (k : Int), 0 ≤ k ∧ k < n → ∀ (j : Nat) (y : Int), 0 ≤ ps g (u + 1) k j y ∧ ps g (u + 1) k j y < n := by
    intro k hk j
    induction j with
    | zero => intro y; exact hk
    | succ j ih =>
      intro y
      simp only [ps]
      unfold mv
      have h0 := Int.emod_nonneg y (show u + 1 ≠ 0 by omega)
      have h1 := Int.emod_lt_of_pos y (show 0 < u + 1 by omega)
      split
      · exact ih _
      · have := ih (y / (u + 1))
        exact (V.gp _ (by omega) (by omega)).rg _ this.1 this.2
  intro b
  induction b with
  | zero =>
    intro j hj
    apply wp_X12_argues_60
    rw [if_neg (by omega), q_X12_areBeside, M.p35, M.l76, wi]
    refine ⟨by omega, ?_⟩
    have e1 : i / pwr (u + 1) 0 = i := Int.ediv_one i
    have ej : j = N := by omega
    rw [e1, ej]
    dsimp only
    rcases bes01 (ps g (u + 1) k N i) (ps g (u + 1) l N i) with h | h
    · rw [if_pos h]
      rw [h] at hQ
      refine ⟨⟨by omega, by omega, by omega⟩, ?_⟩
      rintro _ rfl
      exact hQ
    · rw [if_neg (by omega)]
      rw [h] at hQ
      refine ⟨⟨by omega, by omega, by omega⟩, ?_⟩
      rintro _ rfl
      exact hQ
  | succ b ih =>
    intro j hj
    have wj : w32 ((j : Int) + 1) = ((j + 1 : Nat) : Int) := by rw [w32i (by omega) (by omega)]; omega
    have hb := pwr_le (B := u + 1) (by omega) (by omega) (nb5 hj hN).1
    have hb2 := pwr_le (B := u + 1) (by omega) (by omega) (nb5 hj hN).2
    have hb0 := pwr_pos (B := u + 1) (by omega) b
    have hb1 := pwr_pos (B := u + 1) (by omega) (b + 1)
    have hd : o_div (pwr (u + 1) (b + 1)) (u + 1) = pwr (u + 1) b := by
      rw [o_div_of (by omega) (by omega) (by omega) (by omega)]
      exact Int.mul_ediv_cancel _ (by omega)
    have hq0 : 0 ≤ i / pwr (u + 1) b := Int.ediv_nonneg i0 (by omega)
    have hq1 : i / pwr (u + 1) b ≤ i := Int.ediv_le_self _ i0
    have hd2 : o_div i (pwr (u + 1) b) = i / pwr (u + 1) b := o_div_of i0 (by omega) hb0 (by omega)
    have hr : o_rem (i / pwr (u + 1) b) (u + 1) = i / pwr (u + 1) b % (u + 1) := o_rem_of hq0 (by omega) (by omega) (by omega)
    have hdd : i / pwr (u + 1) (b + 1) = i / pwr (u + 1) b / (u + 1) := by
      show i / (pwr (u + 1) b * (u + 1)) = _
      rw [Int.ediv_ediv_of_nonneg (by omega)]
    have hm0 := Int.emod_nonneg (i / pwr (u + 1) b) (show u + 1 ≠ 0 by omega)
    have hm1 := Int.emod_lt_of_pos (i / pwr (u + 1) b) (show 0 < u + 1 by omega)
    have hst : ∀ k, ps g (u + 1) k (j + 1) (i / pwr (u + 1) b) = mv g (i / pwr (u + 1) b % (u + 1)) (ps g (u + 1) k j (i / pwr (u + 1) (b + 1))) := fun k => by rw [hdd]; rfl
    have hgo := ih (j + 1) (by omega)
    rw [hst, hst] at hgo
    have r1 := rg k hk j (i / pwr (u + 1) (b + 1))
    have r2 := rg l hl j (i / pwr (u + 1) (b + 1))
    generalize ps g (u + 1) k j (i / pwr (u + 1) (b + 1)) = y1 at *
    generalize ps g (u + 1) l j (i / pwr (u + 1) (b + 1)) = y2 at *
    have wm : w32 (i / pwr (u + 1) b % (u + 1) - 1) = i / pwr (u + 1) b % (u + 1) - 1 := w32i (by omega) (by omega)
    apply wp_X12_argues_60
    simp only [q_choices _ _ M, V.v4, hd, hd2, hr, wm, wj]
    rw [if_pos (by omega)]
    refine ⟨by omega, by omega, by omega, ?_⟩
    generalize i / pwr (u + 1) b % (u + 1) = dd at *
    by_cases h : dd - 1 < 0
    · rw [if_pos h]
      have e : dd = 0 := by omega
      rw [e] at hgo
      exact hgo
    · rw [if_neg h]
      have em : ∀ y, mv g dd y = dg (g (dd - 1)) y := fun y => by unfold mv; rw [if_neg (by omega)]
      rw [em, em] at hgo
      have hsl : ∀ y, 0 ≤ y ∧ y < n → sld c T (dd - 1) y = dg (g (dd - 1)) y := fun y hy => by unfold sld; rw [V.v4, if_pos (by omega)]; exact V.tk (dd - 1) y (by omega) (by omega) hy.1 hy.2
      simp only [q_slid _ _ _ _ T M (dd - 1) y1 (by omega) (by omega) r1.1 (by omega), q_slid _ _ _ _ T M (dd - 1) y2 (by omega) (by omega) r2.1 (by omega), hsl y1 r1, hsl y2 r2]
      exact hgo
end
