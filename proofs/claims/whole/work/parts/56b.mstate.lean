/-! the reference reads: its state -/
def TT (G : MG) (c : MC) (T : Int) : Prop := (80 ≤ T) ∧ (c T 10 = T + 1) ∧ (c T 11 = T + 2) ∧ (c T 12 = T + 3) ∧ (c T 13 = T + 4) ∧ (c T 14 = T + 5) ∧ (c T 15 = T + 6) ∧ (c T 18 = T + 7) ∧ (c T 19 = T + 8) ∧ (c T 20 = T + 9) ∧ (c T 21 = T + 10) ∧ (c T 22 = T + 11) ∧ (c T 23 = T + 12) ∧ (c T 24 = T + 13) ∧ (gLn G (T + 1) = 6) ∧ (gLn G (T + 2) = 6) ∧ (gLn G (T + 3) = 6) ∧ (gLn G (T + 4) = 18) ∧ (gLn G (T + 5) = 4) ∧ (gLn G (T + 6) = 4) ∧ (gLn G (T + 7) = 3) ∧ (gLn G (T + 8) = 3) ∧ (gLn G (T + 9) = 5) ∧ (gLn G (T + 10) = 5) ∧ (gLn G (T + 11) = 9) ∧ (gLn G (T + 12) = 9) ∧ (gLn G (T + 13) = 9)
theorem TT.n {G : MG} {c : MC} {T : Int} (h : TT G c T) : 80 ≤ T := h.1
theorem TT.t10 {G : MG} {c : MC} {T : Int} (h : TT G c T) : c T 10 = T + 1 := h.2.1
theorem TT.t11 {G : MG} {c : MC} {T : Int} (h : TT G c T) : c T 11 = T + 2 := h.2.2.1
theorem TT.t12 {G : MG} {c : MC} {T : Int} (h : TT G c T) : c T 12 = T + 3 := h.2.2.2.1
theorem TT.t13 {G : MG} {c : MC} {T : Int} (h : TT G c T) : c T 13 = T + 4 := h.2.2.2.2.1
theorem TT.t14 {G : MG} {c : MC} {T : Int} (h : TT G c T) : c T 14 = T + 5 := h.2.2.2.2.2.1
theorem TT.t15 {G : MG} {c : MC} {T : Int} (h : TT G c T) : c T 15 = T + 6 := h.2.2.2.2.2.2.1
theorem TT.t18 {G : MG} {c : MC} {T : Int} (h : TT G c T) : c T 18 = T + 7 := h.2.2.2.2.2.2.2.1
theorem TT.t19 {G : MG} {c : MC} {T : Int} (h : TT G c T) : c T 19 = T + 8 := h.2.2.2.2.2.2.2.2.1
theorem TT.t20 {G : MG} {c : MC} {T : Int} (h : TT G c T) : c T 20 = T + 9 := h.2.2.2.2.2.2.2.2.2.1
theorem TT.t21 {G : MG} {c : MC} {T : Int} (h : TT G c T) : c T 21 = T + 10 := h.2.2.2.2.2.2.2.2.2.2.1
theorem TT.t22 {G : MG} {c : MC} {T : Int} (h : TT G c T) : c T 22 = T + 11 := h.2.2.2.2.2.2.2.2.2.2.2.1
theorem TT.t23 {G : MG} {c : MC} {T : Int} (h : TT G c T) : c T 23 = T + 12 := h.2.2.2.2.2.2.2.2.2.2.2.2.1
theorem TT.t24 {G : MG} {c : MC} {T : Int} (h : TT G c T) : c T 24 = T + 13 := h.2.2.2.2.2.2.2.2.2.2.2.2.2.1
theorem TT.u1 {G : MG} {c : MC} {T : Int} (h : TT G c T) : gLn G (T + 1) = 6 := h.2.2.2.2.2.2.2.2.2.2.2.2.2.2.1
theorem TT.u2 {G : MG} {c : MC} {T : Int} (h : TT G c T) : gLn G (T + 2) = 6 := h.2.2.2.2.2.2.2.2.2.2.2.2.2.2.2.1
theorem TT.u3 {G : MG} {c : MC} {T : Int} (h : TT G c T) : gLn G (T + 3) = 6 := h.2.2.2.2.2.2.2.2.2.2.2.2.2.2.2.2.1
theorem TT.u4 {G : MG} {c : MC} {T : Int} (h : TT G c T) : gLn G (T + 4) = 18 := h.2.2.2.2.2.2.2.2.2.2.2.2.2.2.2.2.2.1
theorem TT.u5 {G : MG} {c : MC} {T : Int} (h : TT G c T) : gLn G (T + 5) = 4 := h.2.2.2.2.2.2.2.2.2.2.2.2.2.2.2.2.2.2.1
theorem TT.u6 {G : MG} {c : MC} {T : Int} (h : TT G c T) : gLn G (T + 6) = 4 := h.2.2.2.2.2.2.2.2.2.2.2.2.2.2.2.2.2.2.2.1
theorem TT.u7 {G : MG} {c : MC} {T : Int} (h : TT G c T) : gLn G (T + 7) = 3 := h.2.2.2.2.2.2.2.2.2.2.2.2.2.2.2.2.2.2.2.2.1
theorem TT.u8 {G : MG} {c : MC} {T : Int} (h : TT G c T) : gLn G (T + 8) = 3 := h.2.2.2.2.2.2.2.2.2.2.2.2.2.2.2.2.2.2.2.2.2.1
theorem TT.u9 {G : MG} {c : MC} {T : Int} (h : TT G c T) : gLn G (T + 9) = 5 := h.2.2.2.2.2.2.2.2.2.2.2.2.2.2.2.2.2.2.2.2.2.2.1
theorem TT.u10 {G : MG} {c : MC} {T : Int} (h : TT G c T) : gLn G (T + 10) = 5 := h.2.2.2.2.2.2.2.2.2.2.2.2.2.2.2.2.2.2.2.2.2.2.2.1
theorem TT.u11 {G : MG} {c : MC} {T : Int} (h : TT G c T) : gLn G (T + 11) = 9 := h.2.2.2.2.2.2.2.2.2.2.2.2.2.2.2.2.2.2.2.2.2.2.2.2.1
theorem TT.u12 {G : MG} {c : MC} {T : Int} (h : TT G c T) : gLn G (T + 12) = 9 := h.2.2.2.2.2.2.2.2.2.2.2.2.2.2.2.2.2.2.2.2.2.2.2.2.2.1
theorem TT.u13 {G : MG} {c : MC} {T : Int} (h : TT G c T) : gLn G (T + 13) = 9 := h.2.2.2.2.2.2.2.2.2.2.2.2.2.2.2.2.2.2.2.2.2.2.2.2.2.2
theorem TT.fr {G : MG} {c c' : MC} {T : Int} (h : TT G c T) (f : ∀ j, 10 ≤ j → j ≠ 16 → j ≠ 17 → c' T j = c T j) : TT G c' T := ⟨h.n, (by rw [f 10 (by decide) (by decide) (by decide)]; exact h.t10), (by rw [f 11 (by decide) (by decide) (by decide)]; exact h.t11), (by rw [f 12 (by decide) (by decide) (by decide)]; exact h.t12), (by rw [f 13 (by decide) (by decide) (by decide)]; exact h.t13), (by rw [f 14 (by decide) (by decide) (by decide)]; exact h.t14), (by rw [f 15 (by decide) (by decide) (by decide)]; exact h.t15), (by rw [f 18 (by decide) (by decide) (by decide)]; exact h.t18), (by rw [f 19 (by decide) (by decide) (by decide)]; exact h.t19), (by rw [f 20 (by decide) (by decide) (by decide)]; exact h.t20), (by rw [f 21 (by decide) (by decide) (by decide)]; exact h.t21), (by rw [f 22 (by decide) (by decide) (by decide)]; exact h.t22), (by rw [f 23 (by decide) (by decide) (by decide)]; exact h.t23), (by rw [f 24 (by decide) (by decide) (by decide)]; exact h.t24), h.u1, h.u2, h.u3, h.u4, h.u5, h.u6, h.u7, h.u8, h.u9, h.u10, h.u11, h.u12, h.u13⟩
def RT (R c : MC) (T : Int) : Prop := (c T 0 = R 0 0) ∧ (c T 1 = R 0 1) ∧ (c T 2 = R 0 2) ∧ (c T 3 = R 0 3) ∧ (c T 4 = R 0 4) ∧ (c T 5 = R 6 3) ∧ (c T 6 = R 10 3) ∧ (c T 7 = R 0 5) ∧ (c T 8 = R 14 3) ∧ (c T 9 = R 20 0) ∧ (∀ i, 0 ≤ i → i < R 0 3 → c (T + 1) i = R 1 i) ∧ (∀ i, 0 ≤ i → i < R 0 3 → c (T + 2) i = R 2 i) ∧ (∀ i k, 0 ≤ i → i < R 0 4 → 0 ≤ k → k < R 0 1 → c (T + 4) (6 * i + k) = dg (R 3 i) k) ∧ (∀ i, 0 ≤ i → i < 6 → c (T + 3) i = ptn R 6 i) ∧ (∀ k, 0 ≤ k → k < R 10 3 → c (T + 5) k = R 11 k ∧ c (T + 6) k = R 12 k ∧ R 13 k = 1 - mbt (c T 16) k) ∧ ((0 ≤ c T 16 ∧ c T 16 < 64) ∧ ∀ k, R 10 3 ≤ k → k < 8 → bt (c T 16) k = 0) ∧ (∀ k, 0 ≤ k → k < R 0 5 → c (T + 7) k = R 4 k ∧ c (T + 8) k = R 5 k) ∧ (∀ k, 0 ≤ k → k < R 14 3 → c (T + 9) k = R 15 k ∧ c (T + 10) k = R 16 k ∧ R 17 k = mbt (c T 17) k) ∧ ((0 ≤ c T 17 ∧ c T 17 < 64) ∧ ∀ k, R 14 3 ≤ k → k < 8 → bt (c T 17) k = 0) ∧ (∀ i, 0 ≤ i → i < R 20 0 → Nm (R 21 i) (c (T + 11) i) ∧ (c (T + 12) i = if R 22 i = -1 then 1 else 0) ∧ (R 22 i ≠ -1 → c (T + 13) i = R 22 i))
theorem RT.f0 {R c : MC} {T : Int} (h : RT R c T) : c T 0 = R 0 0 := h.1
theorem RT.f1 {R c : MC} {T : Int} (h : RT R c T) : c T 1 = R 0 1 := h.2.1
theorem RT.f2 {R c : MC} {T : Int} (h : RT R c T) : c T 2 = R 0 2 := h.2.2.1
theorem RT.f3 {R c : MC} {T : Int} (h : RT R c T) : c T 3 = R 0 3 := h.2.2.2.1
theorem RT.f4 {R c : MC} {T : Int} (h : RT R c T) : c T 4 = R 0 4 := h.2.2.2.2.1
theorem RT.f5 {R c : MC} {T : Int} (h : RT R c T) : c T 5 = R 6 3 := h.2.2.2.2.2.1
theorem RT.f6 {R c : MC} {T : Int} (h : RT R c T) : c T 6 = R 10 3 := h.2.2.2.2.2.2.1
theorem RT.f7 {R c : MC} {T : Int} (h : RT R c T) : c T 7 = R 0 5 := h.2.2.2.2.2.2.2.1
theorem RT.f8 {R c : MC} {T : Int} (h : RT R c T) : c T 8 = R 14 3 := h.2.2.2.2.2.2.2.2.1
theorem RT.f9 {R c : MC} {T : Int} (h : RT R c T) : c T 9 = R 20 0 := h.2.2.2.2.2.2.2.2.2.1
theorem RT.co {R c : MC} {T : Int} (h : RT R c T) : ∀ i, 0 ≤ i → i < R 0 3 → c (T + 1) i = R 1 i := h.2.2.2.2.2.2.2.2.2.2.1
theorem RT.ho {R c : MC} {T : Int} (h : RT R c T) : ∀ i, 0 ≤ i → i < R 0 3 → c (T + 2) i = R 2 i := h.2.2.2.2.2.2.2.2.2.2.2.1
theorem RT.tk {R c : MC} {T : Int} (h : RT R c T) : ∀ i k, 0 ≤ i → i < R 0 4 → 0 ≤ k → k < R 0 1 → c (T + 4) (6 * i + k) = dg (R 3 i) k := h.2.2.2.2.2.2.2.2.2.2.2.2.1
theorem RT.fo {R c : MC} {T : Int} (h : RT R c T) : ∀ i, 0 ≤ i → i < 6 → c (T + 3) i = ptn R 6 i := h.2.2.2.2.2.2.2.2.2.2.2.2.2.1
theorem RT.wi {R c : MC} {T : Int} (h : RT R c T) : ∀ k, 0 ≤ k → k < R 10 3 → c (T + 5) k = R 11 k ∧ c (T + 6) k = R 12 k ∧ R 13 k = 1 - mbt (c T 16) k := h.2.2.2.2.2.2.2.2.2.2.2.2.2.2.1
theorem RT.sh {R c : MC} {T : Int} (h : RT R c T) : (0 ≤ c T 16 ∧ c T 16 < 64) ∧ ∀ k, R 10 3 ≤ k → k < 8 → bt (c T 16) k = 0 := h.2.2.2.2.2.2.2.2.2.2.2.2.2.2.2.1
theorem RT.un {R c : MC} {T : Int} (h : RT R c T) : ∀ k, 0 ≤ k → k < R 0 5 → c (T + 7) k = R 4 k ∧ c (T + 8) k = R 5 k := h.2.2.2.2.2.2.2.2.2.2.2.2.2.2.2.2.1
theorem RT.se {R c : MC} {T : Int} (h : RT R c T) : ∀ k, 0 ≤ k → k < R 14 3 → c (T + 9) k = R 15 k ∧ c (T + 10) k = R 16 k ∧ R 17 k = mbt (c T 17) k := h.2.2.2.2.2.2.2.2.2.2.2.2.2.2.2.2.2.1
theorem RT.be {R c : MC} {T : Int} (h : RT R c T) : (0 ≤ c T 17 ∧ c T 17 < 64) ∧ ∀ k, R 14 3 ≤ k → k < 8 → bt (c T 17) k = 0 := h.2.2.2.2.2.2.2.2.2.2.2.2.2.2.2.2.2.2.1
theorem RT.nm {R c : MC} {T : Int} (h : RT R c T) : ∀ i, 0 ≤ i → i < R 20 0 → Nm (R 21 i) (c (T + 11) i) ∧ (c (T + 12) i = if R 22 i = -1 then 1 else 0) ∧ (R 22 i ≠ -1 → c (T + 13) i = R 22 i) := h.2.2.2.2.2.2.2.2.2.2.2.2.2.2.2.2.2.2.2
theorem RT.fr {R c c' : MC} {T : Int} (h : RT R c T) (f : ∀ a j, T ≤ a → a ≤ T + 13 → c' a j = c a j) : RT R c' T := by
  have e0 : ∀ j, c' T j = c T j := fun j => f T j (by omega) (by omega)
  have e1 : ∀ k j, 0 ≤ k → k ≤ 13 → c' (T + k) j = c (T + k) j := fun k j a b => f (T + k) j (by omega) (by omega)
  unfold RT
  simp only [e0, e1 1 _ (by decide) (by decide), e1 2 _ (by decide) (by decide), e1 3 _ (by decide) (by decide), e1 4 _ (by decide) (by decide), e1 5 _ (by decide) (by decide), e1 6 _ (by decide) (by decide), e1 7 _ (by decide) (by decide), e1 8 _ (by decide) (by decide), e1 9 _ (by decide) (by decide), e1 10 _ (by decide) (by decide), e1 11 _ (by decide) (by decide), e1 12 _ (by decide) (by decide), e1 13 _ (by decide) (by decide)]
  exact h
def Fm (c0 c : MC) (T : Int) : Prop := ∀ a j, ¬ (a = 62 ∧ 8 ≤ j ∧ j ≤ 15) → ¬ (T ≤ a ∧ a ≤ T + 13) → c a j = c0 a j
def MX (G : MG) (c0 c : MC) (T : Int) (tx : Int → Int) (e : Int) : Prop := MT G c tx e ∧ TT G c T ∧ c 62 4 = T ∧ Fm c0 c T
def MS (G : MG) (c0 c : MC) (T : Int) (tx : Int → Int) (e p : Int) (R : MC) : Prop := MX G c0 c T tx e ∧ TN c tx e p ∧ c 62 12 = 0 ∧ RT R c T
def MO (G : MG) (c0 c : MC) (T : Int) (tx : Int → Int) (e f pl : Int) : Prop := MX G c0 c T tx e ∧ c 62 9 = 5 ∧ c 62 12 = f ∧ c 62 13 = pl ∧ (0 ≤ c T 9 ∧ c T 9 ≤ 9)
def ME (G : MG) (c0 : MC) (T : Int) (tx : Int → Int) (e : Int) (r : PR) (c : MC) : Prop := match r with
  | Sum.inl (f, pl) => MO G c0 c T tx e f pl
  | Sum.inr (p, R) => MS G c0 c T tx e p R
theorem sg_5 {k : Int} : sg k ≠ 5 := by
  unfold sg
  repeat' split
  all_goals omega
theorem sg_k {k : Int} (h : 0 ≤ k ∧ k ≤ 4) : (sg k = 2 ↔ k = 1) ∧ (sg k = 3 ↔ k = 2) ∧ (sg k = 4 ↔ k = 3) ∧ (sg k = 1 ↔ k = 0) := by
  unfold sg
  repeat' split
  all_goals omega
theorem kd_rg {tx : Int → Int} {e p : Int} : 0 ≤ kd tx e p ∧ kd tx e p ≤ 4 := by
  unfold kd
  repeat' split
  all_goals omega
theorem fi_cg {β : Type} {q q' : Int → Bool} {r : Int → β} {x : β} : ∀ (j : Nat) (i : Int), (∀ k, i ≤ k → k < i + j → q k = q' k) → fi q r x j i = fi q' r x j i := by
  intro j
  induction j with
  | zero => intro i _; rfl
  | succ j ih =>
    intro i h
    simp only [fi]
    rw [h i (by omega) (by omega), ih (i + 1) (fun k a b => h k (by omega) (by omega))]
section
variable {G : MG} {c0 c c' R : MC} {T e p f pl : Int} {tx : Int → Int}
theorem MX.f8 (h : MX G c0 c T tx e) (f : F8 c c') : MX G c0 c' T tx e := by
  have hT := h.2.1.n
  exact ⟨f.mt h.1, h.2.1.fr (fun j _ _ _ => f T j (by omega)), by rw [f 62 4 (by omega)]; exact h.2.2.1, fun a j x y => by rw [f a j (by omega)]; exact h.2.2.2 a j x y⟩
theorem MS.f8 (h : MS G c0 c T tx e p R) (f : F8 c c') {q : Int} (t : TN c' tx e q) : MS G c0 c' T tx e q R := by
  have hT := h.1.2.1.n
  exact ⟨h.1.f8 f, t, by rw [f 62 12 (by omega)]; exact h.2.2.1, h.2.2.2.fr (fun a j x y => f a j (by omega))⟩
theorem MX.u15 (h : MX G c0 c T tx e) {v : Int} : MX G c0 (up c 62 15 v) T tx e := by
  have hT := h.2.1.n
  exact ⟨h.1.kp (fun a j k => up_o (by omega)), h.2.1.fr (fun j _ _ _ => up_na (by omega)), by rw [up_nj (by decide)]; exact h.2.2.1, fun a j x y => by rw [up_o (by omega)]; exact h.2.2.2 a j x y⟩
theorem MS.u15 (h : MS G c0 c T tx e p R) {v : Int} : MS G c0 (up c 62 15 v) T tx e p R := by
  have hT := h.1.2.1.n
  exact ⟨h.1.u15, ⟨by rw [up_nj (by decide)]; exact h.2.1.1, by rw [up_nj (by decide)]; exact h.2.1.2.1, by rw [up_nj (by decide)]; exact h.2.1.2.2.1, by rw [up_nj (by decide)]; exact h.2.1.2.2.2.1, by rw [up_nj (by decide)]; exact h.2.1.2.2.2.2.1, h.2.1.2.2.2.2.2⟩, by rw [up_nj (by decide)]; exact h.2.2.1, h.2.2.2.fr (fun a j x y => up_na (by omega))⟩
theorem MO.u15 (h : MO G c0 c T tx e f pl) {v : Int} : MO G c0 (up c 62 15 v) T tx e f pl := by
  have hT := h.1.2.1.n
  exact ⟨h.1.u15, by rw [up_nj (by decide)]; exact h.2.1, by rw [up_nj (by decide)]; exact h.2.2.1, by rw [up_nj (by decide)]; exact h.2.2.2.1, by rw [up_na (by omega)]; exact h.2.2.2.2⟩
theorem MS.so (h : MS G c0 c T tx e p R) : c 62 9 = sg (kd tx e p) := h.2.1.2.1
theorem MS.n5 (h : MS G c0 c T tx e p R) : c 62 9 ≠ 5 := by rw [h.so]; exact sg_5
end
section
variable (d : Nat) (P : Int → MM → Prop) (P0 : MM → Prop) {G : MG} {c0 c R : MC} {T e p f pl : Int} {tx : Int → Int}
theorem o_goes (M : MO G c0 c T tx e f pl) : EvV (d + 1) mX12_goesOn [mR 18 62] (G, c) P0 = P0 (G, c) := evV_eq (ev_X12_goesOn d _ G c 62 (by decide) ⟨by decide, by rw [if_pos M.2.1]⟩) P0
theorem o_flaw (M : MO G c0 c T tx e f pl) (k : Int) : EvV (d + 1) mX12_flaw [mR 18 62, mI k] (G, c) P0 = P0 (G, c) := evV_eq (ev_X12_flaw d _ G c 62 k (by decide) ⟨by decide, by rw [if_pos M.2.1]⟩) P0
theorem o_isWord (M : MO G c0 c T tx e f pl) (a : Int) : EvI (d + 1) mX12_isWord [mR 18 62, mR 2 a] (G, c) P = P 0 (G, c) := evI_eq (ev_X12_isWord d _ G c 62 a (by decide) ⟨by decide, by rw [M.2.1, if_neg (by decide)]; exact ⟨⟨by decide, by decide⟩, rfl, rfl⟩⟩) P
theorem o_isName (M : MO G c0 c T tx e f pl) : EvI (d + 1) mX12_isName [mR 18 62] (G, c) P = P 0 (G, c) := evI_eq (ev_X12_isName d _ G c 62 (by decide) ⟨by decide, by rw [M.2.1, if_neg (by decide)]; exact ⟨⟨by decide, by decide⟩, rfl, rfl⟩⟩) P
theorem l_find (M : MX G c0 c T tx e) (h9 : 0 ≤ c T 9 ∧ c T 9 ≤ 9) (y v : Int) (hP : P v (G, c)) : ∀ (j : Nat) (i : Int), 0 ≤ i → i + j = c T 9 → fi (fun i => decide (c (T + 11) i = y)) (fun i => i) (-1) j i = v → At (d + 1) mX11_find 2 [mR 17 T, mL y, MU, mI i] [] (G, c) (QI P) := by
  have hT := M.2.1.n
  intro j
  induction j with
  | zero =>
    intro i i0 hi hv
    simp only [fi] at hv
    apply wp_X11_find_2
    rw [if_neg (by omega)]
    subst hv
    exact ⟨by omega, hP⟩
  | succ j ih =>
    intro i i0 hi hv
    simp only [fi, decide_eq_true_eq] at hv
    apply wp_X11_find_2
    simp only [M.2.1.t22, M.2.1.u11, w32i (show -2147483648 ≤ i + 1 by omega) (show i + 1 < 2147483648 by omega)]
    rw [if_pos (by omega)]
    refine ⟨by omega, by omega, ⟨by omega, i0, by omega⟩, ?_⟩
    by_cases h : c (T + 11) i = y
    · rw [if_pos h] at hv
      rw [if_pos (lcmp_eq.2 h)]
      subst hv
      exact hP
    · rw [if_neg h] at hv
      rw [if_neg (fun k => h (lcmp_eq.1 k))]
      exact ih _ (by omega) (by omega) hv
theorem q_find (M : MX G c0 c T tx e) (h9 : 0 ≤ c T 9 ∧ c T 9 ≤ 9) (y : Int) : EvI (d + 1) mX11_find [mR 17 T, mL y] (G, c) P = P (fi (fun i => decide (c (T + 11) i = y)) (fun i => i) (-1) (c T 9).toNat 0) (G, c) :=
  evI_eq (ev_X11_find d _ G c T y (by have := M.2.1.n; omega) (l_find d _ M h9 y _ ⟨rfl, rfl⟩ (c T 9).toNat 0 (by decide) (by omega) rfl)) P
theorem q_mfind (M : MS G c0 c T tx e p R) (W : WF R) (hk : kd tx e p = 1) : EvI (d + 1) mX11_find [mR 17 T, mL (c 62 14)] (G, c) P = P (nmI R (va tx e p)) (G, c) := by
  have hn := W.n; have hp := W.p; have ht := W.t
  have f9 := M.2.2.2.f9
  rw [q_find d P M.1 (by omega)]
  have e1 : fi (fun i => decide (c (T + 11) i = c 62 14)) (fun i => i) (-1) (c T 9).toNat 0 = nmI R (va tx e p) := by
    unfold nmI
    rw [f9]
    apply fi_cg
    intro k k0 k1
    have := (M.2.2.2.nm k k0 (by omega)).1
    have h2 := this.iff (va_nm hk)
    rw [M.2.1.2.2.2.1 hk]
    simp only [decide_eq_decide]
    exact h2.symm
  rw [e1]
theorem m_goes (M : MS G c0 c T tx e p R) (hP : ∀ c', MS G c0 c' T tx e (nx tx e p) R → P0 (G, c')) : EvV (d + 2) mX12_goesOn [mR 18 62] (G, c) P0 := by
  have hp := M.2.1.2.2.2.2.2
  have he := en_rg (tx := tx) hp.2
  exact f_goes d P0 M.1.1 (en tx e p) (by omega) he.2 M.2.1.1 M.n5 (fun c' f t => hP c' (M.f8 f t))
theorem m_flaw (M : MS G c0 c T tx e p R) (W : WF R) (f : Int) (hP : ∀ c', MO G c0 c' T tx e f p → P0 (G, c')) : EvV (d + 1) mX12_flaw [mR 18 62, mI f] (G, c) P0 := by
  have hT := M.1.2.1.n
  have hn := W.n; have hp := W.p; have ht := W.t
  refine ev_X12_flaw d _ G c 62 f (by decide) ⟨by decide, ?_⟩
  rw [if_neg M.n5]
  refine ⟨by decide, ?_⟩
  rintro _ rfl
  refine ⟨by decide, by decide, ?_⟩
  rintro _ rfl
  refine ⟨by decide, ?_⟩
  rintro _ rfl
  apply hP
  refine ⟨⟨M.1.1.kp (fun a j k => by rw [up_o (by omega), up_o (by omega), up_o (by omega)]), M.1.2.1.fr (fun j _ _ _ => by rw [up_na (by omega), up_na (by omega), up_na (by omega)]), by rw [up_nj (by decide), up_nj (by decide), up_nj (by decide)]; exact M.1.2.2.1, fun a j x y => by rw [up_o (by omega), up_o (by omega), up_o (by omega)]; exact M.1.2.2.2 a j x y⟩, up_eq, by rw [up_nj (by decide), up_nj (by decide), up_eq], by rw [up_nj (by decide), up_eq, up_nj (by decide)]; exact M.2.1.2.2.1, ?_⟩
  rw [up_na (by omega), up_na (by omega), up_na (by omega), M.2.2.2.f9]
  omega
theorem q_mw (M : MS G c0 c T tx e p R) {a : Int} (a0 : 0 ≤ a) (a1 : a < 17) : EvI (d + 2) mX12_isWord [mR 18 62, mR 2 a] (G, c) P = P (if isw tx e a p then 1 else 0) (G, c) := by
  refine evI_eq (ev_X12_isWord (d + 1) _ G c 62 a (by decide) ⟨by decide, ?_⟩) P
  rw [M.so]
  by_cases hk : kd tx e p = 1
  · rw [if_pos ((sg_k kd_rg).1.2 hk), q_packed d _ a0 a1, M.2.1.2.2.2.1 hk]
    refine ⟨by decide, ?_⟩
    have h2 := (va_nm hk).iff (wd_all a0 a1).2.2.1
    by_cases h : va tx e p = wd27 a
    · rw [if_pos (lcmp_eq.2 (h2.1 h)), if_pos ⟨hk, h⟩]
      exact ⟨⟨by decide, by decide⟩, rfl, rfl⟩
    · rw [if_neg (fun k => h (h2.2 (lcmp_eq.1 k))), if_neg (fun k => h k.2)]
      exact ⟨⟨by decide, by decide⟩, rfl, rfl⟩
  · rw [if_neg (fun h => hk ((sg_k kd_rg).1.1 h)), if_neg (fun k => hk k.1)]
    exact ⟨⟨by decide, by decide⟩, rfl, rfl⟩
theorem q_mname (M : MS G c0 c T tx e p R) : EvI (d + 3) mX12_isName [mR 18 62] (G, c) P = P (if isn tx e p then 1 else 0) (G, c) := by
  refine evI_eq (ev_X12_isName (d + 2) _ G c 62 (by decide) ⟨by decide, ?_⟩) P
  rw [M.so]
  by_cases hk : kd tx e p = 1
  · rw [if_pos ((sg_k kd_rg).1.2 hk)]
    simp only [q_mw d _ M (show (0 : Int) ≤ 0 by decide) (show (0 : Int) < 17 by decide), q_mw d _ M (show (0 : Int) ≤ 1 by decide) (show (1 : Int) < 17 by decide), q_mw d _ M (show (0 : Int) ≤ 2 by decide) (show (2 : Int) < 17 by decide), q_mw d _ M (show (0 : Int) ≤ 3 by decide) (show (3 : Int) < 17 by decide), q_mw d _ M (show (0 : Int) ≤ 4 by decide) (show (4 : Int) < 17 by decide), q_mw d _ M (show (0 : Int) ≤ 5 by decide) (show (5 : Int) < 17 by decide), q_mw d _ M (show (0 : Int) ≤ 6 by decide) (show (6 : Int) < 17 by decide), q_mw d _ M (show (0 : Int) ≤ 7 by decide) (show (7 : Int) < 17 by decide)]
    unfold isn isw lnK
    simp only [hk, true_and]
    repeat' split
    all_goals first | (exact ⟨⟨by decide, by decide⟩, by first | rfl | trivial, by first | rfl | trivial⟩) | omega | simp_all
  · rw [if_neg (fun h => hk ((sg_k kd_rg).1.1 h)), if_neg (fun k => hk k.1)]
    exact ⟨⟨by decide, by decide⟩, rfl, rfl⟩
theorem o_whole (M : MO G c0 c T tx e f pl) (lo hi : Int) : EvI (d + 2) mX12_wholeAt [mR 18 62, mI lo, mI hi] (G, c) P = P lo (G, c) := by
  refine evI_eq (ev_X12_wholeAt (d + 1) _ G c 62 lo hi (by decide) ⟨by decide, ?_⟩) P
  rw [M.2.1, if_neg (by decide), o_flaw _ _ M]
  dsimp only
  rw [if_pos M.2.1]
  exact ⟨by decide, rfl, rfl⟩
theorem m_whole (M : MS G c0 c T tx e p R) (W : WF R) (lo hi : Int) (h1 : btw tx e p lo hi = 0 → P (va tx e p) (G, c)) (h0 : btw tx e p lo hi ≠ 0 → ∀ c', MO G c0 c' T tx e (btw tx e p lo hi) p → P lo (G, c')) : EvI (d + 2) mX12_wholeAt [mR 18 62, mI lo, mI hi] (G, c) P := by
  refine ev_X12_wholeAt (d + 1) _ G c 62 lo hi (by decide) ⟨by decide, ?_⟩
  rw [M.so]
  by_cases hk : kd tx e p = 2
  · rw [if_pos ((sg_k kd_rg).2.1.2 hk), q_min, M.2.1.2.2.2.2.1 hk]
    refine ⟨by decide, ?_⟩
    by_cases h : lo ≤ va tx e p ∧ va tx e p ≤ hi
    · have e0 : btw tx e p lo hi = 0 := by unfold btw; rw [if_pos hk, if_pos h]
      rw [if_pos h, if_neg (by decide)]
      dsimp only
      rw [if_neg M.n5, M.2.1.2.2.2.2.1 hk]
      exact ⟨by decide, by decide, h1 e0⟩
    · have e4 : btw tx e p lo hi = 4 := by unfold btw; rw [if_pos hk, if_neg h]
      rw [e4] at h0
      rw [if_neg h, if_pos rfl]
      refine m_flaw d _ M W 4 (fun c' M' => ⟨by decide, ?_⟩)
      dsimp only
      rw [if_pos M'.2.1]
      exact h0 (by decide) c' M'
  · have e4 : btw tx e p lo hi = 1 := by unfold btw; rw [if_neg hk]
    rw [e4] at h0
    rw [if_neg (fun h => hk ((sg_k kd_rg).2.1.1 h))]
    refine m_flaw d _ M W 1 (fun c' M' => ⟨by decide, ?_⟩)
    dsimp only
    rw [if_pos M'.2.1]
    exact h0 (by decide) c' M'
theorem o_needs (M : MO G c0 c T tx e f pl) (a : Int) : EvV (d + 2) mX12_needs [mR 18 62, mR 2 a] (G, c) P0 = P0 (G, c) := by
  refine evV_eq (ev_X12_needs (d + 1) _ G c 62 a (by decide) ?_) P0
  rw [o_isWord _ _ M, if_pos rfl]
  dsimp only
  rw [o_flaw _ _ M]
  dsimp only
  rw [o_goes _ _ M]
theorem m_needs (M : MS G c0 c T tx e p R) (W : WF R) {a : Int} (a0 : 0 ≤ a) (a1 : a < 17) (h1 : isw tx e a p → ∀ c', MS G c0 c' T tx e (nx tx e p) R → P0 (G, c')) (h0 : ¬ isw tx e a p → ∀ c', MO G c0 c' T tx e 1 p → P0 (G, c')) : EvV (d + 3) mX12_needs [mR 18 62, mR 2 a] (G, c) P0 := by
  refine ev_X12_needs (d + 2) _ G c 62 a (by decide) ?_
  rw [q_mw d _ M a0 a1]
  by_cases h : isw tx e a p
  · simp only [if_pos h]
    rw [if_neg (by decide)]
    exact m_goes d _ M (fun c' M' => h1 h c' M')
  · simp only [if_neg h, ↓reduceIte]
    refine m_flaw (d + 1) _ M W 1 (fun c' M' => ?_)
    dsimp only
    rw [o_goes _ _ M']
    exact h0 h c' M'
theorem o_part (M : MO G c0 c T tx e f pl) (a lo hi : Int) : EvI (d + 3) mX12_readPart [mR 18 62, mR 2 a, mI lo, mI hi] (G, c) P = P lo (G, c) := by
  refine evI_eq (ev_X12_readPart (d + 2) _ G c 62 a lo hi (by decide) ?_) P
  rw [o_needs _ _ M]
  dsimp only
  rw [o_whole _ _ M]
  dsimp only
  rw [o_goes _ _ M]
  exact ⟨rfl, rfl⟩
theorem m_part (M : MS G c0 c T tx e p R) (W : WF R) {a lo hi : Int} (a0 : 0 ≤ a) (a1 : a < 17) (h1 : isw tx e a p → btw tx e (nx tx e p) lo hi = 0 → ∀ c', MS G c0 c' T tx e (nx tx e (nx tx e p)) R → P (va tx e (nx tx e p)) (G, c')) (h2 : isw tx e a p → btw tx e (nx tx e p) lo hi ≠ 0 → ∀ c', MO G c0 c' T tx e (btw tx e (nx tx e p) lo hi) (nx tx e p) → P lo (G, c')) (h0 : ¬ isw tx e a p → ∀ c', MO G c0 c' T tx e 1 p → P lo (G, c')) : EvI (d + 4) mX12_readPart [mR 18 62, mR 2 a, mI lo, mI hi] (G, c) P := by
  refine ev_X12_readPart (d + 3) _ G c 62 a lo hi (by decide) ?_
  refine m_needs d _ M W a0 a1 (fun h c1 M1 => ?_) (fun h c1 M1 => ?_)
  · refine m_whole (d + 1) _ M1 W lo hi (fun hb => ?_) (fun hb c2 M2 => ?_)
    · exact m_goes (d + 1) _ M1 (fun c2 M2 => h1 h hb c2 M2)
    · dsimp only
      rw [o_goes _ _ M2]
      exact h2 h hb c2 M2
  · dsimp only
    rw [o_whole _ _ M1]
    dsimp only
    rw [o_goes _ _ M1]
    exact h0 h c1 M1
theorem o_begins (M : MO G c0 c T tx e f pl) (a b : Int) : EvV (d + 2) mX12_lineBegins [mR 18 62, mI a, mI b] (G, c) P0 = P0 (G, c) := by
  have hT := M.1.2.1.n
  refine evV_eq (ev_X12_lineBegins (d + 1) _ G c 62 a b (by decide) ?_) P0
  simp only [o_flaw _ _ M, o_goes _ _ M, M.1.2.2.1]
  repeat' split
  all_goals exact ⟨by decide, by omega, by first | rfl | trivial⟩
/-- the word that begins a line, of another sort than tube -/
theorem m_begins (M : MS G c0 c T tx e p R) (W : WF R) (a b : Int) (hab : R 0 1 = 0 → a ≠ b) (h6 : R 0 1 = 0 → ∀ c', MO G c0 c' T tx e 6 p → P0 (G, c')) (h5 : R 0 1 ≠ 0 → a = b → ∀ c', MO G c0 c' T tx e 5 p → P0 (G, c')) (h1 : R 0 1 ≠ 0 → a ≠ b → ∀ c', MS G c0 c' T tx e (nx tx e p) R → P0 (G, c')) : EvV (d + 3) mX12_lineBegins [mR 18 62, mI a, mI b] (G, c) P0 := by
  have hT := M.1.2.1.n
  have wa := W.a
  have hm : c T 0 = 0 ↔ R 0 1 = 0 := by rw [M.2.2.2.f0]; omega
  refine ev_X12_lineBegins (d + 2) _ G c 62 a b (by decide) ?_
  by_cases h : a = b
  · rw [if_pos h]
    have hs : R 0 1 ≠ 0 := fun k => hab k h
    refine m_flaw (d + 1) _ M W 5 (fun c' M' => ?_)
    dsimp only
    simp only [o_flaw _ _ M', o_goes _ _ M', M'.1.2.2.1]
    refine ⟨by decide, by omega, ?_⟩
    split
    · exact h5 hs h c' M'
    · exact h5 hs h c' M'
  · rw [if_neg h, M.1.2.2.1]
    refine ⟨by decide, by omega, ?_⟩
    by_cases hs : R 0 1 = 0
    · rw [if_pos (hm.2 hs)]
      refine m_flaw (d + 1) _ M W 6 (fun c' M' => ?_)
      dsimp only
      rw [o_goes _ _ M']
      exact h6 hs c' M'
    · rw [if_neg (fun k => hs (hm.1 k))]
      exact m_goes d _ M (fun c' M' => h1 hs h c' M')
theorem o_fresh (M : MO G c0 c T tx e f pl) (hP : ∀ v, P v (G, c)) : EvL (d + 2) mX12_readFresh [mR 18 62] (G, c) P := by
  refine ev_X12_readFresh (d + 1) _ G c 62 (by decide) ?_
  rw [o_isName _ _ M, if_pos rfl]
  dsimp only
  rw [o_flaw _ _ M]
  dsimp only
  rw [M.1.2.2.1, q_find _ _ M.1 M.2.2.2.2]
  refine ⟨by decide, by decide, ?_⟩
  split
  · refine ⟨by decide, ?_⟩
    dsimp only
    rw [o_goes _ _ M]
    exact hP _
  · dsimp only
    rw [o_flaw _ _ M]
    refine ⟨by decide, ?_⟩
    dsimp only
    rw [o_goes _ _ M]
    exact hP _
theorem m_fresh (M : MS G c0 c T tx e p R) (W : WF R) (h1 : nnF tx e p R = 0 → ∀ c', MS G c0 c' T tx e (nx tx e p) R → P (v32 tx e p) (G, c')) (h0 : nnF tx e p R ≠ 0 → ∀ c' v, MO G c0 c' T tx e (nnF tx e p R) p → P v (G, c')) : EvL (d + 4) mX12_readFresh [mR 18 62] (G, c) P := by
  refine ev_X12_readFresh (d + 3) _ G c 62 (by decide) ?_
  rw [q_mname d _ M]
  by_cases hi : isn tx e p
  · simp only [if_pos hi]
    rw [if_neg (by decide)]
    rw [M.1.2.2.1, q_mfind _ _ M W hi.1]
    refine ⟨by decide, by decide, ?_⟩
    by_cases hm : nmI R (va tx e p) = -1
    · have e0 : nnF tx e p R = 0 := by unfold nnF; rw [if_pos hi, if_pos hm]
      rw [if_pos hm]
      refine ⟨by decide, ?_⟩
      dsimp only
      rw [M.2.1.2.2.2.1 hi.1]
      exact m_goes (d + 1) _ M (fun c' M' => h1 e0 c' M')
    · have e3 : nnF tx e p R = 3 := by unfold nnF; rw [if_pos hi, if_neg hm]
      rw [e3] at h0
      rw [if_neg hm]
      refine m_flaw (d + 2) _ M W 3 (fun c' M' => ⟨by decide, ?_⟩)
      dsimp only
      rw [o_goes _ _ M']
      exact h0 (by decide) c' _ M'
  · have e1 : nnF tx e p R = 1 := by unfold nnF; rw [if_neg hi]
    rw [e1] at h0
    simp only [if_neg hi, ↓reduceIte]
    refine m_flaw (d + 2) _ M W 1 (fun c' M' => ?_)
    dsimp only
    rw [M'.1.2.2.1, q_find _ _ M'.1 M'.2.2.2.2]
    refine ⟨by decide, by decide, ?_⟩
    split
    · refine ⟨by decide, ?_⟩
      dsimp only
      rw [o_goes _ _ M']
      exact h0 (by decide) c' _ M'
    · dsimp only
      rw [o_flaw _ _ M']
      refine ⟨by decide, ?_⟩
      dsimp only
      rw [o_goes _ _ M']
      exact h0 (by decide) c' _ M'
theorem fi_lt {q : Int → Bool} (n : Int) (h : fi q (fun i => i) (-1) n.toNat 0 ≠ -1) : 0 ≤ fi q (fun i => i) (-1) n.toNat 0 ∧ (0 ≤ n → fi q (fun i => i) (-1) n.toNat 0 < n) := by
  rcases fi_all (q := q) n.toNat 0 with k | k
  · exact absurd k h
  · exact ⟨by omega, fun _ => by omega⟩
theorem l_po12 (M : MO G c0 c T tx e f pl) (hP : P 0 (G, c)) : At (d + 2) mX12_personAtHand 12 [mR 18 62, MU] [] (G, c) (QI P) := by
  have hT := M.1.2.1.n
  apply wp_X12_personAtHand_12
  rw [M.1.2.2.1, q_find _ _ M.1 M.2.2.2.2]
  refine ⟨by decide, by decide, ?_⟩
  by_cases h : fi (fun i => decide (c (T + 11) i = c 62 14)) (fun i => i) (-1) (c T 9).toNat 0 = -1
  · rw [if_pos h, o_flaw _ _ M]
    dsimp only
    rw [if_pos M.2.1]
    exact ⟨by decide, hP⟩
  · have hh := fi_lt _ h
    have h9 := M.2.2.2.2
    rw [if_neg h]
    dsimp only
    simp only [M.1.2.2.1, M.1.2.1.t23, M.1.2.1.u12, o_flaw _ _ M, M.2.1, ↓reduceIte]
    refine ⟨by decide, by omega, ⟨by omega, hh.1, by omega⟩, ?_⟩
    split
    · exact ⟨by decide, hP⟩
    · exact ⟨by decide, hP⟩
theorem o_person (M : MO G c0 c T tx e f pl) (hP : P 0 (G, c)) : EvI (d + 2) mX12_personAtHand [mR 18 62] (G, c) P := by
  refine ev_X12_personAtHand (d + 1) _ G c 62 (by decide) ?_
  rw [o_isName _ _ M, if_pos rfl]
  dsimp only
  rw [o_flaw _ _ M]
  exact l_po12 d P M hP
theorem m_person (M : MS G c0 c T tx e p R) (W : WF R) (h1 : pqF tx e p R = 0 → P (pxF tx e p R) (G, c)) (h0 : pqF tx e p R ≠ 0 → ∀ c', MO G c0 c' T tx e (pqF tx e p R) p → P 0 (G, c')) : EvI (d + 4) mX12_personAtHand [mR 18 62] (G, c) P := by
  have hT := M.1.2.1.n
  have hn := W.n; have hp := W.p; have ht := W.t
  refine ev_X12_personAtHand (d + 3) _ G c 62 (by decide) ?_
  rw [q_mname d _ M]
  by_cases hi : isn tx e p
  · simp only [if_pos hi]
    rw [if_neg (by decide)]
    apply wp_X12_personAtHand_12
    rw [M.1.2.2.1, q_mfind _ _ M W hi.1]
    refine ⟨by decide, by decide, ?_⟩
    by_cases hm : nmI R (va tx e p) = -1
    · have e2 : pqF tx e p R = 2 := by unfold pqF; rw [if_pos hi, if_pos hm]
      rw [e2] at h0
      rw [if_pos hm]
      refine m_flaw (d + 2) _ M W 2 (fun c' M' => ⟨by decide, ?_⟩)
      dsimp only
      rw [if_pos M'.2.1]
      exact h0 (by decide) c' M'
    · obtain ⟨n0, n1, n2⟩ := nmI_rg (by omega) _ hm
      have hx := M.2.2.2.nm _ n0 n1
      rw [if_neg hm]
      dsimp only
      simp only [M.1.2.2.1, M.1.2.1.t23, M.1.2.1.u12, hx.2.1]
      refine ⟨by decide, by omega, ⟨by omega, n0, by omega⟩, ?_⟩
      by_cases hh : R 22 (nmI R (va tx e p)) = -1
      · have e2 : pqF tx e p R = 2 := by unfold pqF; rw [if_pos hi, if_neg hm, if_pos hh]
        rw [e2] at h0
        simp only [if_pos hh]
        rw [if_neg (by decide)]
        refine m_flaw (d + 2) _ M W 2 (fun c' M' => ⟨by decide, ?_⟩)
        dsimp only
        rw [if_pos M'.2.1]
        exact h0 (by decide) c' M'
      · have e2 : pqF tx e p R = 0 := by unfold pqF; rw [if_pos hi, if_neg hm, if_neg hh]
        simp only [if_neg hh, ↓reduceIte, M.n5, M.1.2.1.t24, M.1.2.1.u13, hx.2.2 hh]
        exact ⟨by decide, by decide, by omega, ⟨by omega, n0, by omega⟩, h1 e2⟩
  · have e1 : pqF tx e p R = 1 := by unfold pqF; rw [if_neg hi]
    rw [e1] at h0
    simp only [if_neg hi, ↓reduceIte]
    refine m_flaw (d + 2) _ M W 1 (fun c' M' => ?_)
    exact l_po12 (d + 2) P M' (h0 (by decide) c' M')
theorem o_two (M : MO G c0 c T tx e f pl) (hP : ∀ c', MO G c0 c' T tx e f pl → P 0 (G, c')) : EvI (d + 3) mX12_readTwo [mR 18 62] (G, c) P := by
  refine ev_X12_readTwo (d + 2) _ G c 62 (by decide) ?_
  refine o_person d _ M ?_
  dsimp only
  rw [o_goes _ _ M]
  refine o_person d _ M ?_
  dsimp only
  refine ⟨by decide, ?_⟩
  rintro _ rfl
  rw [up_nj (by decide), M.2.1, if_pos rfl]
  exact ⟨by decide, hP _ M.u15⟩
/-- two, the other one put by -/
theorem m_two (M : MS G c0 c T tx e p R) (W : WF R) (h1 : pqF tx e p R = 0 → pqF tx e (nx tx e p) R = 0 → pxF tx e (nx tx e p) R ≠ pxF tx e p R → ∀ c', MS G c0 c' T tx e (nx tx e p) R → c' 62 15 = pxF tx e (nx tx e p) R → P (pxF tx e p R) (G, c')) (h3 : pqF tx e p R = 0 → pqF tx e (nx tx e p) R = 0 → pxF tx e (nx tx e p) R = pxF tx e p R → ∀ c' v, (0 ≤ v ∧ v < 6) → MO G c0 c' T tx e 3 (nx tx e p) → P v (G, c')) (h2 : pqF tx e p R = 0 → pqF tx e (nx tx e p) R ≠ 0 → ∀ c' v, (0 ≤ v ∧ v < 6) → MO G c0 c' T tx e (pqF tx e (nx tx e p) R) (nx tx e p) → P v (G, c')) (h0 : pqF tx e p R ≠ 0 → ∀ c' v, (0 ≤ v ∧ v < 6) → MO G c0 c' T tx e (pqF tx e p R) p → P v (G, c')) : EvI (d + 5) mX12_readTwo [mR 18 62] (G, c) P := by
  have hp := W.p
  refine ev_X12_readTwo (d + 4) _ G c 62 (by decide) ?_
  refine m_person d _ M W (fun q1 => ?_) (fun q1 c1 M1 => ?_)
  · have r1 := (px_rg W q1).1
    refine m_goes (d + 2) _ M (fun c1 M1 => ?_)
    refine m_person d _ M1 W (fun q2 => ?_) (fun q2 c2 M2 => ?_)
    · refine ⟨by decide, ?_⟩
      rintro _ rfl
      have M2 := M1.u15 (v := pxF tx e (nx tx e p) R)
      refine ⟨by decide, ?_⟩
      rw [if_neg M2.n5, up_eq]
      refine ⟨by decide, ?_⟩
      by_cases h : pxF tx e (nx tx e p) R = pxF tx e p R
      · rw [if_pos h.symm]
        exact m_flaw (d + 3) _ M2 W 3 (fun c' M' => h3 q1 q2 h c' _ (by omega) M')
      · rw [if_neg (fun k => h k.symm)]
        exact h1 q1 q2 h _ M2 up_eq
    · refine ⟨by decide, ?_⟩
      rintro _ rfl
      refine ⟨by decide, ?_⟩
      dsimp only
      rw [if_pos M2.u15.2.1]
      exact h2 q1 q2 _ _ (by omega) M2.u15
  · dsimp only
    rw [o_goes _ _ M1]
    refine o_person (d + 2) _ M1 ?_
    refine ⟨by decide, ?_⟩
    rintro _ rfl
    refine ⟨by decide, ?_⟩
    dsimp only
    rw [if_pos M1.u15.2.1]
    exact h0 q1 _ _ (by decide) M1.u15
end
