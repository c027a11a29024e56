/-! the reference's tube, up to what it has read -/
section
variable {R : MC} {tx : Int → Int} {e p : Int}
theorem btw_nn {lo hi : Int} : 0 ≤ btw tx e p lo hi := by
  unfold btw
  repeat' split
  all_goals omega
theorem nnF_nn : 0 ≤ nnF tx e p R := by
  unfold nnF
  repeat' split
  all_goals omega
theorem pqF_nn : 0 ≤ pqF tx e p R := by
  unfold pqF
  repeat' split
  all_goals omega
theorem sls_nn {n : Int} : ∀ (j : Nat) (k p ch us : Int) (f pl : Int), slsF tx e n R j p k ch us = Sum.inl (f, pl) → 0 ≤ f := by
  intro j
  induction j with
  | zero => intro k p ch us f pl h; simp only [slsF] at h; cases h
  | succ j ih =>
    intro k p ch us f pl h
    simp only [slsF] at h
    split at h
    · split at h
      · cases h; decide
      · exact ih _ _ _ _ _ _ h
    · cases h; exact btw_nn
theorem rest_nn {s : Int} (f pl : Int) (h : restF tx e s p R = Sum.inl (f, pl)) : 0 ≤ f := by
  unfold restF at h
  split at h
  · unfold tubeF at h
    repeat' split at h
    all_goals first | (cases h; done) | (cases h; exact btw_nn) | (cases h; decide)
  · split at h
    · unfold persF at h
      repeat' split at h
      all_goals first | (cases h; done) | (cases h; exact btw_nn) | (cases h; exact nnF_nn) | (cases h; decide)
    · split at h
      · unfold turnF at h
        split at h
        · exact sls_nn _ _ _ _ _ _ _ h
        · cases h; exact nnF_nn
      · split at h
        · unfold quarF at h
          repeat' split at h
          all_goals first | (cases h; done) | (cases h; exact pqF_nn) | (cases h; decide)
        · split at h
          · unfold wishF at h
            repeat' split at h
            all_goals first | (cases h; done) | (cases h; exact pqF_nn) | (cases h; decide)
          · split at h
            · unfold wishF at h
              repeat' split at h
              all_goals first | (cases h; done) | (cases h; exact pqF_nn) | (cases h; decide)
            · split at h
              · unfold unsF at h
                repeat' split at h
                all_goals first | (cases h; done) | (cases h; exact pqF_nn) | (cases h; exact btw_nn) | (cases h; decide)
              · unfold seenF at h
                repeat' split at h
                all_goals first | (cases h; done) | (cases h; exact pqF_nn) | (cases h; decide)
theorem read_nn : ∀ (k : Nat) (p : Int) (R : MC) (f pl : Int), readF tx e k p R = Sum.inl (f, pl) → 0 ≤ f := by
  intro k
  induction k with
  | zero => intro p R f pl h; simp only [readF] at h; cases h; decide
  | succ k ih =>
    intro p R f pl h
    simp only [readF] at h
    cases hl : lineF tx e p R with
    | inl x =>
      rw [hl] at h
      cases h
      unfold lineF at hl
      repeat' split at hl
      all_goals first | (cases hl; decide) | exact rest_nn _ _ hl
    | inr x =>
      obtain ⟨q, S⟩ := x
      rw [hl] at h
      dsimp only at h
      repeat' split at h
      all_goals first | (cases h; done) | (cases h; decide) | exact ih _ _ _ _ h
end
section
variable (d : Nat) (P : Int → MM → Prop) {G : MG} {c R : MC} {T a : Int} {tx : Int → Int}
theorem rt_0 {c : MC} (z : ∀ j, 0 ≤ j → j < 6 → R 0 j = 0) (z6 : R 6 3 = 0) (z10 : R 10 3 = 0) (z14 : R 14 3 = 0) (z20 : R 20 0 = 0) (zT : ∀ j, (0 ≤ j ∧ j < 10) ∨ j = 16 ∨ j = 17 → c T j = 0) (zk : ∀ i j, 1 ≤ i → i < 14 → c (T + i) j = 0) : RT R c T := by
  have b0 : ∀ k : Int, 0 ≤ k → k < 8 → bt 0 k = 0 := fun k k0 k8 => by
    obtain ⟨k, rfl⟩ := Int.eq_ofNat_of_zero_le k0
    exact (by decide +kernel : ∀ k : Nat, k < 8 → bt 0 (k : Int) = 0) k (by omega)
  have y0 := z 0 (by decide) (by decide); have y1 := z 1 (by decide) (by decide); have y2 := z 2 (by decide) (by decide); have y3 := z 3 (by decide) (by decide); have y4 := z 4 (by decide) (by decide); have y5 := z 5 (by decide) (by decide)
  refine ⟨by rw [zT _ (by omega), y0], by rw [zT _ (by omega), y1], by rw [zT _ (by omega), y2], by rw [zT _ (by omega), y3], by rw [zT _ (by omega), y4], by rw [zT _ (by omega), z6], by rw [zT _ (by omega), z10], by rw [zT _ (by omega), y5], by rw [zT _ (by omega), z14], by rw [zT _ (by omega), z20], fun i a b => by omega, fun i a b => by omega, fun i k a b => by omega, fun i a b => ?_, fun i a b => by omega, ?_, fun i a b => by omega, fun i a b => by omega, ?_, fun i a b => by omega⟩
  · rw [zk _ _ (by decide) (by decide)]
    unfold ptn
    rw [z6]
    rfl
  · rw [zT _ (by omega)]; exact ⟨by decide, fun k x y => b0 k (by omega) y⟩
  · rw [zT _ (by omega)]; exact ⟨by decide, fun k x y => b0 k (by omega) y⟩
theorem f_mtube (hT : gTop G = T) (T80 : 80 ≤ T) (h5 : c 62 5 = 63) (h6 : a ≤ c 62 6) (a0 : 0 ≤ a) (a7 : a ≤ 700) (l63 : gLn G 63 = 700) (htx : ∀ j, 0 ≤ j → j < a → c 63 j = tx j ∧ -128 ≤ tx j ∧ tx j < 128) (W : WF R) (z : ∀ j, 0 ≤ j → j < 6 → R 0 j = 0) (z6 : R 6 3 = 0) (z10 : R 10 3 = 0) (z14 : R 14 3 = 0) (z20 : R 20 0 = 0)
    (hbad : ∀ G' c' f pl, readF tx a (a + 1).toNat (sk tx a 0) R = Sum.inl (f, pl) → (gTop G' = T + 14 ∧ gCl G' = gCl G + 14 ∧ gSl G' ≤ gSl G + 277 ∧ ∀ x, x < T → gLn G' x = gLn G x) → (∀ x j, x < T → ¬ (x = 62 ∧ (j = 0 ∨ j = 4 ∨ (6 ≤ j ∧ j ≤ 15))) → c' x j = c x j) → c' 62 6 = 0 → c' 62 12 = f → c' 62 13 = pl → 0 < f → P (-1) (G', up (up c' 62 1 4) 62 2 pl))
    (hok : ∀ G' c' p R', readF tx a (a + 1).toNat (sk tx a 0) R = Sum.inr (p, R') → (gTop G' = T + 14 ∧ gCl G' = gCl G + 14 ∧ gSl G' ≤ gSl G + 277 ∧ ∀ x, x < T → gLn G' x = gLn G x) → (∀ x j, x < T → ¬ (x = 62 ∧ (j = 0 ∨ j = 4 ∨ (6 ≤ j ∧ j ≤ 15))) → c' x j = c x j) → c' 62 6 = 0 → c' 62 12 = 0 → TT G' c' T → RT R' c' T → At (d + 10) mX12_tube 99 [mR 18 62, MU, mI 0] [] (G', up c' 62 3 T) (QI P))
    (hnz : ∀ f pl, readF tx a (a + 1).toNat (sk tx a 0) R = Sum.inl (f, pl) → f ≠ 0) : EvI (d + 10) mX12_tube [mR 18 62, mI a] (G, c) P := by
  refine ev_X12_tube (d + 9) _ G c 62 a (by decide) ⟨by decide, ?_⟩
  rintro _ rfl
  rw [if_neg (by omega), up_nj (show (6 : Int) ≠ 0 by decide), if_neg (by omega)]
  refine ⟨by decide, by decide, ?_⟩
  rintro _ rfl
  refine ⟨by decide, ?_⟩
  rintro _ rfl
  refine ⟨by decide, ?_⟩
  rintro _ rfl
  refine ⟨by decide, ?_⟩
  rintro c7 hc7
  have hc7' : c7 = up (up (up (up (up c 62 0 0) 62 7 a) 62 6 0) 62 8 0) 62 12 0 := hc7
  clear hc7
  have o7 : ∀ x j, ¬ (x = 62 ∧ (j = 0 ∨ j = 6 ∨ j = 7 ∨ j = 8 ∨ j = 12)) → c7 x j = c x j := fun x j q => by rw [hc7', up_o (by omega), up_o (by omega), up_o (by omega), up_o (by omega), up_o (by omega)]
  have e12 : c7 62 12 = 0 := by rw [hc7', up_eq]
  have e8 : c7 62 8 = 0 := by rw [hc7', up_nj (by decide), up_eq]
  have e6 : c7 62 6 = 0 := by rw [hc7', up_nj (by decide), up_nj (by decide), up_eq]
  have e7 : c7 62 7 = a := by rw [hc7', up_nj (by decide), up_nj (by decide), up_nj (by decide), up_eq]
  clear hc7'
  rintro _ rfl _ rfl
  rw [hT]
  have N0 : NT T G c7 1 (gNew G 17 25) (cNew G c7 17) := by rw [← hT]; exact nt_0
  refine f_newTube (d + 8) _ T80 N0 (fun G' c9 N T9 => ?_)
  obtain ⟨n0, n1, n2, n3, n4, n5, n6, n7⟩ := N
  refine ⟨by decide, ?_⟩
  rintro _ rfl
  refine ⟨by decide, ?_⟩
  rintro cb hcb
  have hcb' : cb = up (up c9 62 4 T) 62 9 0 := hcb
  clear hcb
  have ob : ∀ x j, ¬ (x = 62 ∧ (j = 4 ∨ j = 9)) → cb x j = c9 x j := fun x j q => by rw [hcb', up_o (by omega), up_o (by omega)]
  have f4 : cb 62 4 = T := by rw [hcb', up_nj (by decide), up_eq]
  have f9 : cb 62 9 = 0 := by rw [hcb', up_eq]
  clear hcb'
  have oc : ∀ x j, x < T → ¬ (x = 62 ∧ (j = 0 ∨ j = 4 ∨ (6 ≤ j ∧ j ≤ 15))) → cb x j = c x j := fun x j q q' => by rw [ob x j (by omega), n5 x j q, o7 x j (by omega)]
  have g6 : cb 62 6 = 0 := by rw [ob _ _ (by omega), n5 _ _ (by omega)]; exact e6
  have g7 : cb 62 7 = a := by rw [ob _ _ (by omega), n5 _ _ (by omega)]; exact e7
  have g8 : cb 62 8 = 0 := by rw [ob _ _ (by omega), n5 _ _ (by omega)]; exact e8
  have g12 : cb 62 12 = 0 := by rw [ob _ _ (by omega), n5 _ _ (by omega)]; exact e12
  have M : MT G' cb tx a := ⟨by rw [oc _ _ (by omega) (by omega)]; exact h5, g7, ⟨a0, a7⟩, by rw [n4 _ (by omega)]; exact l63, fun j x y => by rw [oc _ _ (by omega) (by omega)]; exact htx j x y⟩
  have Tb : TT G' cb T := T9.fr (fun j _ _ _ => ob _ _ (by omega))
  have X : MX G' cb cb T tx a := ⟨M, Tb, f4, fun _ _ _ _ => rfl⟩
  have Rb : RT R cb T := rt_0 z z6 z10 z14 z20 (fun j q => by rw [ob _ _ (by omega)]; exact n7 j q) (fun i j q q' => by rw [ob _ _ (by omega)]; exact n6 i j q (by omega))
  refine f_goes (d + 7) _ M 0 (by decide) a0 g8 (by rw [f9]; decide) (fun cc F t => ?_)
  have Mc : MS G' cb cc T tx a (sk tx a 0) R := ⟨X.f8 F, t, by rw [F 62 12 (by omega)]; exact g12, Rb.fr (fun x j q q' => F x j (by omega))⟩
  refine ev_X12_readAll (d + 8) _ G' cc 62 (by decide) ?_
  refine l_rall (d + 1) _ (a + 1).toNat 0 _ _ _ (by decide) (by omega) (sk_rg a0).1 Mc W (fun c' h => ?_)
  have gg : gTop G' = T + 14 ∧ gCl G' = gCl G + 14 ∧ gSl G' ≤ gSl G + 277 ∧ ∀ x, x < T → gLn G' x = gLn G x := ⟨n1, n2, by omega, n4⟩
  cases hr : readF tx a (a + 1).toNat (sk tx a 0) R with
  | inl x =>
    obtain ⟨f, pl⟩ := x
    rw [hr] at h
    have M' : MO G' cb c' T tx a f pl := h
    have fz := hnz f pl hr
    have fn := read_nn _ _ _ _ _ hr
    have h13 : c' 62 13 = pl := M'.2.2.2.1
    refine ⟨by decide, ?_⟩
    dsimp only
    rw [if_pos (by rw [M'.2.2.1]; omega)]
    refine ⟨by decide, ?_⟩
    rintro _ rfl
    refine ⟨by decide, by decide, ?_⟩
    rintro _ rfl
    rw [up_nj (show (13 : Int) ≠ 1 by decide), h13]
    exact hbad G' c' f pl hr gg (fun x j q q' => by rw [M'.1.2.2.2 x j (by omega) (by omega)]; exact oc x j q q') (by rw [M'.1.2.2.2 _ _ (by omega) (by omega)]; exact g6) M'.2.2.1 h13 (by omega)
  | inr x =>
    obtain ⟨p, R'⟩ := x
    rw [hr] at h
    have M' : MS G' cb c' T tx a p R' := h
    refine ⟨by decide, ?_⟩
    dsimp only
    rw [if_neg (by rw [M'.2.2.1]; decide), M'.1.2.2.1]
    refine ⟨by decide, by decide, ?_⟩
    rintro _ rfl
    exact hok G' c' p R' hr gg (fun x j q q' => by rw [M'.1.2.2.2 x j (by omega) (by omega)]; exact oc x j q q') (by rw [M'.1.2.2.2 _ _ (by omega) (by omega)]; exact g6) M'.2.2.1 M'.1.2.1 M'.2.2.2
end
