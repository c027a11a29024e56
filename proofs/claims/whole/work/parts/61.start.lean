theorem i_law (d : Nat) (P : Int → MM → Prop) {G : MG} {c : MC} (h0 : gTop G = 0) (hP : ∀ G' c', IV G' c' → gTop G' = 80 → gCl G' = gCl G + 80 → gSl G' ≤ gSl G + 20000 → (∀ j, c' (-1) j = c (-1) j) → gLn G' (-1) = gLn G (-1) → At (d + 5) mL_law 23 [mR 1 0, mR 16 0, mR 18 62, mR 5 79, mI 0, MU, MU] [] (G', c') (QI P)) : Ev (d + 5) mL_law [mR 1 0] (G, c) (QI P) := by
  refine ev_L_law (d + 4) _ G c 0 ?_
  rintro G0 hG0 c0 hc0
  have t0 : gTop G0 = 1 := by rw [hG0, gT_new, h0]; rfl
  have n0 : gCl G0 = gCl G + 1 := by rw [hG0, gC_new]
  have s0 : gSl G0 = gSl G + 7 := by rw [hG0, gS_new]
  have g0 : gLn G0 (-1) = gLn G (-1) := by rw [hG0, gL_new, if_neg (by omega)]
  have x0 : ∀ j, c0 (-1) j = c (-1) j := fun j => by rw [hc0, cN_ap, if_neg (by omega)]
  clear hG0 hc0
  rw [h0]
  refine ev_X10_init (d + 3) _ G0 c0 0 (by decide) ⟨by decide, ?_⟩
  rintro _ rfl _ rfl
  rw [t0]
  refine i_told_1 (d + 1) _ (by rw [gT_new, t0]; rfl) (fun j => by rw [cN_ap, if_pos (by rw [t0])]) (fun GA cA FA fA => ?_)
  obtain ⟨eA, gA, tA, nA, sA⟩ := stg0 FA t0
  refine ⟨by decide, ?_⟩
  rintro _ rfl _ rfl _ rfl
  dsimp only
  have tA' : gTop GA = 19 := by rw [tA]; rfl
  rw [tA']
  refine i_reader_19 d _ (by rw [gT_new, tA']; rfl) (fun j => by rw [cN_ap, if_pos (by rw [tA'])]) (fun GC cC FC fC => ?_)
  obtain ⟨eC, uC, vC, gC, tC, nC, sC⟩ := stg FC tA' (by decide)
  refine ⟨by decide, ?_⟩
  rintro _ rfl _ rfl _ rfl
  dsimp only
  have tC' : gTop GC = 42 := by rw [tC]; rfl
  rw [tC']
  refine i_street_42 (d + 2) _ (by rw [gT_new, tC']; rfl) (fun j => by rw [cN_ap, if_pos (by rw [tC'])]) (fun GD cD FD fD => ?_)
  obtain ⟨eD, uD, vD, gD, tD, nD, sD⟩ := stg FD tC' (by decide)
  refine ⟨by decide, ?_⟩
  rintro _ rfl _ rfl _ rfl
  dsimp only
  have tD' : gTop GD = 45 := by rw [tD]; rfl
  rw [tD']
  refine i_reach_45 (d + 2) _ (by rw [gT_new, tD']; rfl) (fun j => by rw [cN_ap, if_pos (by rw [tD'])]) (fun GE cE FE fE => ?_)
  obtain ⟨eE, uE, vE, gE, tE, nE, sE⟩ := stg FE tD' (by decide)
  refine ⟨by decide, ?_⟩
  rintro _ rfl _ rfl _ rfl
  dsimp only
  have tE' : gTop GE = 52 := by rw [tE]; rfl
  rw [tE']
  refine i_reach_52 (d + 2) _ (by rw [gT_new, tE']; rfl) (fun j => by rw [cN_ap, if_pos (by rw [tE'])]) (fun GF cF FF fF => ?_)
  obtain ⟨eF, uF, vF, gF, tF, nF, sF⟩ := stg FF tE' (by decide)
  refine ⟨by decide, ?_⟩
  rintro _ rfl _ rfl _ rfl
  dsimp only
  have tF' : gTop GF = 59 := by rw [tF]; rfl
  rw [tF']
  refine i_shaker_59 (d + 2) _ (by rw [gT_new, tF']; rfl) (fun j => by rw [cN_ap, if_pos (by rw [tF'])]) (fun GH cH FH fH => ?_)
  obtain ⟨eH, uH, vH, gH, tH, nH, sH⟩ := stg FH tF' (by decide)
  refine ⟨by decide, ?_⟩
  rintro _ rfl
  refine ⟨by decide, ?_⟩
  rintro _ rfl
  dsimp only
  have tH' : gTop GH = 62 := by rw [tH]; rfl
  rintro _ rfl _ rfl
  rw [tH']
  refine i_model_62 (d + 3) _ (by rw [gT_new, tH']; rfl) (fun j => by rw [cN_ap, if_pos (by rw [tH'])]) (fun GM cM FM fM => ?_)
  obtain ⟨eM, gM, tM, nM, sM⟩ := stg0 FM tH'
  have tM' : gTop GM = 79 := by rw [tM]; rfl
  refine ⟨⟨by decide, by decide⟩, ?_⟩
  dsimp only
  rintro Gz hGz cz hcz
  rw [tM']
  have oz : ∀ a j, a ≠ 79 → cz a j = cM a j := fun a j q => by rw [hcz, cN_ap, if_neg (by omega)]
  have lz : ∀ a, a ≠ 79 → gLn Gz a = gLn GM a := fun a q => by rw [hGz, gL_new, if_neg (by omega)]
  have l79 : gLn Gz 79 = 1 := by rw [hGz, gL_new, if_pos (by omega)]; rfl
  have tz : gTop Gz = 80 := by rw [hGz, gT_new, tM']; rfl
  have nz : gCl Gz = gCl GM + 1 := by rw [hGz, gC_new]
  have sz : gSl Gz = gSl GM + 1 := by rw [hGz, gS_new]; rfl
  clear hGz hcz
  have qH : ∀ a j, a ≠ 0 → a < 62 → cz a j = cH a j := fun a j x y => by rw [oz a j (by omega), eM a j (by omega), up_na x, up_na x]
  have zH : ∀ j, j ≠ 5 → j ≠ 6 → cz 0 j = cH 0 j := fun j x y => by rw [oz 0 j (by decide), eM 0 j (by decide), up_nj y, up_nj x]
  have z6 : cz 0 5 = 59 := by rw [oz 0 5 (by decide), eM 0 5 (by decide), up_nj (by decide), up_eq]
  have z7 : cz 0 6 = 0 := by rw [oz 0 6 (by decide), eM 0 6 (by decide), up_eq]
  have kH : ∀ a, a < 62 → gLn Gz a = gLn GH a := fun a x => by rw [lz a (by omega), gM a x]
  have qF : ∀ a j, a ≠ 0 → a < 59 → cz a j = cF a j := fun a j p r => by rw [qH a j p (by omega), eH a j p r]
  have kF : ∀ a, a < 59 → gLn Gz a = gLn GF a := fun a r => by rw [kH a (by omega), gH a r]
  have qE : ∀ a j, a ≠ 0 → a < 52 → cz a j = cE a j := fun a j p r => by rw [qF a j p (by omega), eF a j p r]
  have kE : ∀ a, a < 52 → gLn Gz a = gLn GE a := fun a r => by rw [kF a (by omega), gF a r]
  have qD : ∀ a j, a ≠ 0 → a < 45 → cz a j = cD a j := fun a j p r => by rw [qE a j p (by omega), eE a j p r]
  have kD : ∀ a, a < 45 → gLn Gz a = gLn GD a := fun a r => by rw [kE a (by omega), gE a r]
  have qC : ∀ a j, a ≠ 0 → a < 42 → cz a j = cC a j := fun a j p r => by rw [qD a j p (by omega), eD a j p r]
  have kC : ∀ a, a < 42 → gLn Gz a = gLn GC a := fun a r => by rw [kD a (by omega), gD a r]
  have qA : ∀ a j, a ≠ 0 → a < 19 → cz a j = cA a j := fun a j p r => by rw [qC a j p (by omega), eC a j p r]
  have kA : ∀ a, a < 19 → gLn Gz a = gLn GA a := fun a r => by rw [kC a (by omega), gC a r]
  have z00 : cz 0 0 = 1 := by rw [zH 0 (by decide) (by decide), uH 0 (by decide), uF 0 (by decide), uE 0 (by decide), uD 0 (by decide)]; exact vC
  have z01 : cz 0 1 = 19 := by rw [zH 1 (by decide) (by decide), uH 1 (by decide), uF 1 (by decide), uE 1 (by decide)]; exact vD
  have z02 : cz 0 2 = 42 := by rw [zH 2 (by decide) (by decide), uH 2 (by decide), uF 2 (by decide)]; exact vE
  have z03 : cz 0 3 = 45 := by rw [zH 3 (by decide) (by decide), uH 3 (by decide)]; exact vF
  have z04 : cz 0 4 = 52 := by rw [zH 4 (by decide) (by decide)]; exact vH
  have TA : TPs Gz cz 1 := ⟨(by decide), ((qA 1 6 (by decide) (by decide)).trans fA.1), ((qA 1 7 (by decide) (by decide)).trans fA.2.1), ((qA 1 8 (by decide) (by decide)).trans fA.2.2.1), ((qA 1 9 (by decide) (by decide)).trans fA.2.2.2.1), ((qA 1 10 (by decide) (by decide)).trans fA.2.2.2.2.1), ((qA 1 11 (by decide) (by decide)).trans fA.2.2.2.2.2.1), ((qA 1 12 (by decide) (by decide)).trans fA.2.2.2.2.2.2.1), ((qA 1 13 (by decide) (by decide)).trans fA.2.2.2.2.2.2.2.1), ((kA 2 (by decide)).trans fA.2.2.2.2.2.2.2.2.1), ((kA 3 (by decide)).trans fA.2.2.2.2.2.2.2.2.2.1), ((kA 4 (by decide)).trans fA.2.2.2.2.2.2.2.2.2.2.1), ((kA 5 (by decide)).trans fA.2.2.2.2.2.2.2.2.2.2.2.1), ((kA 6 (by decide)).trans fA.2.2.2.2.2.2.2.2.2.2.2.2.1), ((qA 7 0 (by decide) (by decide)).trans fA.2.2.2.2.2.2.2.2.2.2.2.2.2.1), ((qA 7 1 (by decide) (by decide)).trans fA.2.2.2.2.2.2.2.2.2.2.2.2.2.2.1), ((qA 7 2 (by decide) (by decide)).trans fA.2.2.2.2.2.2.2.2.2.2.2.2.2.2.2.1), ((kA 8 (by decide)).trans fA.2.2.2.2.2.2.2.2.2.2.2.2.2.2.2.2.1), ((kA 9 (by decide)).trans fA.2.2.2.2.2.2.2.2.2.2.2.2.2.2.2.2.2.1), ((kA 10 (by decide)).trans fA.2.2.2.2.2.2.2.2.2.2.2.2.2.2.2.2.2.2.1), ((qA 11 0 (by decide) (by decide)).trans fA.2.2.2.2.2.2.2.2.2.2.2.2.2.2.2.2.2.2.2.1), ((qA 11 1 (by decide) (by decide)).trans fA.2.2.2.2.2.2.2.2.2.2.2.2.2.2.2.2.2.2.2.2.1), ((qA 11 2 (by decide) (by decide)).trans fA.2.2.2.2.2.2.2.2.2.2.2.2.2.2.2.2.2.2.2.2.2.1), ((kA 12 (by decide)).trans fA.2.2.2.2.2.2.2.2.2.2.2.2.2.2.2.2.2.2.2.2.2.2.1), ((kA 13 (by decide)).trans fA.2.2.2.2.2.2.2.2.2.2.2.2.2.2.2.2.2.2.2.2.2.2.2.1), ((kA 14 (by decide)).trans fA.2.2.2.2.2.2.2.2.2.2.2.2.2.2.2.2.2.2.2.2.2.2.2.2.1), ((qA 15 0 (by decide) (by decide)).trans fA.2.2.2.2.2.2.2.2.2.2.2.2.2.2.2.2.2.2.2.2.2.2.2.2.2.1), ((qA 15 1 (by decide) (by decide)).trans fA.2.2.2.2.2.2.2.2.2.2.2.2.2.2.2.2.2.2.2.2.2.2.2.2.2.2.1), ((qA 15 2 (by decide) (by decide)).trans fA.2.2.2.2.2.2.2.2.2.2.2.2.2.2.2.2.2.2.2.2.2.2.2.2.2.2.2.1), ((kA 16 (by decide)).trans fA.2.2.2.2.2.2.2.2.2.2.2.2.2.2.2.2.2.2.2.2.2.2.2.2.2.2.2.2.1), ((kA 17 (by decide)).trans fA.2.2.2.2.2.2.2.2.2.2.2.2.2.2.2.2.2.2.2.2.2.2.2.2.2.2.2.2.2.1), ((kA 18 (by decide)).trans fA.2.2.2.2.2.2.2.2.2.2.2.2.2.2.2.2.2.2.2.2.2.2.2.2.2.2.2.2.2.2.1)⟩
  have TB : TPs Gz cz 24 := ⟨(by decide), ((qC 24 6 (by decide) (by decide)).trans fC.2.2.2.2.2.2.2.2.2.2.2.2.2.2.2.2.2.2.2.2.1), ((qC 24 7 (by decide) (by decide)).trans fC.2.2.2.2.2.2.2.2.2.2.2.2.2.2.2.2.2.2.2.2.2.1), ((qC 24 8 (by decide) (by decide)).trans fC.2.2.2.2.2.2.2.2.2.2.2.2.2.2.2.2.2.2.2.2.2.2.1), ((qC 24 9 (by decide) (by decide)).trans fC.2.2.2.2.2.2.2.2.2.2.2.2.2.2.2.2.2.2.2.2.2.2.2.1), ((qC 24 10 (by decide) (by decide)).trans fC.2.2.2.2.2.2.2.2.2.2.2.2.2.2.2.2.2.2.2.2.2.2.2.2.1), ((qC 24 11 (by decide) (by decide)).trans fC.2.2.2.2.2.2.2.2.2.2.2.2.2.2.2.2.2.2.2.2.2.2.2.2.2.1), ((qC 24 12 (by decide) (by decide)).trans fC.2.2.2.2.2.2.2.2.2.2.2.2.2.2.2.2.2.2.2.2.2.2.2.2.2.2.1), ((qC 24 13 (by decide) (by decide)).trans fC.2.2.2.2.2.2.2.2.2.2.2.2.2.2.2.2.2.2.2.2.2.2.2.2.2.2.2.1), ((kC 25 (by decide)).trans fC.2.2.2.2.2.2.2.2.2.2.2.2.2.2.2.2.2.2.2.2.2.2.2.2.2.2.2.2.1), ((kC 26 (by decide)).trans fC.2.2.2.2.2.2.2.2.2.2.2.2.2.2.2.2.2.2.2.2.2.2.2.2.2.2.2.2.2.1), ((kC 27 (by decide)).trans fC.2.2.2.2.2.2.2.2.2.2.2.2.2.2.2.2.2.2.2.2.2.2.2.2.2.2.2.2.2.2.1), ((kC 28 (by decide)).trans fC.2.2.2.2.2.2.2.2.2.2.2.2.2.2.2.2.2.2.2.2.2.2.2.2.2.2.2.2.2.2.2.1), ((kC 29 (by decide)).trans fC.2.2.2.2.2.2.2.2.2.2.2.2.2.2.2.2.2.2.2.2.2.2.2.2.2.2.2.2.2.2.2.2.1), ((qC 30 0 (by decide) (by decide)).trans fC.2.2.2.2.2.2.2.2.2.2.2.2.2.2.2.2.2.2.2.2.2.2.2.2.2.2.2.2.2.2.2.2.2.1), ((qC 30 1 (by decide) (by decide)).trans fC.2.2.2.2.2.2.2.2.2.2.2.2.2.2.2.2.2.2.2.2.2.2.2.2.2.2.2.2.2.2.2.2.2.2.1), ((qC 30 2 (by decide) (by decide)).trans fC.2.2.2.2.2.2.2.2.2.2.2.2.2.2.2.2.2.2.2.2.2.2.2.2.2.2.2.2.2.2.2.2.2.2.2.1), ((kC 31 (by decide)).trans fC.2.2.2.2.2.2.2.2.2.2.2.2.2.2.2.2.2.2.2.2.2.2.2.2.2.2.2.2.2.2.2.2.2.2.2.2.1), ((kC 32 (by decide)).trans fC.2.2.2.2.2.2.2.2.2.2.2.2.2.2.2.2.2.2.2.2.2.2.2.2.2.2.2.2.2.2.2.2.2.2.2.2.2.1), ((kC 33 (by decide)).trans fC.2.2.2.2.2.2.2.2.2.2.2.2.2.2.2.2.2.2.2.2.2.2.2.2.2.2.2.2.2.2.2.2.2.2.2.2.2.2.1), ((qC 34 0 (by decide) (by decide)).trans fC.2.2.2.2.2.2.2.2.2.2.2.2.2.2.2.2.2.2.2.2.2.2.2.2.2.2.2.2.2.2.2.2.2.2.2.2.2.2.2.1), ((qC 34 1 (by decide) (by decide)).trans fC.2.2.2.2.2.2.2.2.2.2.2.2.2.2.2.2.2.2.2.2.2.2.2.2.2.2.2.2.2.2.2.2.2.2.2.2.2.2.2.2.1), ((qC 34 2 (by decide) (by decide)).trans fC.2.2.2.2.2.2.2.2.2.2.2.2.2.2.2.2.2.2.2.2.2.2.2.2.2.2.2.2.2.2.2.2.2.2.2.2.2.2.2.2.2.1), ((kC 35 (by decide)).trans fC.2.2.2.2.2.2.2.2.2.2.2.2.2.2.2.2.2.2.2.2.2.2.2.2.2.2.2.2.2.2.2.2.2.2.2.2.2.2.2.2.2.2.1), ((kC 36 (by decide)).trans fC.2.2.2.2.2.2.2.2.2.2.2.2.2.2.2.2.2.2.2.2.2.2.2.2.2.2.2.2.2.2.2.2.2.2.2.2.2.2.2.2.2.2.2.1), ((kC 37 (by decide)).trans fC.2.2.2.2.2.2.2.2.2.2.2.2.2.2.2.2.2.2.2.2.2.2.2.2.2.2.2.2.2.2.2.2.2.2.2.2.2.2.2.2.2.2.2.2.1), ((qC 38 0 (by decide) (by decide)).trans fC.2.2.2.2.2.2.2.2.2.2.2.2.2.2.2.2.2.2.2.2.2.2.2.2.2.2.2.2.2.2.2.2.2.2.2.2.2.2.2.2.2.2.2.2.2.1), ((qC 38 1 (by decide) (by decide)).trans fC.2.2.2.2.2.2.2.2.2.2.2.2.2.2.2.2.2.2.2.2.2.2.2.2.2.2.2.2.2.2.2.2.2.2.2.2.2.2.2.2.2.2.2.2.2.2.1), ((qC 38 2 (by decide) (by decide)).trans fC.2.2.2.2.2.2.2.2.2.2.2.2.2.2.2.2.2.2.2.2.2.2.2.2.2.2.2.2.2.2.2.2.2.2.2.2.2.2.2.2.2.2.2.2.2.2.2.1), ((kC 39 (by decide)).trans fC.2.2.2.2.2.2.2.2.2.2.2.2.2.2.2.2.2.2.2.2.2.2.2.2.2.2.2.2.2.2.2.2.2.2.2.2.2.2.2.2.2.2.2.2.2.2.2.2.1), ((kC 40 (by decide)).trans fC.2.2.2.2.2.2.2.2.2.2.2.2.2.2.2.2.2.2.2.2.2.2.2.2.2.2.2.2.2.2.2.2.2.2.2.2.2.2.2.2.2.2.2.2.2.2.2.2.2.1), ((kC 41 (by decide)).trans fC.2.2.2.2.2.2.2.2.2.2.2.2.2.2.2.2.2.2.2.2.2.2.2.2.2.2.2.2.2.2.2.2.2.2.2.2.2.2.2.2.2.2.2.2.2.2.2.2.2.2.1)⟩
  have TE : RCs Gz cz 45 := ⟨(by decide), ((qE 45 3 (by decide) (by decide)).trans fE.1), ((qE 45 4 (by decide) (by decide)).trans fE.2.1), ((qE 45 5 (by decide) (by decide)).trans fE.2.2.1), ((qE 45 6 (by decide) (by decide)).trans fE.2.2.2.1), ((qE 45 7 (by decide) (by decide)).trans fE.2.2.2.2.1), ((qE 45 8 (by decide) (by decide)).trans fE.2.2.2.2.2.1), ((kE 46 (by decide)).trans fE.2.2.2.2.2.2.1), ((kE 47 (by decide)).trans fE.2.2.2.2.2.2.2.1), ((kE 48 (by decide)).trans fE.2.2.2.2.2.2.2.2.1), ((kE 49 (by decide)).trans fE.2.2.2.2.2.2.2.2.2.1), ((kE 50 (by decide)).trans fE.2.2.2.2.2.2.2.2.2.2.1), ((kE 51 (by decide)).trans fE.2.2.2.2.2.2.2.2.2.2.2.1)⟩
  have TF : RCs Gz cz 52 := ⟨(by decide), ((qF 52 3 (by decide) (by decide)).trans fF.1), ((qF 52 4 (by decide) (by decide)).trans fF.2.1), ((qF 52 5 (by decide) (by decide)).trans fF.2.2.1), ((qF 52 6 (by decide) (by decide)).trans fF.2.2.2.1), ((qF 52 7 (by decide) (by decide)).trans fF.2.2.2.2.1), ((qF 52 8 (by decide) (by decide)).trans fF.2.2.2.2.2.1), ((kF 53 (by decide)).trans fF.2.2.2.2.2.2.1), ((kF 54 (by decide)).trans fF.2.2.2.2.2.2.2.1), ((kF 55 (by decide)).trans fF.2.2.2.2.2.2.2.2.1), ((kF 56 (by decide)).trans fF.2.2.2.2.2.2.2.2.2.1), ((kF 57 (by decide)).trans fF.2.2.2.2.2.2.2.2.2.2.1), ((kF 58 (by decide)).trans fF.2.2.2.2.2.2.2.2.2.2.2.1)⟩
  have y2 : cz 19 2 = 0 := ((qC 19 2 (by decide) (by decide)).trans fC.2.2.2.2.1)
  have y12 : cz 19 12 = 0 := ((qC 19 12 (by decide) (by decide)).trans fC.2.2.2.2.2.2.2.2.2.2.2.2.2.2.2.2.2.2.1)
  have y6 : cz 62 6 = 0 := ((oz 62 6 (by decide)).trans fM.2.2.2.2.2.2.2.2.2.2.2.2.2.2.2.2.2.2.2.2.2.2.2.2.2.2.2.2.2.2.2.2.2.2.2.1)
  have x12 : cz 62 12 = 0 := ((oz 62 12 (by decide)).trans fM.2.2.2.2.2.2.2.2.2.2.2.2.2.2.2.2.2.2.2.2.2.2.2.2.2.2.2.2.2.2.2.2.2.2.2.2.1)
  have LW : ∀ k, 0 ≤ k → k < 8 → cz 20 k = lwc k := fun k a b => by
    rw [lwc_eq k a b]
    rcases (show k = 0 ∨ k = 1 ∨ k = 2 ∨ k = 3 ∨ k = 4 ∨ k = 5 ∨ k = 6 ∨ k = 7 by omega) with rfl | rfl | rfl | rfl | rfl | rfl | rfl | rfl
    · exact ((qC 20 0 (by decide) (by decide)).trans fC.2.2.2.2.2.2.2.2.2.1)
    · exact ((qC 20 1 (by decide) (by decide)).trans fC.2.2.2.2.2.2.2.2.2.2.1)
    · exact ((qC 20 2 (by decide) (by decide)).trans fC.2.2.2.2.2.2.2.2.2.2.2.1)
    · exact ((qC 20 3 (by decide) (by decide)).trans fC.2.2.2.2.2.2.2.2.2.2.2.2.1)
    · exact ((qC 20 4 (by decide) (by decide)).trans fC.2.2.2.2.2.2.2.2.2.2.2.2.2.1)
    · exact ((qC 20 5 (by decide) (by decide)).trans fC.2.2.2.2.2.2.2.2.2.2.2.2.2.2.1)
    · exact ((qC 20 6 (by decide) (by decide)).trans fC.2.2.2.2.2.2.2.2.2.2.2.2.2.2.2.1)
    · exact ((qC 20 7 (by decide) (by decide)).trans fC.2.2.2.2.2.2.2.2.2.2.2.2.2.2.2.2.1)
  have SS : SH Gz cz 1 0 := ⟨(by decide), z00, ((qC 19 11 (by decide) (by decide)).trans fC.2.2.2.2.2.2.2.2.2.2.2.2.2.2.2.2.2.1), z01, z02, z03, z04, z6, TA, TB, ((qC 19 0 (by decide) (by decide)).trans fC.1), ((qC 19 1 (by decide) (by decide)).trans fC.2.1), ((qC 19 8 (by decide) (by decide)).trans fC.2.2.1), ((qC 19 9 (by decide) (by decide)).trans fC.2.2.2.1), ((kC 20 (by decide)).trans fC.2.2.2.2.2.1), ((kC 21 (by decide)).trans fC.2.2.2.2.2.2.1), ((kC 22 (by decide)).trans fC.2.2.2.2.2.2.2.1), ((kC 23 (by decide)).trans fC.2.2.2.2.2.2.2.2.1), ((kD 43 (by decide)).trans fD.2.2.2.2.1), ((kD 44 (by decide)).trans fD.2.2.2.2.2), ((kH 60 (by decide)).trans fH.2.2.1), ((kH 61 (by decide)).trans fH.2.2.2), l79, LW, ((qD 42 1 (by decide) (by decide)).trans fD.1), ((qD 42 3 (by decide) (by decide)).trans fD.2.1), TE, TF, (Or.inl ((qE 45 0 (by decide) (by decide)).trans fE.2.2.2.2.2.2.2.2.2.2.2.2)), (Or.inl ((qF 52 0 (by decide) (by decide)).trans fF.2.2.2.2.2.2.2.2.2.2.2.2)), ((qH 59 0 (by decide) (by decide)).trans fH.1), ((qH 59 1 (by decide) (by decide)).trans fH.2.1), ((oz 62 5 (by decide)).trans fM.1), ((oz 62 16 (by decide)).trans fM.2.1), ((oz 62 17 (by decide)).trans fM.2.2.1), ((oz 62 18 (by decide)).trans fM.2.2.2.1), ((oz 62 19 (by decide)).trans fM.2.2.2.2.1), ((oz 62 22 (by decide)).trans fM.2.2.2.2.2.1), ((oz 62 23 (by decide)).trans fM.2.2.2.2.2.2.1), ((oz 62 24 (by decide)).trans fM.2.2.2.2.2.2.2.1), ((oz 62 25 (by decide)).trans fM.2.2.2.2.2.2.2.2.1), ((oz 62 26 (by decide)).trans fM.2.2.2.2.2.2.2.2.2.1), ((oz 62 27 (by decide)).trans fM.2.2.2.2.2.2.2.2.2.2.1), ((oz 62 29 (by decide)).trans fM.2.2.2.2.2.2.2.2.2.2.2.1), ((oz 62 33 (by decide)).trans fM.2.2.2.2.2.2.2.2.2.2.2.2.1), ((oz 62 35 (by decide)).trans fM.2.2.2.2.2.2.2.2.2.2.2.2.2.1), ((oz 62 36 (by decide)).trans fM.2.2.2.2.2.2.2.2.2.2.2.2.2.2.1), ((oz 62 37 (by decide)).trans fM.2.2.2.2.2.2.2.2.2.2.2.2.2.2.2.1), ((lz 63 (by decide)).trans fM.2.2.2.2.2.2.2.2.2.2.2.2.2.2.2.2.1), ((lz 64 (by decide)).trans fM.2.2.2.2.2.2.2.2.2.2.2.2.2.2.2.2.2.1), ((lz 65 (by decide)).trans fM.2.2.2.2.2.2.2.2.2.2.2.2.2.2.2.2.2.2.1), ((lz 66 (by decide)).trans fM.2.2.2.2.2.2.2.2.2.2.2.2.2.2.2.2.2.2.2.1), ((lz 67 (by decide)).trans fM.2.2.2.2.2.2.2.2.2.2.2.2.2.2.2.2.2.2.2.2.1), ((lz 68 (by decide)).trans fM.2.2.2.2.2.2.2.2.2.2.2.2.2.2.2.2.2.2.2.2.2.1), ((lz 69 (by decide)).trans fM.2.2.2.2.2.2.2.2.2.2.2.2.2.2.2.2.2.2.2.2.2.2.1), ((lz 70 (by decide)).trans fM.2.2.2.2.2.2.2.2.2.2.2.2.2.2.2.2.2.2.2.2.2.2.2.1), ((lz 71 (by decide)).trans fM.2.2.2.2.2.2.2.2.2.2.2.2.2.2.2.2.2.2.2.2.2.2.2.2.1), ((lz 72 (by decide)).trans fM.2.2.2.2.2.2.2.2.2.2.2.2.2.2.2.2.2.2.2.2.2.2.2.2.2.1), ((lz 73 (by decide)).trans fM.2.2.2.2.2.2.2.2.2.2.2.2.2.2.2.2.2.2.2.2.2.2.2.2.2.2.1), ((lz 74 (by decide)).trans fM.2.2.2.2.2.2.2.2.2.2.2.2.2.2.2.2.2.2.2.2.2.2.2.2.2.2.2.1), ((lz 75 (by decide)).trans fM.2.2.2.2.2.2.2.2.2.2.2.2.2.2.2.2.2.2.2.2.2.2.2.2.2.2.2.2.1), ((lz 76 (by decide)).trans fM.2.2.2.2.2.2.2.2.2.2.2.2.2.2.2.2.2.2.2.2.2.2.2.2.2.2.2.2.2.1), ((lz 77 (by decide)).trans fM.2.2.2.2.2.2.2.2.2.2.2.2.2.2.2.2.2.2.2.2.2.2.2.2.2.2.2.2.2.2.1), ((lz 78 (by decide)).trans fM.2.2.2.2.2.2.2.2.2.2.2.2.2.2.2.2.2.2.2.2.2.2.2.2.2.2.2.2.2.2.2.1), (by rw [y2, y6]; decide), (fun j a b => by omega), y2, (y12.trans x12.symm), (by omega)⟩
  have NN : NV cz 1 := ⟨((oz 62 3 (by decide)).trans fM.2.2.2.2.2.2.2.2.2.2.2.2.2.2.2.2.2.2.2.2.2.2.2.2.2.2.2.2.2.2.2.2.2.2.1), ((qA 1 0 (by decide) (by decide)).trans fA.2.2.2.2.2.2.2.2.2.2.2.2.2.2.2.2.2.2.2.2.2.2.2.2.2.2.2.2.2.2.2.1), ((qA 1 1 (by decide) (by decide)).trans fA.2.2.2.2.2.2.2.2.2.2.2.2.2.2.2.2.2.2.2.2.2.2.2.2.2.2.2.2.2.2.2.2.1), ((qA 1 2 (by decide) (by decide)).trans fA.2.2.2.2.2.2.2.2.2.2.2.2.2.2.2.2.2.2.2.2.2.2.2.2.2.2.2.2.2.2.2.2.2.1), ((qA 1 3 (by decide) (by decide)).trans fA.2.2.2.2.2.2.2.2.2.2.2.2.2.2.2.2.2.2.2.2.2.2.2.2.2.2.2.2.2.2.2.2.2.2.1), ((qA 1 4 (by decide) (by decide)).trans fA.2.2.2.2.2.2.2.2.2.2.2.2.2.2.2.2.2.2.2.2.2.2.2.2.2.2.2.2.2.2.2.2.2.2.2.1), ((qA 1 5 (by decide) (by decide)).trans fA.2.2.2.2.2.2.2.2.2.2.2.2.2.2.2.2.2.2.2.2.2.2.2.2.2.2.2.2.2.2.2.2.2.2.2.2.1), ((qA 7 3 (by decide) (by decide)).trans fA.2.2.2.2.2.2.2.2.2.2.2.2.2.2.2.2.2.2.2.2.2.2.2.2.2.2.2.2.2.2.2.2.2.2.2.2.2.1), ((qA 11 3 (by decide) (by decide)).trans fA.2.2.2.2.2.2.2.2.2.2.2.2.2.2.2.2.2.2.2.2.2.2.2.2.2.2.2.2.2.2.2.2.2.2.2.2.2.2.1), ((qA 15 3 (by decide) (by decide)).trans fA.2.2.2.2.2.2.2.2.2.2.2.2.2.2.2.2.2.2.2.2.2.2.2.2.2.2.2.2.2.2.2.2.2.2.2.2.2.2.2), ((qD 42 2 (by decide) (by decide)).trans fD.2.2.1), ((qD 42 4 (by decide) (by decide)).trans fD.2.2.2.1), ((oz 62 20 (by decide)).trans fM.2.2.2.2.2.2.2.2.2.2.2.2.2.2.2.2.2.2.2.2.2.2.2.2.2.2.2.2.2.2.2.2.2.2.2.2.2.1), ((oz 62 21 (by decide)).trans fM.2.2.2.2.2.2.2.2.2.2.2.2.2.2.2.2.2.2.2.2.2.2.2.2.2.2.2.2.2.2.2.2.2.2.2.2.2.2), (by decide)⟩
  refine hP Gz cz ⟨⟨?_, ?_⟩, 1, 0, SS, Or.inl NN⟩ tz ?_ ?_ (fun j => ?_) ?_
  · rw [z7]; exact ((oz 62 1 (by decide)).trans fM.2.2.2.2.2.2.2.2.2.2.2.2.2.2.2.2.2.2.2.2.2.2.2.2.2.2.2.2.2.2.2.2.2.1)
  · rw [if_neg (by rw [z7]; decide)]; exact ((oz 62 2 (by decide)).trans fM.2.2.2.2.2.2.2.2.2.2.2.2.2.2.2.2.2.2.2.2.2.2.2.2.2.2.2.2.2.2.2.2.1)
  · omega
  · omega
  · rw [qA (-1) j (by decide) (by decide), eA (-1) j (by decide)]; exact x0 j
  · rw [kA (-1) (by decide), gA (-1) (by decide)]; exact g0
