/-- a method as it is: name, bytes, its class, what it returns, how many parameters, is it a constructor -/
abbrev RRow : Type := MethodName × ByteArray × Nat × Option FieldType × Nat × Bool
def rr0 : RRow := (⟨"", "", ""⟩, ⟨#[]⟩, 0, none, 0, false)
def rkR (rk : Nat) (ret : Option FieldType) : Prop := match rk with
  | 0 => ret = none
  | 1 => ret = some .int
  | 2 => ret = some .boolean
  | 3 => ret = some .long
  | _ => ∃ n, ret = some (.object n)
def MFr (q : RRow) (z : Nat × Nat × Nat × List (List Instr)) : Prop := Cond.code q.1 q.2.1 z.1 q.2.2.2.1 ∈ lw_tbl ∧ Cond.initialized q.1.cls ∈ lw_tbl ∧ (q.1.cls ≠ "java/lang/invoke/MethodHandle" ∧ q.1.cls ≠ "java/lang/invoke/VarHandle") ∧ (parseMethodDescriptor q.1.desc).map (fun d => d.parameters.length) = some q.2.2.2.2.1 ∧ plainName q.1.cls = true ∧ q.1.cls = own q.2.2.1 ∧ (q.2.2.2.2.2 = true → q.1.name = "<init>" ∧ z.2.1 = 0) ∧ rkR z.2.1 q.2.2.2.1 ∧
  (z.2.2.1 = 0 ∧ Cond.static q.1 ∈ lw_tbl ∨ (10 ≤ z.2.2.1 ∧ z.2.2.1 < 19 ∧ Cond.instanceMethod q.1 ∈ lw_tbl ∧ (q.2.2.2.2.2 = true ∨ Cond.selects q.1.cls q.1 q.1 ∈ lw_tbl) ∧ ∃ T N, vwCl[z.2.2.1 - 10]? = some (q.1.cls, T, N))) ∧ chkM q.2.2.2.2.2 q.2.2.1 q.2.1 0 z.2.2.2 = true ∧ z.1 ≤ 100
set_option maxRecDepth 100000 in
theorem mf_0 : MFr (yX0_power, cX0_power, 0, (some .long), 2, false) (5, 3, 0, kX0_power) := ⟨mt_4 (List.mem_of_getElem? (i := 197) rfl), mt_1 (List.mem_of_getElem? (i := 17) rfl), ⟨by decide, by decide⟩, by decide +kernel, by decide, rfl, (fun h => by cases h), rfl, Or.inl ⟨rfl, mt_4 (List.mem_of_getElem? (i := 196) rfl)⟩, ckX0_power, by decide⟩
set_option maxRecDepth 100000 in
theorem mf_1 : MFr (yX0_fixedByGoingRound, cX0_fixedByGoingRound, 0, (some .long), 2, false) (5, 3, 0, kX0_fixedByGoingRound) := ⟨mt_4 (List.mem_of_getElem? (i := 191) rfl), mt_1 (List.mem_of_getElem? (i := 17) rfl), ⟨by decide, by decide⟩, by decide +kernel, by decide, rfl, (fun h => by cases h), rfl, Or.inl ⟨rfl, mt_4 (List.mem_of_getElem? (i := 190) rfl)⟩, ckX0_fixedByGoingRound, by decide⟩
set_option maxRecDepth 100000 in
theorem mf_2 : MFr (yX0_commonPart, cX0_commonPart, 0, (some .int), 2, false) (4, 1, 0, kX0_commonPart) := ⟨mt_4 (List.mem_of_getElem? (i := 194) rfl), mt_1 (List.mem_of_getElem? (i := 17) rfl), ⟨by decide, by decide⟩, by decide +kernel, by decide, rfl, (fun h => by cases h), rfl, Or.inl ⟨rfl, mt_4 (List.mem_of_getElem? (i := 193) rfl)⟩, ckX0_commonPart, by decide⟩
set_option maxRecDepth 100000 in
theorem mf_3 : MFr (yX0_fixedByGoingOver, cX0_fixedByGoingOver, 0, (some .long), 2, false) (2, 3, 0, kX0_fixedByGoingOver) := ⟨mt_4 (List.mem_of_getElem? (i := 204) rfl), mt_1 (List.mem_of_getElem? (i := 17) rfl), ⟨by decide, by decide⟩, by decide +kernel, by decide, rfl, (fun h => by cases h), rfl, Or.inl ⟨rfl, mt_4 (List.mem_of_getElem? (i := 203) rfl)⟩, ckX0_fixedByGoingOver, by decide⟩
set_option maxRecDepth 100000 in
theorem mf_4 : MFr (yX1_isLook, cX1_isLook, 1, (some .boolean), 1, false) (1, 2, 0, kX1_isLook) := ⟨mt_5 (List.mem_of_getElem? (i := 69) rfl), mt_1 (List.mem_of_getElem? (i := 19) rfl), ⟨by decide, by decide⟩, by decide +kernel, by decide, rfl, (fun h => by cases h), rfl, Or.inl ⟨rfl, mt_5 (List.mem_of_getElem? (i := 68) rfl)⟩, ckX1_isLook, by decide⟩
set_option maxRecDepth 100000 in
theorem mf_5 : MFr (yX1_isHope, cX1_isHope, 1, (some .boolean), 1, false) (1, 2, 0, kX1_isHope) := ⟨mt_5 (List.mem_of_getElem? (i := 72) rfl), mt_1 (List.mem_of_getElem? (i := 19) rfl), ⟨by decide, by decide⟩, by decide +kernel, by decide, rfl, (fun h => by cases h), rfl, Or.inl ⟨rfl, mt_5 (List.mem_of_getElem? (i := 71) rfl)⟩, ckX1_isHope, by decide⟩
set_option maxRecDepth 100000 in
theorem mf_6 : MFr (yX1_ofEye, cX1_ofEye, 1, (some .int), 3, false) (3, 1, 0, kX1_ofEye) := ⟨mt_5 (List.mem_of_getElem? (i := 59) rfl), mt_1 (List.mem_of_getElem? (i := 19) rfl), ⟨by decide, by decide⟩, by decide +kernel, by decide, rfl, (fun h => by cases h), rfl, Or.inl ⟨rfl, mt_5 (List.mem_of_getElem? (i := 58) rfl)⟩, ckX1_ofEye, by decide⟩
set_option maxRecDepth 100000 in
theorem mf_7 : MFr (yX1_ofStreet, cX1_ofStreet, 1, (some .int), 3, false) (3, 1, 0, kX1_ofStreet) := ⟨mt_5 (List.mem_of_getElem? (i := 56) rfl), mt_1 (List.mem_of_getElem? (i := 19) rfl), ⟨by decide, by decide⟩, by decide +kernel, by decide, rfl, (fun h => by cases h), rfl, Or.inl ⟨rfl, mt_5 (List.mem_of_getElem? (i := 55) rfl)⟩, ckX1_ofStreet, by decide⟩
set_option maxRecDepth 100000 in
theorem mf_8 : MFr (yX1_isRest, cX1_isRest, 1, (some .boolean), 2, false) (4, 2, 0, kX1_isRest) := ⟨mt_5 (List.mem_of_getElem? (i := 66) rfl), mt_1 (List.mem_of_getElem? (i := 19) rfl), ⟨by decide, by decide⟩, by decide +kernel, by decide, rfl, (fun h => by cases h), rfl, Or.inl ⟨rfl, mt_5 (List.mem_of_getElem? (i := 65) rfl)⟩, ckX1_isRest, by decide⟩
set_option maxRecDepth 100000 in
theorem mf_9 : MFr (yX2_endsBeside, cX2_endsBeside, 2, (some .boolean), 5, false) (7, 2, 0, kX2_endsBeside) := ⟨mt_5 (List.mem_of_getElem? (i := 36) rfl), mt_1 (List.mem_of_getElem? (i := 18) rfl), ⟨by decide, by decide⟩, by decide +kernel, by decide, rfl, (fun h => by cases h), rfl, Or.inl ⟨rfl, mt_5 (List.mem_of_getElem? (i := 35) rfl)⟩, ckX2_endsBeside, by decide⟩
set_option maxRecDepth 100000 in
theorem mf_10 : MFr (yX2_firstTurn, cX2_firstTurn, 2, (some .int), 4, false) (6, 1, 0, kX2_firstTurn) := ⟨mt_5 (List.mem_of_getElem? (i := 46) rfl), mt_1 (List.mem_of_getElem? (i := 18) rfl), ⟨by decide, by decide⟩, by decide +kernel, by decide, rfl, (fun h => by cases h), rfl, Or.inl ⟨rfl, mt_5 (List.mem_of_getElem? (i := 45) rfl)⟩, ckX2_firstTurn, by decide⟩
set_option maxRecDepth 100000 in
theorem mf_11 : MFr (yX3_init, cX3_init, 3, none, 1, true) (2, 0, 10, kX3_init) := ⟨mt_1 (List.mem_of_getElem? (i := 43) rfl), mt_1 (List.mem_of_getElem? (i := 3) rfl), ⟨by decide, by decide⟩, by decide +kernel, by decide, rfl, fun _ => ⟨rfl, rfl⟩, rfl, Or.inr ⟨by decide, by decide, mt_1 (List.mem_of_getElem? (i := 42) rfl), Or.inl rfl, _, _, rfl⟩, ckX3_init, by decide⟩
set_option maxRecDepth 100000 in
theorem mf_12 : MFr (yX3_isFull, cX3_isFull, 3, (some .boolean), 0, false) (1, 2, 10, kX3_isFull) := ⟨mt_2 (List.mem_of_getElem? (i := 179) rfl), mt_1 (List.mem_of_getElem? (i := 3) rfl), ⟨by decide, by decide⟩, by decide +kernel, by decide, rfl, (fun h => by cases h), rfl, Or.inr ⟨by decide, by decide, mt_2 (List.mem_of_getElem? (i := 177) rfl), Or.inr (mt_2 (List.mem_of_getElem? (i := 178) rfl)), _, _, rfl⟩, ckX3_isFull, by decide⟩
set_option maxRecDepth 100000 in
theorem mf_13 : MFr (yX3_add, cX3_add, 3, none, 3, false) (4, 0, 10, kX3_add) := ⟨mt_3 (List.mem_of_getElem? (i := 17) rfl), mt_1 (List.mem_of_getElem? (i := 3) rfl), ⟨by decide, by decide⟩, by decide +kernel, by decide, rfl, (fun h => by cases h), rfl, Or.inr ⟨by decide, by decide, mt_3 (List.mem_of_getElem? (i := 15) rfl), Or.inr (mt_3 (List.mem_of_getElem? (i := 16) rfl)), _, _, rfl⟩, ckX3_add, by decide⟩
set_option maxRecDepth 100000 in
theorem mf_14 : MFr (yX3_partners, cX3_partners, 3, (some .int), 1, false) (4, 1, 10, kX3_partners) := ⟨mt_3 (List.mem_of_getElem? (i := 13) rfl), mt_1 (List.mem_of_getElem? (i := 3) rfl), ⟨by decide, by decide⟩, by decide +kernel, by decide, rfl, (fun h => by cases h), rfl, Or.inr ⟨by decide, by decide, mt_3 (List.mem_of_getElem? (i := 11) rfl), Or.inr (mt_3 (List.mem_of_getElem? (i := 12) rfl)), _, _, rfl⟩, ckX3_partners, by decide⟩
set_option maxRecDepth 100000 in
theorem mf_15 : MFr (yX3_all, cX3_all, 3, (some .int), 0, false) (1, 1, 10, kX3_all) := ⟨mt_4 (List.mem_of_getElem? (i := 112) rfl), mt_1 (List.mem_of_getElem? (i := 3) rfl), ⟨by decide, by decide⟩, by decide +kernel, by decide, rfl, (fun h => by cases h), rfl, Or.inr ⟨by decide, by decide, mt_4 (List.mem_of_getElem? (i := 110) rfl), Or.inr (mt_4 (List.mem_of_getElem? (i := 111) rfl)), _, _, rfl⟩, ckX3_all, by decide⟩
set_option maxRecDepth 100000 in
theorem mf_16 : MFr (yX3_holding, cX3_holding, 3, (some .int), 1, false) (4, 1, 10, kX3_holding) := ⟨mt_3 (List.mem_of_getElem? (i := 131) rfl), mt_1 (List.mem_of_getElem? (i := 3) rfl), ⟨by decide, by decide⟩, by decide +kernel, by decide, rfl, (fun h => by cases h), rfl, Or.inr ⟨by decide, by decide, mt_3 (List.mem_of_getElem? (i := 129) rfl), Or.inr (mt_3 (List.mem_of_getElem? (i := 130) rfl)), _, _, rfl⟩, ckX3_holding, by decide⟩
set_option maxRecDepth 100000 in
theorem mf_17 : MFr (yX3_firstBroken, cX3_firstBroken, 3, (some .int), 1, false) (4, 1, 10, kX3_firstBroken) := ⟨mt_5 (List.mem_of_getElem? (i := 28) rfl), mt_1 (List.mem_of_getElem? (i := 3) rfl), ⟨by decide, by decide⟩, by decide +kernel, by decide, rfl, (fun h => by cases h), rfl, Or.inr ⟨by decide, by decide, mt_5 (List.mem_of_getElem? (i := 26) rfl), Or.inr (mt_5 (List.mem_of_getElem? (i := 27) rfl)), _, _, rfl⟩, ckX3_firstBroken, by decide⟩
set_option maxRecDepth 100000 in
theorem mf_18 : MFr (yX4_init, cX4_init, 4, none, 0, true) (1, 0, 11, kX4_init) := ⟨mt_2 (List.mem_of_getElem? (i := 44) rfl), mt_1 (List.mem_of_getElem? (i := 10) rfl), ⟨by decide, by decide⟩, by decide +kernel, by decide, rfl, fun _ => ⟨rfl, rfl⟩, rfl, Or.inr ⟨by decide, by decide, mt_2 (List.mem_of_getElem? (i := 43) rfl), Or.inl rfl, _, _, rfl⟩, ckX4_init, by decide⟩
set_option maxRecDepth 100000 in
theorem mf_19 : MFr (yX4_explore, cX4_explore, 4, none, 2, false) (6, 0, 11, kX4_explore) := ⟨mt_4 (List.mem_of_getElem? (i := 16) rfl), mt_1 (List.mem_of_getElem? (i := 10) rfl), ⟨by decide, by decide⟩, by decide +kernel, by decide, rfl, (fun h => by cases h), rfl, Or.inr ⟨by decide, by decide, mt_4 (List.mem_of_getElem? (i := 14) rfl), Or.inr (mt_4 (List.mem_of_getElem? (i := 15) rfl)), _, _, rfl⟩, ckX4_explore, by decide⟩
set_option maxRecDepth 100000 in
theorem mf_20 : MFr (yX4_find, cX4_find, 4, none, 3, false) (5, 0, 11, kX4_find) := ⟨mt_4 (List.mem_of_getElem? (i := 21) rfl), mt_1 (List.mem_of_getElem? (i := 10) rfl), ⟨by decide, by decide⟩, by decide +kernel, by decide, rfl, (fun h => by cases h), rfl, Or.inr ⟨by decide, by decide, mt_4 (List.mem_of_getElem? (i := 20) rfl), Or.inr (mt_s (List.mem_of_getElem? (i := 41) rfl)), _, _, rfl⟩, ckX4_find, by decide⟩
set_option maxRecDepth 100000 in
theorem mf_21 : MFr (yX4_depthOf, cX4_depthOf, 4, (some .int), 1, false) (4, 1, 11, kX4_depthOf) := ⟨mt_4 (List.mem_of_getElem? (i := 37) rfl), mt_1 (List.mem_of_getElem? (i := 10) rfl), ⟨by decide, by decide⟩, by decide +kernel, by decide, rfl, (fun h => by cases h), rfl, Or.inr ⟨by decide, by decide, mt_4 (List.mem_of_getElem? (i := 35) rfl), Or.inr (mt_4 (List.mem_of_getElem? (i := 36) rfl)), _, _, rfl⟩, ckX4_depthOf, by decide⟩
set_option maxRecDepth 100000 in
theorem mf_22 : MFr (yX4_most, cX4_most, 4, (some .int), 0, false) (1, 1, 11, kX4_most) := ⟨mt_4 (List.mem_of_getElem? (i := 49) rfl), mt_1 (List.mem_of_getElem? (i := 10) rfl), ⟨by decide, by decide⟩, by decide +kernel, by decide, rfl, (fun h => by cases h), rfl, Or.inr ⟨by decide, by decide, mt_4 (List.mem_of_getElem? (i := 47) rfl), Or.inr (mt_4 (List.mem_of_getElem? (i := 48) rfl)), _, _, rfl⟩, ckX4_most, by decide⟩
set_option maxRecDepth 100000 in
theorem mf_23 : MFr (yX4_evenCount, cX4_evenCount, 4, (some .int), 0, false) (3, 1, 11, kX4_evenCount) := ⟨mt_4 (List.mem_of_getElem? (i := 57) rfl), mt_1 (List.mem_of_getElem? (i := 10) rfl), ⟨by decide, by decide⟩, by decide +kernel, by decide, rfl, (fun h => by cases h), rfl, Or.inr ⟨by decide, by decide, mt_4 (List.mem_of_getElem? (i := 55) rfl), Or.inr (mt_4 (List.mem_of_getElem? (i := 56) rfl)), _, _, rfl⟩, ckX4_evenCount, by decide⟩
set_option maxRecDepth 100000 in
theorem mf_24 : MFr (yX4_comesInto, cX4_comesInto, 4, (some .int), 1, false) (4, 1, 11, kX4_comesInto) := ⟨mt_4 (List.mem_of_getElem? (i := 66) rfl), mt_1 (List.mem_of_getElem? (i := 10) rfl), ⟨by decide, by decide⟩, by decide +kernel, by decide, rfl, (fun h => by cases h), rfl, Or.inr ⟨by decide, by decide, mt_4 (List.mem_of_getElem? (i := 64) rfl), Or.inr (mt_4 (List.mem_of_getElem? (i := 65) rfl)), _, _, rfl⟩, ckX4_comesInto, by decide⟩
set_option maxRecDepth 100000 in
theorem mf_25 : MFr (yX4_leaving, cX4_leaving, 4, (some .int), 1, false) (4, 1, 11, kX4_leaving) := ⟨mt_4 (List.mem_of_getElem? (i := 75) rfl), mt_1 (List.mem_of_getElem? (i := 10) rfl), ⟨by decide, by decide⟩, by decide +kernel, by decide, rfl, (fun h => by cases h), rfl, Or.inr ⟨by decide, by decide, mt_4 (List.mem_of_getElem? (i := 73) rfl), Or.inr (mt_4 (List.mem_of_getElem? (i := 74) rfl)), _, _, rfl⟩, ckX4_leaving, by decide⟩
set_option maxRecDepth 100000 in
theorem mf_26 : MFr (yX4_pairSets, cX4_pairSets, 4, (some .int), 0, false) (6, 1, 11, kX4_pairSets) := ⟨mt_4 (List.mem_of_getElem? (i := 83) rfl), mt_1 (List.mem_of_getElem? (i := 10) rfl), ⟨by decide, by decide⟩, by decide +kernel, by decide, rfl, (fun h => by cases h), rfl, Or.inr ⟨by decide, by decide, mt_4 (List.mem_of_getElem? (i := 81) rfl), Or.inr (mt_4 (List.mem_of_getElem? (i := 82) rfl)), _, _, rfl⟩, ckX4_pairSets, by decide⟩
set_option maxRecDepth 100000 in
theorem mf_27 : MFr (yX4_pairsFrom, cX4_pairsFrom, 4, (some .long), 2, false) (8, 3, 11, kX4_pairsFrom) := ⟨mt_4 (List.mem_of_getElem? (i := 87) rfl), mt_1 (List.mem_of_getElem? (i := 10) rfl), ⟨by decide, by decide⟩, by decide +kernel, by decide, rfl, (fun h => by cases h), rfl, Or.inr ⟨by decide, by decide, mt_4 (List.mem_of_getElem? (i := 86) rfl), Or.inr (mt_s (List.mem_of_getElem? (i := 42) rfl)), _, _, rfl⟩, ckX4_pairsFrom, by decide⟩
set_option maxRecDepth 100000 in
theorem mf_28 : MFr (yX4_central, cX4_central, 4, (some .int), 1, false) (6, 1, 11, kX4_central) := ⟨mt_4 (List.mem_of_getElem? (i := 99) rfl), mt_1 (List.mem_of_getElem? (i := 10) rfl), ⟨by decide, by decide⟩, by decide +kernel, by decide, rfl, (fun h => by cases h), rfl, Or.inr ⟨by decide, by decide, mt_4 (List.mem_of_getElem? (i := 97) rfl), Or.inr (mt_4 (List.mem_of_getElem? (i := 98) rfl)), _, _, rfl⟩, ckX4_central, by decide⟩
set_option maxRecDepth 100000 in
theorem mf_29 : MFr (yX4_standBehind, cX4_standBehind, 4, (some .int), 3, false) (4, 1, 11, kX4_standBehind) := ⟨mt_4 (List.mem_of_getElem? (i := 120) rfl), mt_1 (List.mem_of_getElem? (i := 10) rfl), ⟨by decide, by decide⟩, by decide +kernel, by decide, rfl, (fun h => by cases h), rfl, Or.inr ⟨by decide, by decide, mt_4 (List.mem_of_getElem? (i := 118) rfl), Or.inr (mt_4 (List.mem_of_getElem? (i := 119) rfl)), _, _, rfl⟩, ckX4_standBehind, by decide⟩
set_option maxRecDepth 100000 in
theorem mf_30 : MFr (yX4_firstHolding, cX4_firstHolding, 4, (some .int), 4, false) (6, 1, 11, kX4_firstHolding) := ⟨mt_4 (List.mem_of_getElem? (i := 116) rfl), mt_1 (List.mem_of_getElem? (i := 10) rfl), ⟨by decide, by decide⟩, by decide +kernel, by decide, rfl, (fun h => by cases h), rfl, Or.inr ⟨by decide, by decide, mt_4 (List.mem_of_getElem? (i := 114) rfl), Or.inr (mt_4 (List.mem_of_getElem? (i := 115) rfl)), _, _, rfl⟩, ckX4_firstHolding, by decide⟩
set_option maxRecDepth 100000 in
theorem mf_31 : MFr (yX4_firstBringing, cX4_firstBringing, 4, (some .int), 2, false) (4, 1, 11, kX4_firstBringing) := ⟨mt_4 (List.mem_of_getElem? (i := 157) rfl), mt_1 (List.mem_of_getElem? (i := 10) rfl), ⟨by decide, by decide⟩, by decide +kernel, by decide, rfl, (fun h => by cases h), rfl, Or.inr ⟨by decide, by decide, mt_4 (List.mem_of_getElem? (i := 155) rfl), Or.inr (mt_4 (List.mem_of_getElem? (i := 156) rfl)), _, _, rfl⟩, ckX4_firstBringing, by decide⟩
set_option maxRecDepth 100000 in
theorem mf_32 : MFr (yX4_turnAt, cX4_turnAt, 4, (some .int), 2, false) (5, 1, 11, kX4_turnAt) := ⟨mt_4 (List.mem_of_getElem? (i := 137) rfl), mt_1 (List.mem_of_getElem? (i := 10) rfl), ⟨by decide, by decide⟩, by decide +kernel, by decide, rfl, (fun h => by cases h), rfl, Or.inr ⟨by decide, by decide, mt_4 (List.mem_of_getElem? (i := 135) rfl), Or.inr (mt_4 (List.mem_of_getElem? (i := 136) rfl)), _, _, rfl⟩, ckX4_turnAt, by decide⟩
set_option maxRecDepth 100000 in
theorem mf_33 : MFr (yX4_colourCount, cX4_colourCount, 4, (some .long), 1, false) (7, 3, 11, kX4_colourCount) := ⟨mt_4 (List.mem_of_getElem? (i := 173) rfl), mt_1 (List.mem_of_getElem? (i := 10) rfl), ⟨by decide, by decide⟩, by decide +kernel, by decide, rfl, (fun h => by cases h), rfl, Or.inr ⟨by decide, by decide, mt_4 (List.mem_of_getElem? (i := 171) rfl), Or.inr (mt_4 (List.mem_of_getElem? (i := 172) rfl)), _, _, rfl⟩, ckX4_colourCount, by decide⟩
set_option maxRecDepth 100000 in
theorem mf_34 : MFr (yX5_init, cX5_init, 5, none, 0, true) (1, 0, 12, kX5_init) := ⟨mt_1 (List.mem_of_getElem? (i := 142) rfl), mt_1 (List.mem_of_getElem? (i := 4) rfl), ⟨by decide, by decide⟩, by decide +kernel, by decide, rfl, fun _ => ⟨rfl, rfl⟩, rfl, Or.inr ⟨by decide, by decide, mt_1 (List.mem_of_getElem? (i := 141) rfl), Or.inl rfl, _, _, rfl⟩, ckX5_init, by decide⟩
set_option maxRecDepth 100000 in
theorem mf_35 : MFr (yX5_put, cX5_put, 5, none, 1, false) (3, 0, 12, kX5_put) := ⟨mt_2 (List.mem_of_getElem? (i := 126) rfl), mt_1 (List.mem_of_getElem? (i := 4) rfl), ⟨by decide, by decide⟩, by decide +kernel, by decide, rfl, (fun h => by cases h), rfl, Or.inr ⟨by decide, by decide, mt_2 (List.mem_of_getElem? (i := 124) rfl), Or.inr (mt_2 (List.mem_of_getElem? (i := 125) rfl)), _, _, rfl⟩, ckX5_put, by decide⟩
set_option maxRecDepth 100000 in
theorem mf_36 : MFr (yX5_read, cX5_read, 5, (some .boolean), 1, false) (4, 2, 12, kX5_read) := ⟨mt_2 (List.mem_of_getElem? (i := 138) rfl), mt_1 (List.mem_of_getElem? (i := 4) rfl), ⟨by decide, by decide⟩, by decide +kernel, by decide, rfl, (fun h => by cases h), rfl, Or.inr ⟨by decide, by decide, mt_2 (List.mem_of_getElem? (i := 136) rfl), Or.inr (mt_2 (List.mem_of_getElem? (i := 137) rfl)), _, _, rfl⟩, ckX5_read, by decide⟩
set_option maxRecDepth 100000 in
theorem mf_37 : MFr (yX5_failHere, cX5_failHere, 5, (some .boolean), 1, false) (2, 2, 12, kX5_failHere) := ⟨mt_2 (List.mem_of_getElem? (i := 171) rfl), mt_1 (List.mem_of_getElem? (i := 4) rfl), ⟨by decide, by decide⟩, by decide +kernel, by decide, rfl, (fun h => by cases h), rfl, Or.inr ⟨by decide, by decide, mt_2 (List.mem_of_getElem? (i := 170) rfl), Or.inr (mt_s (List.mem_of_getElem? (i := 6) rfl)), _, _, rfl⟩, ckX5_failHere, by decide⟩
set_option maxRecDepth 100000 in
theorem mf_38 : MFr (yX5_step, cX5_step, 5, none, 0, false) (1, 0, 12, kX5_step) := ⟨mt_2 (List.mem_of_getElem? (i := 149) rfl), mt_1 (List.mem_of_getElem? (i := 4) rfl), ⟨by decide, by decide⟩, by decide +kernel, by decide, rfl, (fun h => by cases h), rfl, Or.inr ⟨by decide, by decide, mt_2 (List.mem_of_getElem? (i := 148) rfl), Or.inr (mt_s (List.mem_of_getElem? (i := 1) rfl)), _, _, rfl⟩, ckX5_step, by decide⟩
set_option maxRecDepth 100000 in
theorem mf_39 : MFr (yX5_takeWord, cX5_takeWord, 5, none, 0, false) (1, 0, 12, kX5_takeWord) := ⟨mt_2 (List.mem_of_getElem? (i := 153) rfl), mt_1 (List.mem_of_getElem? (i := 4) rfl), ⟨by decide, by decide⟩, by decide +kernel, by decide, rfl, (fun h => by cases h), rfl, Or.inr ⟨by decide, by decide, mt_2 (List.mem_of_getElem? (i := 152) rfl), Or.inr (mt_s (List.mem_of_getElem? (i := 2) rfl)), _, _, rfl⟩, ckX5_takeWord, by decide⟩
set_option maxRecDepth 100000 in
theorem mf_40 : MFr (yX5_takeWhole, cX5_takeWhole, 5, none, 0, false) (1, 0, 12, kX5_takeWhole) := ⟨mt_2 (List.mem_of_getElem? (i := 157) rfl), mt_1 (List.mem_of_getElem? (i := 4) rfl), ⟨by decide, by decide⟩, by decide +kernel, by decide, rfl, (fun h => by cases h), rfl, Or.inr ⟨by decide, by decide, mt_2 (List.mem_of_getElem? (i := 156) rfl), Or.inr (mt_s (List.mem_of_getElem? (i := 3) rfl)), _, _, rfl⟩, ckX5_takeWhole, by decide⟩
set_option maxRecDepth 100000 in
theorem mf_41 : MFr (yX5_coded, cX5_coded, 5, (some .long), 1, false) (4, 3, 0, kX5_coded) := ⟨mt_1 (List.mem_of_getElem? (i := 147) rfl), mt_1 (List.mem_of_getElem? (i := 4) rfl), ⟨by decide, by decide⟩, by decide +kernel, by decide, rfl, (fun h => by cases h), rfl, Or.inl ⟨rfl, mt_1 (List.mem_of_getElem? (i := 146) rfl)⟩, ckX5_coded, by decide⟩
set_option maxRecDepth 100000 in
theorem mf_42 : MFr (yX5_isWord, cX5_isWord, 5, (some .boolean), 1, false) (2, 2, 12, kX5_isWord) := ⟨mt_2 (List.mem_of_getElem? (i := 192) rfl), mt_1 (List.mem_of_getElem? (i := 4) rfl), ⟨by decide, by decide⟩, by decide +kernel, by decide, rfl, (fun h => by cases h), rfl, Or.inr ⟨by decide, by decide, mt_2 (List.mem_of_getElem? (i := 191) rfl), Or.inr (mt_s (List.mem_of_getElem? (i := 10) rfl)), _, _, rfl⟩, ckX5_isWord, by decide⟩
set_option maxRecDepth 100000 in
theorem mf_43 : MFr (yX5_lineSort, cX5_lineSort, 5, (some .int), 0, false) (2, 1, 12, kX5_lineSort) := ⟨mt_2 (List.mem_of_getElem? (i := 167) rfl), mt_1 (List.mem_of_getElem? (i := 4) rfl), ⟨by decide, by decide⟩, by decide +kernel, by decide, rfl, (fun h => by cases h), rfl, Or.inr ⟨by decide, by decide, mt_2 (List.mem_of_getElem? (i := 166) rfl), Or.inr (mt_s (List.mem_of_getElem? (i := 5) rfl)), _, _, rfl⟩, ckX5_lineSort, by decide⟩
set_option maxRecDepth 100000 in
theorem mf_44 : MFr (yX5_takeLine, cX5_takeLine, 5, (some .boolean), 0, false) (2, 2, 12, kX5_takeLine) := ⟨mt_2 (List.mem_of_getElem? (i := 163) rfl), mt_1 (List.mem_of_getElem? (i := 4) rfl), ⟨by decide, by decide⟩, by decide +kernel, by decide, rfl, (fun h => by cases h), rfl, Or.inr ⟨by decide, by decide, mt_2 (List.mem_of_getElem? (i := 162) rfl), Or.inr (mt_s (List.mem_of_getElem? (i := 4) rfl)), _, _, rfl⟩, ckX5_takeLine, by decide⟩
set_option maxRecDepth 100000 in
theorem mf_45 : MFr (yX5_isFull, cX5_isFull, 5, (some .boolean), 1, false) (2, 2, 12, kX5_isFull) := ⟨mt_2 (List.mem_of_getElem? (i := 175) rfl), mt_1 (List.mem_of_getElem? (i := 4) rfl), ⟨by decide, by decide⟩, by decide +kernel, by decide, rfl, (fun h => by cases h), rfl, Or.inr ⟨by decide, by decide, mt_2 (List.mem_of_getElem? (i := 174) rfl), Or.inr (mt_s (List.mem_of_getElem? (i := 7) rfl)), _, _, rfl⟩, ckX5_isFull, by decide⟩
set_option maxRecDepth 100000 in
theorem mf_46 : MFr (yX5_goesOn, cX5_goesOn, 5, (some .boolean), 0, false) (1, 2, 12, kX5_goesOn) := ⟨mt_3 (List.mem_of_getElem? (i := 48) rfl), mt_1 (List.mem_of_getElem? (i := 4) rfl), ⟨by decide, by decide⟩, by decide +kernel, by decide, rfl, (fun h => by cases h), rfl, Or.inr ⟨by decide, by decide, mt_3 (List.mem_of_getElem? (i := 47) rfl), Or.inr (mt_s (List.mem_of_getElem? (i := 24) rfl)), _, _, rfl⟩, ckX5_goesOn, by decide⟩
set_option maxRecDepth 100000 in
theorem mf_47 : MFr (yX5_takeTube, cX5_takeTube, 5, (some .boolean), 0, false) (4, 2, 12, kX5_takeTube) := ⟨mt_2 (List.mem_of_getElem? (i := 183) rfl), mt_1 (List.mem_of_getElem? (i := 4) rfl), ⟨by decide, by decide⟩, by decide +kernel, by decide, rfl, (fun h => by cases h), rfl, Or.inr ⟨by decide, by decide, mt_2 (List.mem_of_getElem? (i := 182) rfl), Or.inr (mt_s (List.mem_of_getElem? (i := 8) rfl)), _, _, rfl⟩, ckX5_takeTube, by decide⟩
set_option maxRecDepth 100000 in
theorem mf_48 : MFr (yX5_takePerson, cX5_takePerson, 5, (some .boolean), 0, false) (2, 2, 12, kX5_takePerson) := ⟨mt_2 (List.mem_of_getElem? (i := 206) rfl), mt_1 (List.mem_of_getElem? (i := 4) rfl), ⟨by decide, by decide⟩, by decide +kernel, by decide, rfl, (fun h => by cases h), rfl, Or.inr ⟨by decide, by decide, mt_2 (List.mem_of_getElem? (i := 205) rfl), Or.inr (mt_s (List.mem_of_getElem? (i := 13) rfl)), _, _, rfl⟩, ckX5_takePerson, by decide⟩
set_option maxRecDepth 100000 in
theorem mf_49 : MFr (yX5_takeTurn, cX5_takeTurn, 5, (some .boolean), 0, false) (5, 2, 12, kX5_takeTurn) := ⟨mt_2 (List.mem_of_getElem? (i := 230) rfl), mt_1 (List.mem_of_getElem? (i := 4) rfl), ⟨by decide, by decide⟩, by decide +kernel, by decide, rfl, (fun h => by cases h), rfl, Or.inr ⟨by decide, by decide, mt_2 (List.mem_of_getElem? (i := 229) rfl), Or.inr (mt_s (List.mem_of_getElem? (i := 16) rfl)), _, _, rfl⟩, ckX5_takeTurn, by decide⟩
set_option maxRecDepth 100000 in
theorem mf_50 : MFr (yX5_takeQuarrel, cX5_takeQuarrel, 5, (some .boolean), 0, false) (3, 2, 12, kX5_takeQuarrel) := ⟨mt_3 (List.mem_of_getElem? (i := 1) rfl), mt_1 (List.mem_of_getElem? (i := 4) rfl), ⟨by decide, by decide⟩, by decide +kernel, by decide, rfl, (fun h => by cases h), rfl, Or.inr ⟨by decide, by decide, mt_3 (List.mem_of_getElem? (i := 0) rfl), Or.inr (mt_s (List.mem_of_getElem? (i := 17) rfl)), _, _, rfl⟩, ckX5_takeQuarrel, by decide⟩
set_option maxRecDepth 100000 in
theorem mf_51 : MFr (yX5_takeWish, cX5_takeWish, 5, (some .boolean), 1, false) (4, 2, 12, kX5_takeWish) := ⟨mt_3 (List.mem_of_getElem? (i := 44) rfl), mt_1 (List.mem_of_getElem? (i := 4) rfl), ⟨by decide, by decide⟩, by decide +kernel, by decide, rfl, (fun h => by cases h), rfl, Or.inr ⟨by decide, by decide, mt_3 (List.mem_of_getElem? (i := 43) rfl), Or.inr (mt_s (List.mem_of_getElem? (i := 23) rfl)), _, _, rfl⟩, ckX5_takeWish, by decide⟩
set_option maxRecDepth 100000 in
theorem mf_52 : MFr (yX5_takeUnsure, cX5_takeUnsure, 5, (some .boolean), 0, false) (3, 2, 12, kX5_takeUnsure) := ⟨mt_3 (List.mem_of_getElem? (i := 22) rfl), mt_1 (List.mem_of_getElem? (i := 4) rfl), ⟨by decide, by decide⟩, by decide +kernel, by decide, rfl, (fun h => by cases h), rfl, Or.inr ⟨by decide, by decide, mt_3 (List.mem_of_getElem? (i := 21) rfl), Or.inr (mt_s (List.mem_of_getElem? (i := 20) rfl)), _, _, rfl⟩, ckX5_takeUnsure, by decide⟩
set_option maxRecDepth 100000 in
theorem mf_53 : MFr (yX5_takeSeen, cX5_takeSeen, 5, (some .boolean), 0, false) (4, 2, 12, kX5_takeSeen) := ⟨mt_3 (List.mem_of_getElem? (i := 34) rfl), mt_1 (List.mem_of_getElem? (i := 4) rfl), ⟨by decide, by decide⟩, by decide +kernel, by decide, rfl, (fun h => by cases h), rfl, Or.inr ⟨by decide, by decide, mt_3 (List.mem_of_getElem? (i := 33) rfl), Or.inr (mt_s (List.mem_of_getElem? (i := 21) rfl)), _, _, rfl⟩, ckX5_takeSeen, by decide⟩
set_option maxRecDepth 100000 in
theorem mf_54 : MFr (yX5_takeThis, cX5_takeThis, 5, (some .boolean), 1, false) (2, 2, 12, kX5_takeThis) := ⟨mt_2 (List.mem_of_getElem? (i := 188) rfl), mt_1 (List.mem_of_getElem? (i := 4) rfl), ⟨by decide, by decide⟩, by decide +kernel, by decide, rfl, (fun h => by cases h), rfl, Or.inr ⟨by decide, by decide, mt_2 (List.mem_of_getElem? (i := 187) rfl), Or.inr (mt_s (List.mem_of_getElem? (i := 9) rfl)), _, _, rfl⟩, ckX5_takeThis, by decide⟩
set_option maxRecDepth 100000 in
theorem mf_55 : MFr (yX5_isBetween, cX5_isBetween, 5, (some .boolean), 2, false) (3, 2, 12, kX5_isBetween) := ⟨mt_2 (List.mem_of_getElem? (i := 200) rfl), mt_1 (List.mem_of_getElem? (i := 4) rfl), ⟨by decide, by decide⟩, by decide +kernel, by decide, rfl, (fun h => by cases h), rfl, Or.inr ⟨by decide, by decide, mt_2 (List.mem_of_getElem? (i := 199) rfl), Or.inr (mt_s (List.mem_of_getElem? (i := 12) rfl)), _, _, rfl⟩, ckX5_isBetween, by decide⟩
set_option maxRecDepth 100000 in
theorem mf_56 : MFr (yX5_takeBetween, cX5_takeBetween, 5, (some .int), 2, false) (4, 1, 12, kX5_takeBetween) := ⟨mt_2 (List.mem_of_getElem? (i := 196) rfl), mt_1 (List.mem_of_getElem? (i := 4) rfl), ⟨by decide, by decide⟩, by decide +kernel, by decide, rfl, (fun h => by cases h), rfl, Or.inr ⟨by decide, by decide, mt_2 (List.mem_of_getElem? (i := 195) rfl), Or.inr (mt_s (List.mem_of_getElem? (i := 11) rfl)), _, _, rfl⟩, ckX5_takeBetween, by decide⟩
set_option maxRecDepth 100000 in
theorem mf_57 : MFr (yX5_nameHere, cX5_nameHere, 5, (some .int), 0, false) (2, 1, 12, kX5_nameHere) := ⟨mt_2 (List.mem_of_getElem? (i := 214) rfl), mt_1 (List.mem_of_getElem? (i := 4) rfl), ⟨by decide, by decide⟩, by decide +kernel, by decide, rfl, (fun h => by cases h), rfl, Or.inr ⟨by decide, by decide, mt_2 (List.mem_of_getElem? (i := 213) rfl), Or.inr (mt_s (List.mem_of_getElem? (i := 15) rfl)), _, _, rfl⟩, ckX5_nameHere, by decide⟩
set_option maxRecDepth 100000 in
theorem mf_58 : MFr (yX5_takeNewName, cX5_takeNewName, 5, (some .boolean), 1, false) (2, 2, 12, kX5_takeNewName) := ⟨mt_2 (List.mem_of_getElem? (i := 210) rfl), mt_1 (List.mem_of_getElem? (i := 4) rfl), ⟨by decide, by decide⟩, by decide +kernel, by decide, rfl, (fun h => by cases h), rfl, Or.inr ⟨by decide, by decide, mt_2 (List.mem_of_getElem? (i := 209) rfl), Or.inr (mt_s (List.mem_of_getElem? (i := 14) rfl)), _, _, rfl⟩, ckX5_takeNewName, by decide⟩
set_option maxRecDepth 100000 in
theorem mf_59 : MFr (yX5_personHere, cX5_personHere, 5, (some .int), 0, false) (3, 1, 12, kX5_personHere) := ⟨mt_3 (List.mem_of_getElem? (i := 9) rfl), mt_1 (List.mem_of_getElem? (i := 4) rfl), ⟨by decide, by decide⟩, by decide +kernel, by decide, rfl, (fun h => by cases h), rfl, Or.inr ⟨by decide, by decide, mt_3 (List.mem_of_getElem? (i := 8) rfl), Or.inr (mt_s (List.mem_of_getElem? (i := 19) rfl)), _, _, rfl⟩, ckX5_personHere, by decide⟩
set_option maxRecDepth 100000 in
theorem mf_60 : MFr (yX5_takePersonsName, cX5_takePersonsName, 5, (some .int), 0, false) (2, 1, 12, kX5_takePersonsName) := ⟨mt_3 (List.mem_of_getElem? (i := 5) rfl), mt_1 (List.mem_of_getElem? (i := 4) rfl), ⟨by decide, by decide⟩, by decide +kernel, by decide, rfl, (fun h => by cases h), rfl, Or.inr ⟨by decide, by decide, mt_3 (List.mem_of_getElem? (i := 4) rfl), Or.inr (mt_s (List.mem_of_getElem? (i := 18) rfl)), _, _, rfl⟩, ckX5_takePersonsName, by decide⟩
set_option maxRecDepth 100000 in
theorem mf_61 : MFr (yX5_takeAnother, cX5_takeAnother, 5, (some .int), 1, false) (3, 1, 12, kX5_takeAnother) := ⟨mt_3 (List.mem_of_getElem? (i := 38) rfl), mt_1 (List.mem_of_getElem? (i := 4) rfl), ⟨by decide, by decide⟩, by decide +kernel, by decide, rfl, (fun h => by cases h), rfl, Or.inr ⟨by decide, by decide, mt_3 (List.mem_of_getElem? (i := 37) rfl), Or.inr (mt_s (List.mem_of_getElem? (i := 22) rfl)), _, _, rfl⟩, ckX5_takeAnother, by decide⟩
set_option maxRecDepth 100000 in
theorem mf_62 : MFr (yX6_init, cX6_init, 6, none, 0, true) (1, 0, 13, kX6_init) := ⟨mt_2 (List.mem_of_getElem? (i := 81) rfl), mt_1 (List.mem_of_getElem? (i := 11) rfl), ⟨by decide, by decide⟩, by decide +kernel, by decide, rfl, fun _ => ⟨rfl, rfl⟩, rfl, Or.inr ⟨by decide, by decide, mt_2 (List.mem_of_getElem? (i := 80) rfl), Or.inl rfl, _, _, rfl⟩, ckX6_init, by decide⟩
set_option maxRecDepth 100000 in
theorem mf_63 : MFr (yX6_spread, cX6_spread, 6, none, 4, false) (6, 0, 13, kX6_spread) := ⟨mt_5 (List.mem_of_getElem? (i := 88) rfl), mt_1 (List.mem_of_getElem? (i := 11) rfl), ⟨by decide, by decide⟩, by decide +kernel, by decide, rfl, (fun h => by cases h), rfl, Or.inr ⟨by decide, by decide, mt_5 (List.mem_of_getElem? (i := 86) rfl), Or.inr (mt_5 (List.mem_of_getElem? (i := 87) rfl)), _, _, rfl⟩, ckX6_spread, by decide⟩
set_option maxRecDepth 100000 in
theorem mf_64 : MFr (yX6_state, cX6_state, 6, (some .int), 2, false) (2, 1, 0, kX6_state) := ⟨mt_5 (List.mem_of_getElem? (i := 91) rfl), mt_1 (List.mem_of_getElem? (i := 11) rfl), ⟨by decide, by decide⟩, by decide +kernel, by decide, rfl, (fun h => by cases h), rfl, Or.inl ⟨rfl, mt_5 (List.mem_of_getElem? (i := 90) rfl)⟩, ckX6_state, by decide⟩
set_option maxRecDepth 100000 in
theorem mf_65 : MFr (yX6_shakeOnce, cX6_shakeOnce, 6, none, 1, false) (8, 0, 13, kX6_shakeOnce) := ⟨mt_5 (List.mem_of_getElem? (i := 95) rfl), mt_1 (List.mem_of_getElem? (i := 11) rfl), ⟨by decide, by decide⟩, by decide +kernel, by decide, rfl, (fun h => by cases h), rfl, Or.inr ⟨by decide, by decide, mt_5 (List.mem_of_getElem? (i := 94) rfl), Or.inr (mt_s (List.mem_of_getElem? (i := 51) rfl)), _, _, rfl⟩, ckX6_shakeOnce, by decide⟩
set_option maxRecDepth 100000 in
theorem mf_66 : MFr (yX6_besideWeight, cX6_besideWeight, 6, (some .long), 0, false) (4, 3, 13, kX6_besideWeight) := ⟨mt_5 (List.mem_of_getElem? (i := 103) rfl), mt_1 (List.mem_of_getElem? (i := 11) rfl), ⟨by decide, by decide⟩, by decide +kernel, by decide, rfl, (fun h => by cases h), rfl, Or.inr ⟨by decide, by decide, mt_5 (List.mem_of_getElem? (i := 101) rfl), Or.inr (mt_5 (List.mem_of_getElem? (i := 102) rfl)), _, _, rfl⟩, ckX6_besideWeight, by decide⟩
set_option maxRecDepth 100000 in
theorem mf_67 : MFr (yX6_weightIn, cX6_weightIn, 6, (some .long), 1, false) (2, 3, 13, kX6_weightIn) := ⟨mt_5 (List.mem_of_getElem? (i := 118) rfl), mt_1 (List.mem_of_getElem? (i := 11) rfl), ⟨by decide, by decide⟩, by decide +kernel, by decide, rfl, (fun h => by cases h), rfl, Or.inr ⟨by decide, by decide, mt_5 (List.mem_of_getElem? (i := 116) rfl), Or.inr (mt_5 (List.mem_of_getElem? (i := 117) rfl)), _, _, rfl⟩, ckX6_weightIn, by decide⟩
set_option maxRecDepth 100000 in
theorem mf_68 : MFr (yX6_draw, cX6_draw, 6, (some .int), 0, false) (1, 1, 13, kX6_draw) := ⟨mt_5 (List.mem_of_getElem? (i := 138) rfl), mt_1 (List.mem_of_getElem? (i := 11) rfl), ⟨by decide, by decide⟩, by decide +kernel, by decide, rfl, (fun h => by cases h), rfl, Or.inr ⟨by decide, by decide, mt_5 (List.mem_of_getElem? (i := 137) rfl), Or.inr (mt_s (List.mem_of_getElem? (i := 52) rfl)), _, _, rfl⟩, ckX6_draw, by decide⟩
set_option maxRecDepth 100000 in
theorem mf_69 : MFr (yX6_drawnShake, cX6_drawnShake, 6, (some .int), 2, false) (3, 1, 13, kX6_drawnShake) := ⟨mt_5 (List.mem_of_getElem? (i := 134) rfl), mt_1 (List.mem_of_getElem? (i := 11) rfl), ⟨by decide, by decide⟩, by decide +kernel, by decide, rfl, (fun h => by cases h), rfl, Or.inr ⟨by decide, by decide, mt_5 (List.mem_of_getElem? (i := 132) rfl), Or.inr (mt_5 (List.mem_of_getElem? (i := 133) rfl)), _, _, rfl⟩, ckX6_drawnShake, by decide⟩
set_option maxRecDepth 100000 in
theorem mf_70 : MFr (yX7_at, cX7_at, 7, (some .int), 2, false) (2, 1, 0, kX7_at) := ⟨mt_3 (List.mem_of_getElem? (i := 87) rfl), mt_1 (List.mem_of_getElem? (i := 14) rfl), ⟨by decide, by decide⟩, by decide +kernel, by decide, rfl, (fun h => by cases h), rfl, Or.inl ⟨rfl, mt_3 (List.mem_of_getElem? (i := 86) rfl)⟩, ckX7_at, by decide⟩
set_option maxRecDepth 100000 in
theorem mf_71 : MFr (yX7_with, cX7_with, 7, (some .int), 3, false) (3, 1, 0, kX7_with) := ⟨mt_2 (List.mem_of_getElem? (i := 233) rfl), mt_1 (List.mem_of_getElem? (i := 14) rfl), ⟨by decide, by decide⟩, by decide +kernel, by decide, rfl, (fun h => by cases h), rfl, Or.inl ⟨rfl, mt_2 (List.mem_of_getElem? (i := 232) rfl)⟩, ckX7_with, by decide⟩
set_option maxRecDepth 100000 in
theorem mf_72 : MFr (yX7_areBeside, cX7_areBeside, 7, (some .boolean), 2, false) (2, 2, 0, kX7_areBeside) := ⟨mt_3 (List.mem_of_getElem? (i := 94) rfl), mt_1 (List.mem_of_getElem? (i := 14) rfl), ⟨by decide, by decide⟩, by decide +kernel, by decide, rfl, (fun h => by cases h), rfl, Or.inl ⟨rfl, mt_3 (List.mem_of_getElem? (i := 93) rfl)⟩, ckX7_areBeside, by decide⟩
set_option maxRecDepth 100000 in
theorem mf_73 : MFr (yX7_same, cX7_same, 7, (some .int), 1, false) (1, 1, 0, kX7_same) := ⟨mt_3 (List.mem_of_getElem? (i := 206) rfl), mt_1 (List.mem_of_getElem? (i := 14) rfl), ⟨by decide, by decide⟩, by decide +kernel, by decide, rfl, (fun h => by cases h), rfl, Or.inl ⟨rfl, mt_3 (List.mem_of_getElem? (i := 205) rfl)⟩, ckX7_same, by decide⟩
set_option maxRecDepth 100000 in
theorem mf_74 : MFr (yX7_otherWayRound, cX7_otherWayRound, 7, (some .int), 1, false) (3, 1, 0, kX7_otherWayRound) := ⟨mt_4 (List.mem_of_getElem? (i := 29) rfl), mt_1 (List.mem_of_getElem? (i := 14) rfl), ⟨by decide, by decide⟩, by decide +kernel, by decide, rfl, (fun h => by cases h), rfl, Or.inl ⟨rfl, mt_4 (List.mem_of_getElem? (i := 28) rfl)⟩, ckX7_otherWayRound, by decide⟩
set_option maxRecDepth 100000 in
theorem mf_75 : MFr (yX7_through, cX7_through, 7, (some .int), 3, false) (5, 1, 0, kX7_through) := ⟨mt_3 (List.mem_of_getElem? (i := 210) rfl), mt_1 (List.mem_of_getElem? (i := 14) rfl), ⟨by decide, by decide⟩, by decide +kernel, by decide, rfl, (fun h => by cases h), rfl, Or.inl ⟨rfl, mt_3 (List.mem_of_getElem? (i := 209) rfl)⟩, ckX7_through, by decide⟩
set_option maxRecDepth 100000 in
theorem mf_76 : MFr (yX7_inverse, cX7_inverse, 7, (some .int), 2, false) (4, 1, 0, kX7_inverse) := ⟨mt_4 (List.mem_of_getElem? (i := 33) rfl), mt_1 (List.mem_of_getElem? (i := 14) rfl), ⟨by decide, by decide⟩, by decide +kernel, by decide, rfl, (fun h => by cases h), rfl, Or.inl ⟨rfl, mt_4 (List.mem_of_getElem? (i := 32) rfl)⟩, ckX7_inverse, by decide⟩
set_option maxRecDepth 100000 in
theorem mf_77 : MFr (yX7_commuting, cX7_commuting, 7, (some .boolean), 3, false) (3, 2, 0, kX7_commuting) := ⟨mt_4 (List.mem_of_getElem? (i := 4) rfl), mt_1 (List.mem_of_getElem? (i := 14) rfl), ⟨by decide, by decide⟩, by decide +kernel, by decide, rfl, (fun h => by cases h), rfl, Or.inl ⟨rfl, mt_4 (List.mem_of_getElem? (i := 3) rfl)⟩, ckX7_commuting, by decide⟩
set_option maxRecDepth 100000 in
theorem mf_78 : MFr (yX7_fixed, cX7_fixed, 7, (some .int), 2, false) (4, 1, 0, kX7_fixed) := ⟨mt_3 (List.mem_of_getElem? (i := 237) rfl), mt_1 (List.mem_of_getElem? (i := 14) rfl), ⟨by decide, by decide⟩, by decide +kernel, by decide, rfl, (fun h => by cases h), rfl, Or.inl ⟨rfl, mt_3 (List.mem_of_getElem? (i := 236) rfl)⟩, ckX7_fixed, by decide⟩
set_option maxRecDepth 100000 in
theorem mf_79 : MFr (yX7_cycles, cX7_cycles, 7, (some .int), 2, false) (7, 1, 0, kX7_cycles) := ⟨mt_3 (List.mem_of_getElem? (i := 227) rfl), mt_1 (List.mem_of_getElem? (i := 14) rfl), ⟨by decide, by decide⟩, by decide +kernel, by decide, rfl, (fun h => by cases h), rfl, Or.inl ⟨rfl, mt_3 (List.mem_of_getElem? (i := 226) rfl)⟩, ckX7_cycles, by decide⟩
set_option maxRecDepth 100000 in
theorem mf_80 : MFr (yX7_isEven, cX7_isEven, 7, (some .boolean), 2, false) (2, 2, 0, kX7_isEven) := ⟨mt_3 (List.mem_of_getElem? (i := 230) rfl), mt_1 (List.mem_of_getElem? (i := 14) rfl), ⟨by decide, by decide⟩, by decide +kernel, by decide, rfl, (fun h => by cases h), rfl, Or.inl ⟨rfl, mt_3 (List.mem_of_getElem? (i := 229) rfl)⟩, ckX7_isEven, by decide⟩
set_option maxRecDepth 100000 in
theorem mf_81 : MFr (yX7_order, cX7_order, 7, (some .int), 2, false) (5, 1, 0, kX7_order) := ⟨mt_3 (List.mem_of_getElem? (i := 218) rfl), mt_1 (List.mem_of_getElem? (i := 14) rfl), ⟨by decide, by decide⟩, by decide +kernel, by decide, rfl, (fun h => by cases h), rfl, Or.inl ⟨rfl, mt_3 (List.mem_of_getElem? (i := 217) rfl)⟩, ckX7_order, by decide⟩
set_option maxRecDepth 100000 in
theorem mf_82 : MFr (yX7_rank, cX7_rank, 7, (some .int), 2, false) (7, 1, 0, kX7_rank) := ⟨mt_4 (List.mem_of_getElem? (i := 24) rfl), mt_1 (List.mem_of_getElem? (i := 14) rfl), ⟨by decide, by decide⟩, by decide +kernel, by decide, rfl, (fun h => by cases h), rfl, Or.inl ⟨rfl, mt_4 (List.mem_of_getElem? (i := 23) rfl)⟩, ckX7_rank, by decide⟩
set_option maxRecDepth 100000 in
theorem mf_83 : MFr (yX8_init, cX8_init, 8, none, 0, true) (1, 0, 14, kX8_init) := ⟨mt_2 (List.mem_of_getElem? (i := 19) rfl), mt_1 (List.mem_of_getElem? (i := 9) rfl), ⟨by decide, by decide⟩, by decide +kernel, by decide, rfl, fun _ => ⟨rfl, rfl⟩, rfl, Or.inr ⟨by decide, by decide, mt_2 (List.mem_of_getElem? (i := 18) rfl), Or.inl rfl, _, _, rfl⟩, ckX8_init, by decide⟩
set_option maxRecDepth 100000 in
theorem mf_84 : MFr (yX8_begin, cX8_begin, 8, none, 1, false) (2, 0, 14, kX8_begin) := ⟨mt_3 (List.mem_of_getElem? (i := 60) rfl), mt_1 (List.mem_of_getElem? (i := 9) rfl), ⟨by decide, by decide⟩, by decide +kernel, by decide, rfl, (fun h => by cases h), rfl, Or.inr ⟨by decide, by decide, mt_3 (List.mem_of_getElem? (i := 58) rfl), Or.inr (mt_3 (List.mem_of_getElem? (i := 59) rfl)), _, _, rfl⟩, ckX8_begin, by decide⟩
set_option maxRecDepth 100000 in
theorem mf_85 : MFr (yX8_act, cX8_act, 8, none, 1, false) (2, 0, 14, kX8_act) := ⟨mt_5 (List.mem_of_getElem? (i := 157) rfl), mt_1 (List.mem_of_getElem? (i := 9) rfl), ⟨by decide, by decide⟩, by decide +kernel, by decide, rfl, (fun h => by cases h), rfl, Or.inr ⟨by decide, by decide, mt_5 (List.mem_of_getElem? (i := 155) rfl), Or.inr (mt_5 (List.mem_of_getElem? (i := 156) rfl)), _, _, rfl⟩, ckX8_act, by decide⟩
set_option maxRecDepth 100000 in
theorem mf_86 : MFr (yX8_takeBack, cX8_takeBack, 8, none, 0, false) (1, 0, 14, kX8_takeBack) := ⟨mt_5 (List.mem_of_getElem? (i := 175) rfl), mt_1 (List.mem_of_getElem? (i := 9) rfl), ⟨by decide, by decide⟩, by decide +kernel, by decide, rfl, (fun h => by cases h), rfl, Or.inr ⟨by decide, by decide, mt_5 (List.mem_of_getElem? (i := 173) rfl), Or.inr (mt_5 (List.mem_of_getElem? (i := 174) rfl)), _, _, rfl⟩, ckX8_takeBack, by decide⟩
set_option maxRecDepth 100000 in
theorem mf_87 : MFr (yX8_keepImage, cX8_keepImage, 8, (some .int), 0, false) (1, 1, 14, kX8_keepImage) := ⟨mt_5 (List.mem_of_getElem? (i := 183) rfl), mt_1 (List.mem_of_getElem? (i := 9) rfl), ⟨by decide, by decide⟩, by decide +kernel, by decide, rfl, (fun h => by cases h), rfl, Or.inr ⟨by decide, by decide, mt_5 (List.mem_of_getElem? (i := 181) rfl), Or.inr (mt_5 (List.mem_of_getElem? (i := 182) rfl)), _, _, rfl⟩, ckX8_keepImage, by decide⟩
set_option maxRecDepth 100000 in
theorem mf_88 : MFr (yX8_goBack, cX8_goBack, 8, none, 1, false) (2, 0, 14, kX8_goBack) := ⟨mt_5 (List.mem_of_getElem? (i := 191) rfl), mt_1 (List.mem_of_getElem? (i := 9) rfl), ⟨by decide, by decide⟩, by decide +kernel, by decide, rfl, (fun h => by cases h), rfl, Or.inr ⟨by decide, by decide, mt_5 (List.mem_of_getElem? (i := 189) rfl), Or.inr (mt_5 (List.mem_of_getElem? (i := 190) rfl)), _, _, rfl⟩, ckX8_goBack, by decide⟩
set_option maxRecDepth 100000 in
theorem mf_89 : MFr (yX9_init, cX9_init, 9, none, 0, true) (1, 0, 15, kX9_init) := ⟨mt_1 (List.mem_of_getElem? (i := 37) rfl), mt_1 (List.mem_of_getElem? (i := 2) rfl), ⟨by decide, by decide⟩, by decide +kernel, by decide, rfl, fun _ => ⟨rfl, rfl⟩, rfl, Or.inr ⟨by decide, by decide, mt_1 (List.mem_of_getElem? (i := 36) rfl), Or.inl rfl, _, _, rfl⟩, ckX9_init, by decide⟩
set_option maxRecDepth 100000 in
theorem mf_90 : MFr (yX9_clear, cX9_clear, 9, none, 0, false) (1, 0, 15, kX9_clear) := ⟨mt_2 (List.mem_of_getElem? (i := 145) rfl), mt_1 (List.mem_of_getElem? (i := 2) rfl), ⟨by decide, by decide⟩, by decide +kernel, by decide, rfl, (fun h => by cases h), rfl, Or.inr ⟨by decide, by decide, mt_2 (List.mem_of_getElem? (i := 143) rfl), Or.inr (mt_2 (List.mem_of_getElem? (i := 144) rfl)), _, _, rfl⟩, ckX9_clear, by decide⟩
set_option maxRecDepth 100000 in
theorem mf_91 : MFr (yX9_isHome, cX9_isHome, 9, (some .boolean), 1, false) (3, 2, 15, kX9_isHome) := ⟨mt_2 (List.mem_of_getElem? (i := 222) rfl), mt_1 (List.mem_of_getElem? (i := 2) rfl), ⟨by decide, by decide⟩, by decide +kernel, by decide, rfl, (fun h => by cases h), rfl, Or.inr ⟨by decide, by decide, mt_2 (List.mem_of_getElem? (i := 220) rfl), Or.inr (mt_2 (List.mem_of_getElem? (i := 221) rfl)), _, _, rfl⟩, ckX9_isHome, by decide⟩
set_option maxRecDepth 100000 in
theorem mf_92 : MFr (yX9_isUnsure, cX9_isUnsure, 9, (some .boolean), 1, false) (3, 2, 15, kX9_isUnsure) := ⟨mt_3 (List.mem_of_getElem? (i := 26) rfl), mt_1 (List.mem_of_getElem? (i := 2) rfl), ⟨by decide, by decide⟩, by decide +kernel, by decide, rfl, (fun h => by cases h), rfl, Or.inr ⟨by decide, by decide, mt_3 (List.mem_of_getElem? (i := 24) rfl), Or.inr (mt_3 (List.mem_of_getElem? (i := 25) rfl)), _, _, rfl⟩, ckX9_isUnsure, by decide⟩
set_option maxRecDepth 100000 in
theorem mf_93 : MFr (yX9_homeStand, cX9_homeStand, 9, (some .int), 0, false) (3, 1, 15, kX9_homeStand) := ⟨mt_3 (List.mem_of_getElem? (i := 56) rfl), mt_1 (List.mem_of_getElem? (i := 2) rfl), ⟨by decide, by decide⟩, by decide +kernel, by decide, rfl, (fun h => by cases h), rfl, Or.inr ⟨by decide, by decide, mt_3 (List.mem_of_getElem? (i := 54) rfl), Or.inr (mt_3 (List.mem_of_getElem? (i := 55) rfl)), _, _, rfl⟩, ckX9_homeStand, by decide⟩
set_option maxRecDepth 100000 in
theorem mf_94 : MFr (yX9_changeBy, cX9_changeBy, 9, (some .int), 2, false) (7, 1, 15, kX9_changeBy) := ⟨mt_3 (List.mem_of_getElem? (i := 203) rfl), mt_1 (List.mem_of_getElem? (i := 2) rfl), ⟨by decide, by decide⟩, by decide +kernel, by decide, rfl, (fun h => by cases h), rfl, Or.inr ⟨by decide, by decide, mt_3 (List.mem_of_getElem? (i := 201) rfl), Or.inr (mt_3 (List.mem_of_getElem? (i := 202) rfl)), _, _, rfl⟩, ckX9_changeBy, by decide⟩
set_option maxRecDepth 100000 in
theorem mf_95 : MFr (yX9_unsureSets, cX9_unsureSets, 9, (some .int), 0, false) (1, 1, 15, kX9_unsureSets) := ⟨mt_4 (List.mem_of_getElem? (i := 216) rfl), mt_1 (List.mem_of_getElem? (i := 2) rfl), ⟨by decide, by decide⟩, by decide +kernel, by decide, rfl, (fun h => by cases h), rfl, Or.inr ⟨by decide, by decide, mt_4 (List.mem_of_getElem? (i := 214) rfl), Or.inr (mt_4 (List.mem_of_getElem? (i := 215) rfl)), _, _, rfl⟩, ckX9_unsureSets, by decide⟩
set_option maxRecDepth 100000 in
theorem mf_96 : MFr (yX9_fitting, cX9_fitting, 9, (some .int), 0, false) (4, 1, 15, kX9_fitting) := ⟨mt_4 (List.mem_of_getElem? (i := 212) rfl), mt_1 (List.mem_of_getElem? (i := 2) rfl), ⟨by decide, by decide⟩, by decide +kernel, by decide, rfl, (fun h => by cases h), rfl, Or.inr ⟨by decide, by decide, mt_4 (List.mem_of_getElem? (i := 210) rfl), Or.inr (mt_4 (List.mem_of_getElem? (i := 211) rfl)), _, _, rfl⟩, ckX9_fitting, by decide⟩
set_option maxRecDepth 100000 in
theorem mf_97 : MFr (yX9_standBy, cX9_standBy, 9, (some .int), 1, false) (4, 1, 15, kX9_standBy) := ⟨mt_4 (List.mem_of_getElem? (i := 220) rfl), mt_1 (List.mem_of_getElem? (i := 2) rfl), ⟨by decide, by decide⟩, by decide +kernel, by decide, rfl, (fun h => by cases h), rfl, Or.inr ⟨by decide, by decide, mt_4 (List.mem_of_getElem? (i := 219) rfl), Or.inr (mt_s (List.mem_of_getElem? (i := 48) rfl)), _, _, rfl⟩, ckX9_standBy, by decide⟩
set_option maxRecDepth 100000 in
theorem mf_98 : MFr (yX9_areUnlike, cX9_areUnlike, 9, (some .boolean), 1, false) (4, 2, 15, kX9_areUnlike) := ⟨mt_4 (List.mem_of_getElem? (i := 226) rfl), mt_1 (List.mem_of_getElem? (i := 2) rfl), ⟨by decide, by decide⟩, by decide +kernel, by decide, rfl, (fun h => by cases h), rfl, Or.inr ⟨by decide, by decide, mt_4 (List.mem_of_getElem? (i := 225) rfl), Or.inr (mt_s (List.mem_of_getElem? (i := 49) rfl)), _, _, rfl⟩, ckX9_areUnlike, by decide⟩
set_option maxRecDepth 100000 in
theorem mf_99 : MFr (yX9_leftAtMost, cX9_leftAtMost, 9, (some .int), 2, false) (5, 1, 15, kX9_leftAtMost) := ⟨mt_5 (List.mem_of_getElem? (i := 15) rfl), mt_1 (List.mem_of_getElem? (i := 2) rfl), ⟨by decide, by decide⟩, by decide +kernel, by decide, rfl, (fun h => by cases h), rfl, Or.inr ⟨by decide, by decide, mt_5 (List.mem_of_getElem? (i := 13) rfl), Or.inr (mt_5 (List.mem_of_getElem? (i := 14) rfl)), _, _, rfl⟩, ckX9_leftAtMost, by decide⟩
set_option maxRecDepth 100000 in
theorem mf_100 : MFr (yX9_shakeWeight, cX9_shakeWeight, 9, (some .long), 1, false) (5, 3, 15, kX9_shakeWeight) := ⟨mt_5 (List.mem_of_getElem? (i := 107) rfl), mt_1 (List.mem_of_getElem? (i := 2) rfl), ⟨by decide, by decide⟩, by decide +kernel, by decide, rfl, (fun h => by cases h), rfl, Or.inr ⟨by decide, by decide, mt_5 (List.mem_of_getElem? (i := 105) rfl), Or.inr (mt_5 (List.mem_of_getElem? (i := 106) rfl)), _, _, rfl⟩, ckX9_shakeWeight, by decide⟩
set_option maxRecDepth 100000 in
theorem mf_101 : MFr (yX10_init, cX10_init, 10, none, 0, true) (1, 0, 16, kX10_init) := ⟨mt_1 (List.mem_of_getElem? (i := 29) rfl), mt_1 (List.mem_of_getElem? (i := 1) rfl), ⟨by decide, by decide⟩, by decide +kernel, by decide, rfl, fun _ => ⟨rfl, rfl⟩, rfl, Or.inr ⟨by decide, by decide, mt_1 (List.mem_of_getElem? (i := 28) rfl), Or.inl rfl, _, _, rfl⟩, ckX10_init, by decide⟩
set_option maxRecDepth 100000 in
theorem mf_102 : MFr (yX10_feed, cX10_feed, 10, (some .int), 5, false) (6, 1, 16, kX10_feed) := ⟨mt_2 (List.mem_of_getElem? (i := 122) rfl), mt_1 (List.mem_of_getElem? (i := 1) rfl), ⟨by decide, by decide⟩, by decide +kernel, by decide, rfl, (fun h => by cases h), rfl, Or.inr ⟨by decide, by decide, mt_2 (List.mem_of_getElem? (i := 120) rfl), Or.inr (mt_2 (List.mem_of_getElem? (i := 121) rfl)), _, _, rfl⟩, ckX10_feed, by decide⟩
set_option maxRecDepth 100000 in
theorem mf_103 : MFr (yX10_tube, cX10_tube, 10, (some .int), 1, false) (2, 1, 16, kX10_tube) := ⟨mt_2 (List.mem_of_getElem? (i := 130) rfl), mt_1 (List.mem_of_getElem? (i := 1) rfl), ⟨by decide, by decide⟩, by decide +kernel, by decide, rfl, (fun h => by cases h), rfl, Or.inr ⟨by decide, by decide, mt_2 (List.mem_of_getElem? (i := 128) rfl), Or.inr (mt_2 (List.mem_of_getElem? (i := 129) rfl)), _, _, rfl⟩, ckX10_tube, by decide⟩
set_option maxRecDepth 100000 in
theorem mf_104 : MFr (yX10_fault, cX10_fault, 10, (some .int), 0, false) (1, 1, 16, kX10_fault) := ⟨mt_3 (List.mem_of_getElem? (i := 68) rfl), mt_1 (List.mem_of_getElem? (i := 1) rfl), ⟨by decide, by decide⟩, by decide +kernel, by decide, rfl, (fun h => by cases h), rfl, Or.inr ⟨by decide, by decide, mt_3 (List.mem_of_getElem? (i := 66) rfl), Or.inr (mt_3 (List.mem_of_getElem? (i := 67) rfl)), _, _, rfl⟩, ckX10_fault, by decide⟩
set_option maxRecDepth 100000 in
theorem mf_105 : MFr (yX10_where, cX10_where, 10, (some .int), 0, false) (1, 1, 16, kX10_where) := ⟨mt_3 (List.mem_of_getElem? (i := 72) rfl), mt_1 (List.mem_of_getElem? (i := 1) rfl), ⟨by decide, by decide⟩, by decide +kernel, by decide, rfl, (fun h => by cases h), rfl, Or.inr ⟨by decide, by decide, mt_3 (List.mem_of_getElem? (i := 70) rfl), Or.inr (mt_3 (List.mem_of_getElem? (i := 71) rfl)), _, _, rfl⟩, ckX10_where, by decide⟩
set_option maxRecDepth 100000 in
theorem mf_106 : MFr (yX10_person, cX10_person, 10, (some .int), 2, false) (3, 1, 16, kX10_person) := ⟨mt_3 (List.mem_of_getElem? (i := 76) rfl), mt_1 (List.mem_of_getElem? (i := 1) rfl), ⟨by decide, by decide⟩, by decide +kernel, by decide, rfl, (fun h => by cases h), rfl, Or.inr ⟨by decide, by decide, mt_3 (List.mem_of_getElem? (i := 74) rfl), Or.inr (mt_3 (List.mem_of_getElem? (i := 75) rfl)), _, _, rfl⟩, ckX10_person, by decide⟩
set_option maxRecDepth 100000 in
theorem mf_107 : MFr (yX10_slot, cX10_slot, 10, (some .int), 1, false) (2, 1, 16, kX10_slot) := ⟨mt_3 (List.mem_of_getElem? (i := 99) rfl), mt_1 (List.mem_of_getElem? (i := 1) rfl), ⟨by decide, by decide⟩, by decide +kernel, by decide, rfl, (fun h => by cases h), rfl, Or.inr ⟨by decide, by decide, mt_3 (List.mem_of_getElem? (i := 97) rfl), Or.inr (mt_3 (List.mem_of_getElem? (i := 98) rfl)), _, _, rfl⟩, ckX10_slot, by decide⟩
set_option maxRecDepth 100000 in
theorem mf_108 : MFr (yX10_turned, cX10_turned, 10, (some .int), 2, false) (3, 1, 16, kX10_turned) := ⟨mt_3 (List.mem_of_getElem? (i := 111) rfl), mt_1 (List.mem_of_getElem? (i := 1) rfl), ⟨by decide, by decide⟩, by decide +kernel, by decide, rfl, (fun h => by cases h), rfl, Or.inr ⟨by decide, by decide, mt_3 (List.mem_of_getElem? (i := 109) rfl), Or.inr (mt_3 (List.mem_of_getElem? (i := 110) rfl)), _, _, rfl⟩, ckX10_turned, by decide⟩
set_option maxRecDepth 100000 in
theorem mf_109 : MFr (yX10_quarrels, cX10_quarrels, 10, (some .int), 0, false) (1, 1, 16, kX10_quarrels) := ⟨mt_3 (List.mem_of_getElem? (i := 119) rfl), mt_1 (List.mem_of_getElem? (i := 1) rfl), ⟨by decide, by decide⟩, by decide +kernel, by decide, rfl, (fun h => by cases h), rfl, Or.inr ⟨by decide, by decide, mt_3 (List.mem_of_getElem? (i := 117) rfl), Or.inr (mt_3 (List.mem_of_getElem? (i := 118) rfl)), _, _, rfl⟩, ckX10_quarrels, by decide⟩
set_option maxRecDepth 100000 in
theorem mf_110 : MFr (yX10_met, cX10_met, 10, (some .int), 0, false) (1, 1, 16, kX10_met) := ⟨mt_3 (List.mem_of_getElem? (i := 143) rfl), mt_1 (List.mem_of_getElem? (i := 1) rfl), ⟨by decide, by decide⟩, by decide +kernel, by decide, rfl, (fun h => by cases h), rfl, Or.inr ⟨by decide, by decide, mt_3 (List.mem_of_getElem? (i := 141) rfl), Or.inr (mt_3 (List.mem_of_getElem? (i := 142) rfl)), _, _, rfl⟩, ckX10_met, by decide⟩
set_option maxRecDepth 100000 in
theorem mf_111 : MFr (yX10_ring, cX10_ring, 10, (some .int), 1, false) (2, 1, 16, kX10_ring) := ⟨mt_3 (List.mem_of_getElem? (i := 147) rfl), mt_1 (List.mem_of_getElem? (i := 1) rfl), ⟨by decide, by decide⟩, by decide +kernel, by decide, rfl, (fun h => by cases h), rfl, Or.inr ⟨by decide, by decide, mt_3 (List.mem_of_getElem? (i := 145) rfl), Or.inr (mt_3 (List.mem_of_getElem? (i := 146) rfl)), _, _, rfl⟩, ckX10_ring, by decide⟩
set_option maxRecDepth 100000 in
theorem mf_112 : MFr (yX10_truth, cX10_truth, 10, (some .int), 1, false) (2, 1, 16, kX10_truth) := ⟨mt_3 (List.mem_of_getElem? (i := 167) rfl), mt_1 (List.mem_of_getElem? (i := 1) rfl), ⟨by decide, by decide⟩, by decide +kernel, by decide, rfl, (fun h => by cases h), rfl, Or.inr ⟨by decide, by decide, mt_3 (List.mem_of_getElem? (i := 165) rfl), Or.inr (mt_3 (List.mem_of_getElem? (i := 166) rfl)), _, _, rfl⟩, ckX10_truth, by decide⟩
set_option maxRecDepth 100000 in
theorem mf_113 : MFr (yX10_image, cX10_image, 10, (some .int), 2, false) (3, 1, 16, kX10_image) := ⟨mt_3 (List.mem_of_getElem? (i := 171) rfl), mt_1 (List.mem_of_getElem? (i := 1) rfl), ⟨by decide, by decide⟩, by decide +kernel, by decide, rfl, (fun h => by cases h), rfl, Or.inr ⟨by decide, by decide, mt_3 (List.mem_of_getElem? (i := 169) rfl), Or.inr (mt_3 (List.mem_of_getElem? (i := 170) rfl)), _, _, rfl⟩, ckX10_image, by decide⟩
set_option maxRecDepth 100000 in
theorem mf_114 : MFr (yX10_selves, cX10_selves, 10, (some .int), 0, false) (6, 1, 16, kX10_selves) := ⟨mt_3 (List.mem_of_getElem? (i := 179) rfl), mt_1 (List.mem_of_getElem? (i := 1) rfl), ⟨by decide, by decide⟩, by decide +kernel, by decide, rfl, (fun h => by cases h), rfl, Or.inr ⟨by decide, by decide, mt_3 (List.mem_of_getElem? (i := 177) rfl), Or.inr (mt_3 (List.mem_of_getElem? (i := 178) rfl)), _, _, rfl⟩, ckX10_selves, by decide⟩
set_option maxRecDepth 100000 in
theorem mf_115 : MFr (yX10_near, cX10_near, 10, (some .int), 2, false) (7, 1, 16, kX10_near) := ⟨mt_3 (List.mem_of_getElem? (i := 183) rfl), mt_1 (List.mem_of_getElem? (i := 1) rfl), ⟨by decide, by decide⟩, by decide +kernel, by decide, rfl, (fun h => by cases h), rfl, Or.inr ⟨by decide, by decide, mt_3 (List.mem_of_getElem? (i := 181) rfl), Or.inr (mt_3 (List.mem_of_getElem? (i := 182) rfl)), _, _, rfl⟩, ckX10_near, by decide⟩
set_option maxRecDepth 100000 in
theorem mf_116 : MFr (yX10_seenIn, cX10_seenIn, 10, (some .int), 1, false) (4, 1, 16, kX10_seenIn) := ⟨mt_3 (List.mem_of_getElem? (i := 195) rfl), mt_1 (List.mem_of_getElem? (i := 1) rfl), ⟨by decide, by decide⟩, by decide +kernel, by decide, rfl, (fun h => by cases h), rfl, Or.inr ⟨by decide, by decide, mt_3 (List.mem_of_getElem? (i := 193) rfl), Or.inr (mt_3 (List.mem_of_getElem? (i := 194) rfl)), _, _, rfl⟩, ckX10_seenIn, by decide⟩
set_option maxRecDepth 100000 in
theorem mf_117 : MFr (yX10_slides, cX10_slides, 10, (some .int), 3, false) (5, 1, 16, kX10_slides) := ⟨mt_3 (List.mem_of_getElem? (i := 199) rfl), mt_1 (List.mem_of_getElem? (i := 1) rfl), ⟨by decide, by decide⟩, by decide +kernel, by decide, rfl, (fun h => by cases h), rfl, Or.inr ⟨by decide, by decide, mt_3 (List.mem_of_getElem? (i := 197) rfl), Or.inr (mt_3 (List.mem_of_getElem? (i := 198) rfl)), _, _, rfl⟩, ckX10_slides, by decide⟩
set_option maxRecDepth 100000 in
theorem mf_118 : MFr (yX10_round, cX10_round, 10, (some .int), 2, false) (4, 1, 16, kX10_round) := ⟨mt_3 (List.mem_of_getElem? (i := 215) rfl), mt_1 (List.mem_of_getElem? (i := 1) rfl), ⟨by decide, by decide⟩, by decide +kernel, by decide, rfl, (fun h => by cases h), rfl, Or.inr ⟨by decide, by decide, mt_3 (List.mem_of_getElem? (i := 213) rfl), Or.inr (mt_3 (List.mem_of_getElem? (i := 214) rfl)), _, _, rfl⟩, ckX10_round, by decide⟩
set_option maxRecDepth 100000 in
theorem mf_119 : MFr (yX10_even, cX10_even, 10, (some .int), 2, false) (4, 1, 16, kX10_even) := ⟨mt_3 (List.mem_of_getElem? (i := 224) rfl), mt_1 (List.mem_of_getElem? (i := 1) rfl), ⟨by decide, by decide⟩, by decide +kernel, by decide, rfl, (fun h => by cases h), rfl, Or.inr ⟨by decide, by decide, mt_3 (List.mem_of_getElem? (i := 222) rfl), Or.inr (mt_3 (List.mem_of_getElem? (i := 223) rfl)), _, _, rfl⟩, ckX10_even, by decide⟩
set_option maxRecDepth 100000 in
theorem mf_120 : MFr (yX10_fixes, cX10_fixes, 10, (some .int), 2, false) (4, 1, 16, kX10_fixes) := ⟨mt_3 (List.mem_of_getElem? (i := 234) rfl), mt_1 (List.mem_of_getElem? (i := 1) rfl), ⟨by decide, by decide⟩, by decide +kernel, by decide, rfl, (fun h => by cases h), rfl, Or.inr ⟨by decide, by decide, mt_3 (List.mem_of_getElem? (i := 232) rfl), Or.inr (mt_3 (List.mem_of_getElem? (i := 233) rfl)), _, _, rfl⟩, ckX10_fixes, by decide⟩
set_option maxRecDepth 100000 in
theorem mf_121 : MFr (yX10_commute, cX10_commute, 10, (some .int), 2, false) (3, 1, 16, kX10_commute) := ⟨mt_4 (List.mem_of_getElem? (i := 1) rfl), mt_1 (List.mem_of_getElem? (i := 1) rfl), ⟨by decide, by decide⟩, by decide +kernel, by decide, rfl, (fun h => by cases h), rfl, Or.inr ⟨by decide, by decide, mt_3 (List.mem_of_getElem? (i := 239) rfl), Or.inr (mt_4 (List.mem_of_getElem? (i := 0) rfl)), _, _, rfl⟩, ckX10_commute, by decide⟩
set_option maxRecDepth 100000 in
theorem mf_122 : MFr (yX10_undoing, cX10_undoing, 10, (some .int), 2, false) (4, 1, 16, kX10_undoing) := ⟨mt_4 (List.mem_of_getElem? (i := 8) rfl), mt_1 (List.mem_of_getElem? (i := 1) rfl), ⟨by decide, by decide⟩, by decide +kernel, by decide, rfl, (fun h => by cases h), rfl, Or.inr ⟨by decide, by decide, mt_4 (List.mem_of_getElem? (i := 6) rfl), Or.inr (mt_4 (List.mem_of_getElem? (i := 7) rfl)), _, _, rfl⟩, ckX10_undoing, by decide⟩
set_option maxRecDepth 100000 in
theorem mf_123 : MFr (yX10_reach, cX10_reach, 10, (some .int), 0, false) (1, 1, 16, kX10_reach) := ⟨mt_4 (List.mem_of_getElem? (i := 41) rfl), mt_1 (List.mem_of_getElem? (i := 1) rfl), ⟨by decide, by decide⟩, by decide +kernel, by decide, rfl, (fun h => by cases h), rfl, Or.inr ⟨by decide, by decide, mt_4 (List.mem_of_getElem? (i := 39) rfl), Or.inr (mt_4 (List.mem_of_getElem? (i := 40) rfl)), _, _, rfl⟩, ckX10_reach, by decide⟩
set_option maxRecDepth 100000 in
theorem mf_124 : MFr (yX10_deepest, cX10_deepest, 10, (some .int), 0, false) (1, 1, 16, kX10_deepest) := ⟨mt_4 (List.mem_of_getElem? (i := 45) rfl), mt_1 (List.mem_of_getElem? (i := 1) rfl), ⟨by decide, by decide⟩, by decide +kernel, by decide, rfl, (fun h => by cases h), rfl, Or.inr ⟨by decide, by decide, mt_4 (List.mem_of_getElem? (i := 43) rfl), Or.inr (mt_4 (List.mem_of_getElem? (i := 44) rfl)), _, _, rfl⟩, ckX10_deepest, by decide⟩
set_option maxRecDepth 100000 in
theorem mf_125 : MFr (yX10_evens, cX10_evens, 10, (some .int), 0, false) (1, 1, 16, kX10_evens) := ⟨mt_4 (List.mem_of_getElem? (i := 53) rfl), mt_1 (List.mem_of_getElem? (i := 1) rfl), ⟨by decide, by decide⟩, by decide +kernel, by decide, rfl, (fun h => by cases h), rfl, Or.inr ⟨by decide, by decide, mt_4 (List.mem_of_getElem? (i := 51) rfl), Or.inr (mt_4 (List.mem_of_getElem? (i := 52) rfl)), _, _, rfl⟩, ckX10_evens, by decide⟩
set_option maxRecDepth 100000 in
theorem mf_126 : MFr (yX10_orbit, cX10_orbit, 10, (some .int), 1, false) (2, 1, 16, kX10_orbit) := ⟨mt_4 (List.mem_of_getElem? (i := 62) rfl), mt_1 (List.mem_of_getElem? (i := 1) rfl), ⟨by decide, by decide⟩, by decide +kernel, by decide, rfl, (fun h => by cases h), rfl, Or.inr ⟨by decide, by decide, mt_4 (List.mem_of_getElem? (i := 60) rfl), Or.inr (mt_4 (List.mem_of_getElem? (i := 61) rfl)), _, _, rfl⟩, ckX10_orbit, by decide⟩
set_option maxRecDepth 100000 in
theorem mf_127 : MFr (yX10_keeps, cX10_keeps, 10, (some .int), 1, false) (2, 1, 16, kX10_keeps) := ⟨mt_4 (List.mem_of_getElem? (i := 71) rfl), mt_1 (List.mem_of_getElem? (i := 1) rfl), ⟨by decide, by decide⟩, by decide +kernel, by decide, rfl, (fun h => by cases h), rfl, Or.inr ⟨by decide, by decide, mt_4 (List.mem_of_getElem? (i := 69) rfl), Or.inr (mt_4 (List.mem_of_getElem? (i := 70) rfl)), _, _, rfl⟩, ckX10_keeps, by decide⟩
set_option maxRecDepth 100000 in
theorem mf_128 : MFr (yX10_pairs, cX10_pairs, 10, (some .int), 0, false) (1, 1, 16, kX10_pairs) := ⟨mt_4 (List.mem_of_getElem? (i := 79) rfl), mt_1 (List.mem_of_getElem? (i := 1) rfl), ⟨by decide, by decide⟩, by decide +kernel, by decide, rfl, (fun h => by cases h), rfl, Or.inr ⟨by decide, by decide, mt_4 (List.mem_of_getElem? (i := 77) rfl), Or.inr (mt_4 (List.mem_of_getElem? (i := 78) rfl)), _, _, rfl⟩, ckX10_pairs, by decide⟩
set_option maxRecDepth 100000 in
theorem mf_129 : MFr (yX10_centre, cX10_centre, 10, (some .int), 0, false) (1, 1, 16, kX10_centre) := ⟨mt_4 (List.mem_of_getElem? (i := 95) rfl), mt_1 (List.mem_of_getElem? (i := 1) rfl), ⟨by decide, by decide⟩, by decide +kernel, by decide, rfl, (fun h => by cases h), rfl, Or.inr ⟨by decide, by decide, mt_4 (List.mem_of_getElem? (i := 93) rfl), Or.inr (mt_4 (List.mem_of_getElem? (i := 94) rfl)), _, _, rfl⟩, ckX10_centre, by decide⟩
set_option maxRecDepth 100000 in
theorem mf_130 : MFr (yX10_errand, cX10_errand, 10, (some .int), 0, false) (1, 1, 16, kX10_errand) := ⟨mt_4 (List.mem_of_getElem? (i := 104) rfl), mt_1 (List.mem_of_getElem? (i := 1) rfl), ⟨by decide, by decide⟩, by decide +kernel, by decide, rfl, (fun h => by cases h), rfl, Or.inr ⟨by decide, by decide, mt_4 (List.mem_of_getElem? (i := 102) rfl), Or.inr (mt_4 (List.mem_of_getElem? (i := 103) rfl)), _, _, rfl⟩, ckX10_errand, by decide⟩
set_option maxRecDepth 100000 in
theorem mf_131 : MFr (yX10_errandAt, cX10_errandAt, 10, (some .int), 1, false) (2, 1, 16, kX10_errandAt) := ⟨mt_4 (List.mem_of_getElem? (i := 129) rfl), mt_1 (List.mem_of_getElem? (i := 1) rfl), ⟨by decide, by decide⟩, by decide +kernel, by decide, rfl, (fun h => by cases h), rfl, Or.inr ⟨by decide, by decide, mt_4 (List.mem_of_getElem? (i := 127) rfl), Or.inr (mt_4 (List.mem_of_getElem? (i := 128) rfl)), _, _, rfl⟩, ckX10_errandAt, by decide⟩
set_option maxRecDepth 100000 in
theorem mf_132 : MFr (yX10_peace, cX10_peace, 10, (some .int), 0, false) (1, 1, 16, kX10_peace) := ⟨mt_4 (List.mem_of_getElem? (i := 141) rfl), mt_1 (List.mem_of_getElem? (i := 1) rfl), ⟨by decide, by decide⟩, by decide +kernel, by decide, rfl, (fun h => by cases h), rfl, Or.inr ⟨by decide, by decide, mt_4 (List.mem_of_getElem? (i := 139) rfl), Or.inr (mt_4 (List.mem_of_getElem? (i := 140) rfl)), _, _, rfl⟩, ckX10_peace, by decide⟩
set_option maxRecDepth 100000 in
theorem mf_133 : MFr (yX10_peaceAt, cX10_peaceAt, 10, (some .int), 1, false) (2, 1, 16, kX10_peaceAt) := ⟨mt_4 (List.mem_of_getElem? (i := 149) rfl), mt_1 (List.mem_of_getElem? (i := 1) rfl), ⟨by decide, by decide⟩, by decide +kernel, by decide, rfl, (fun h => by cases h), rfl, Or.inr ⟨by decide, by decide, mt_4 (List.mem_of_getElem? (i := 147) rfl), Or.inr (mt_4 (List.mem_of_getElem? (i := 148) rfl)), _, _, rfl⟩, ckX10_peaceAt, by decide⟩
set_option maxRecDepth 100000 in
theorem mf_134 : MFr (yX10_bring, cX10_bring, 10, (some .int), 2, false) (3, 1, 16, kX10_bring) := ⟨mt_4 (List.mem_of_getElem? (i := 153) rfl), mt_1 (List.mem_of_getElem? (i := 1) rfl), ⟨by decide, by decide⟩, by decide +kernel, by decide, rfl, (fun h => by cases h), rfl, Or.inr ⟨by decide, by decide, mt_4 (List.mem_of_getElem? (i := 151) rfl), Or.inr (mt_4 (List.mem_of_getElem? (i := 152) rfl)), _, _, rfl⟩, ckX10_bring, by decide⟩
set_option maxRecDepth 100000 in
theorem mf_135 : MFr (yX10_calmest, cX10_calmest, 10, (some .int), 0, false) (4, 1, 16, kX10_calmest) := ⟨mt_4 (List.mem_of_getElem? (i := 161) rfl), mt_1 (List.mem_of_getElem? (i := 1) rfl), ⟨by decide, by decide⟩, by decide +kernel, by decide, rfl, (fun h => by cases h), rfl, Or.inr ⟨by decide, by decide, mt_4 (List.mem_of_getElem? (i := 159) rfl), Or.inr (mt_4 (List.mem_of_getElem? (i := 160) rfl)), _, _, rfl⟩, ckX10_calmest, by decide⟩
set_option maxRecDepth 100000 in
theorem mf_136 : MFr (yX10_colourings, cX10_colourings, 10, (some .long), 1, false) (2, 3, 16, kX10_colourings) := ⟨mt_4 (List.mem_of_getElem? (i := 166) rfl), mt_1 (List.mem_of_getElem? (i := 1) rfl), ⟨by decide, by decide⟩, by decide +kernel, by decide, rfl, (fun h => by cases h), rfl, Or.inr ⟨by decide, by decide, mt_4 (List.mem_of_getElem? (i := 164) rfl), Or.inr (mt_4 (List.mem_of_getElem? (i := 165) rfl)), _, _, rfl⟩, ckX10_colourings, by decide⟩
set_option maxRecDepth 100000 in
theorem mf_137 : MFr (yX10_mirrored, cX10_mirrored, 10, (some .long), 1, false) (2, 3, 16, kX10_mirrored) := ⟨mt_4 (List.mem_of_getElem? (i := 181) rfl), mt_1 (List.mem_of_getElem? (i := 1) rfl), ⟨by decide, by decide⟩, by decide +kernel, by decide, rfl, (fun h => by cases h), rfl, Or.inr ⟨by decide, by decide, mt_4 (List.mem_of_getElem? (i := 179) rfl), Or.inr (mt_4 (List.mem_of_getElem? (i := 180) rfl)), _, _, rfl⟩, ckX10_mirrored, by decide⟩
set_option maxRecDepth 100000 in
theorem mf_138 : MFr (yX10_necklaces, cX10_necklaces, 10, (some .long), 2, false) (3, 3, 16, kX10_necklaces) := ⟨mt_4 (List.mem_of_getElem? (i := 185) rfl), mt_1 (List.mem_of_getElem? (i := 1) rfl), ⟨by decide, by decide⟩, by decide +kernel, by decide, rfl, (fun h => by cases h), rfl, Or.inr ⟨by decide, by decide, mt_4 (List.mem_of_getElem? (i := 183) rfl), Or.inr (mt_4 (List.mem_of_getElem? (i := 184) rfl)), _, _, rfl⟩, ckX10_necklaces, by decide⟩
set_option maxRecDepth 100000 in
theorem mf_139 : MFr (yX10_bracelets, cX10_bracelets, 10, (some .long), 2, false) (5, 3, 16, kX10_bracelets) := ⟨mt_4 (List.mem_of_getElem? (i := 201) rfl), mt_1 (List.mem_of_getElem? (i := 1) rfl), ⟨by decide, by decide⟩, by decide +kernel, by decide, rfl, (fun h => by cases h), rfl, Or.inr ⟨by decide, by decide, mt_4 (List.mem_of_getElem? (i := 199) rfl), Or.inr (mt_4 (List.mem_of_getElem? (i := 200) rfl)), _, _, rfl⟩, ckX10_bracelets, by decide⟩
set_option maxRecDepth 100000 in
theorem mf_140 : MFr (yX10_fits, cX10_fits, 10, (some .int), 0, false) (1, 1, 16, kX10_fits) := ⟨mt_4 (List.mem_of_getElem? (i := 208) rfl), mt_1 (List.mem_of_getElem? (i := 1) rfl), ⟨by decide, by decide⟩, by decide +kernel, by decide, rfl, (fun h => by cases h), rfl, Or.inr ⟨by decide, by decide, mt_4 (List.mem_of_getElem? (i := 206) rfl), Or.inr (mt_4 (List.mem_of_getElem? (i := 207) rfl)), _, _, rfl⟩, ckX10_fits, by decide⟩
set_option maxRecDepth 100000 in
theorem mf_141 : MFr (yX10_fitAt, cX10_fitAt, 10, (some .int), 1, false) (5, 1, 16, kX10_fitAt) := ⟨mt_4 (List.mem_of_getElem? (i := 234) rfl), mt_1 (List.mem_of_getElem? (i := 1) rfl), ⟨by decide, by decide⟩, by decide +kernel, by decide, rfl, (fun h => by cases h), rfl, Or.inr ⟨by decide, by decide, mt_4 (List.mem_of_getElem? (i := 232) rfl), Or.inr (mt_4 (List.mem_of_getElem? (i := 233) rfl)), _, _, rfl⟩, ckX10_fitAt, by decide⟩
set_option maxRecDepth 100000 in
theorem mf_142 : MFr (yX10_could, cX10_could, 10, (some .int), 0, false) (4, 1, 16, kX10_could) := ⟨mt_4 (List.mem_of_getElem? (i := 239) rfl), mt_1 (List.mem_of_getElem? (i := 1) rfl), ⟨by decide, by decide⟩, by decide +kernel, by decide, rfl, (fun h => by cases h), rfl, Or.inr ⟨by decide, by decide, mt_4 (List.mem_of_getElem? (i := 237) rfl), Or.inr (mt_4 (List.mem_of_getElem? (i := 238) rfl)), _, _, rfl⟩, ckX10_could, by decide⟩
set_option maxRecDepth 100000 in
theorem mf_143 : MFr (yX10_surely, cX10_surely, 10, (some .int), 0, false) (4, 1, 16, kX10_surely) := ⟨mt_5 (List.mem_of_getElem? (i := 3) rfl), mt_1 (List.mem_of_getElem? (i := 1) rfl), ⟨by decide, by decide⟩, by decide +kernel, by decide, rfl, (fun h => by cases h), rfl, Or.inr ⟨by decide, by decide, mt_5 (List.mem_of_getElem? (i := 1) rfl), Or.inr (mt_5 (List.mem_of_getElem? (i := 2) rfl)), _, _, rfl⟩, ckX10_surely, by decide⟩
set_option maxRecDepth 100000 in
theorem mf_144 : MFr (yX10_ask, cX10_ask, 10, (some .int), 0, false) (1, 1, 16, kX10_ask) := ⟨mt_5 (List.mem_of_getElem? (i := 7) rfl), mt_1 (List.mem_of_getElem? (i := 1) rfl), ⟨by decide, by decide⟩, by decide +kernel, by decide, rfl, (fun h => by cases h), rfl, Or.inr ⟨by decide, by decide, mt_5 (List.mem_of_getElem? (i := 5) rfl), Or.inr (mt_5 (List.mem_of_getElem? (i := 6) rfl)), _, _, rfl⟩, ckX10_ask, by decide⟩
set_option maxRecDepth 100000 in
theorem mf_145 : MFr (yX10_askLeaves, cX10_askLeaves, 10, (some .int), 0, false) (3, 1, 16, kX10_askLeaves) := ⟨mt_5 (List.mem_of_getElem? (i := 20) rfl), mt_1 (List.mem_of_getElem? (i := 1) rfl), ⟨by decide, by decide⟩, by decide +kernel, by decide, rfl, (fun h => by cases h), rfl, Or.inr ⟨by decide, by decide, mt_5 (List.mem_of_getElem? (i := 18) rfl), Or.inr (mt_5 (List.mem_of_getElem? (i := 19) rfl)), _, _, rfl⟩, ckX10_askLeaves, by decide⟩
set_option maxRecDepth 100000 in
theorem mf_146 : MFr (yX10_judge, cX10_judge, 10, (some .int), 0, false) (1, 1, 16, kX10_judge) := ⟨mt_5 (List.mem_of_getElem? (i := 24) rfl), mt_1 (List.mem_of_getElem? (i := 1) rfl), ⟨by decide, by decide⟩, by decide +kernel, by decide, rfl, (fun h => by cases h), rfl, Or.inr ⟨by decide, by decide, mt_5 (List.mem_of_getElem? (i := 22) rfl), Or.inr (mt_5 (List.mem_of_getElem? (i := 23) rfl)), _, _, rfl⟩, ckX10_judge, by decide⟩
set_option maxRecDepth 100000 in
theorem mf_147 : MFr (yX10_gets, cX10_gets, 10, (some .int), 3, false) (4, 1, 16, kX10_gets) := ⟨mt_5 (List.mem_of_getElem? (i := 33) rfl), mt_1 (List.mem_of_getElem? (i := 1) rfl), ⟨by decide, by decide⟩, by decide +kernel, by decide, rfl, (fun h => by cases h), rfl, Or.inr ⟨by decide, by decide, mt_5 (List.mem_of_getElem? (i := 31) rfl), Or.inr (mt_5 (List.mem_of_getElem? (i := 32) rfl)), _, _, rfl⟩, ckX10_gets, by decide⟩
set_option maxRecDepth 100000 in
theorem mf_148 : MFr (yX10_getsBy, cX10_getsBy, 10, (some .int), 3, false) (4, 1, 16, kX10_getsBy) := ⟨mt_5 (List.mem_of_getElem? (i := 43) rfl), mt_1 (List.mem_of_getElem? (i := 1) rfl), ⟨by decide, by decide⟩, by decide +kernel, by decide, rfl, (fun h => by cases h), rfl, Or.inr ⟨by decide, by decide, mt_5 (List.mem_of_getElem? (i := 41) rfl), Or.inr (mt_5 (List.mem_of_getElem? (i := 42) rfl)), _, _, rfl⟩, ckX10_getsBy, by decide⟩
set_option maxRecDepth 100000 in
theorem mf_149 : MFr (yX10_looks, cX10_looks, 10, (some .int), 4, false) (5, 1, 16, kX10_looks) := ⟨mt_5 (List.mem_of_getElem? (i := 50) rfl), mt_1 (List.mem_of_getElem? (i := 1) rfl), ⟨by decide, by decide⟩, by decide +kernel, by decide, rfl, (fun h => by cases h), rfl, Or.inr ⟨by decide, by decide, mt_5 (List.mem_of_getElem? (i := 48) rfl), Or.inr (mt_5 (List.mem_of_getElem? (i := 49) rfl)), _, _, rfl⟩, ckX10_looks, by decide⟩
set_option maxRecDepth 100000 in
theorem mf_150 : MFr (yX10_rests, cX10_rests, 10, (some .int), 1, false) (4, 1, 16, kX10_rests) := ⟨mt_5 (List.mem_of_getElem? (i := 63) rfl), mt_1 (List.mem_of_getElem? (i := 1) rfl), ⟨by decide, by decide⟩, by decide +kernel, by decide, rfl, (fun h => by cases h), rfl, Or.inr ⟨by decide, by decide, mt_5 (List.mem_of_getElem? (i := 61) rfl), Or.inr (mt_5 (List.mem_of_getElem? (i := 62) rfl)), _, _, rfl⟩, ckX10_rests, by decide⟩
set_option maxRecDepth 100000 in
theorem mf_151 : MFr (yX10_rest, cX10_rest, 10, (some .int), 1, false) (3, 1, 16, kX10_rest) := ⟨mt_5 (List.mem_of_getElem? (i := 78) rfl), mt_1 (List.mem_of_getElem? (i := 1) rfl), ⟨by decide, by decide⟩, by decide +kernel, by decide, rfl, (fun h => by cases h), rfl, Or.inr ⟨by decide, by decide, mt_5 (List.mem_of_getElem? (i := 76) rfl), Or.inr (mt_5 (List.mem_of_getElem? (i := 77) rfl)), _, _, rfl⟩, ckX10_rest, by decide⟩
set_option maxRecDepth 100000 in
theorem mf_152 : MFr (yX10_odds, cX10_odds, 10, (some .long), 4, false) (5, 3, 16, kX10_odds) := ⟨mt_5 (List.mem_of_getElem? (i := 84) rfl), mt_1 (List.mem_of_getElem? (i := 1) rfl), ⟨by decide, by decide⟩, by decide +kernel, by decide, rfl, (fun h => by cases h), rfl, Or.inr ⟨by decide, by decide, mt_5 (List.mem_of_getElem? (i := 82) rfl), Or.inr (mt_5 (List.mem_of_getElem? (i := 83) rfl)), _, _, rfl⟩, ckX10_odds, by decide⟩
set_option maxRecDepth 100000 in
theorem mf_153 : MFr (yX10_slotOdds, cX10_slotOdds, 10, (some .long), 4, false) (5, 3, 16, kX10_slotOdds) := ⟨mt_5 (List.mem_of_getElem? (i := 114) rfl), mt_1 (List.mem_of_getElem? (i := 1) rfl), ⟨by decide, by decide⟩, by decide +kernel, by decide, rfl, (fun h => by cases h), rfl, Or.inr ⟨by decide, by decide, mt_5 (List.mem_of_getElem? (i := 112) rfl), Or.inr (mt_5 (List.mem_of_getElem? (i := 113) rfl)), _, _, rfl⟩, ckX10_slotOdds, by decide⟩
set_option maxRecDepth 100000 in
theorem mf_154 : MFr (yX10_mean, cX10_mean, 10, (some .long), 2, false) (6, 3, 16, kX10_mean) := ⟨mt_5 (List.mem_of_getElem? (i := 122) rfl), mt_1 (List.mem_of_getElem? (i := 1) rfl), ⟨by decide, by decide⟩, by decide +kernel, by decide, rfl, (fun h => by cases h), rfl, Or.inr ⟨by decide, by decide, mt_5 (List.mem_of_getElem? (i := 120) rfl), Or.inr (mt_5 (List.mem_of_getElem? (i := 121) rfl)), _, _, rfl⟩, ckX10_mean, by decide⟩
set_option maxRecDepth 100000 in
theorem mf_155 : MFr (yX10_shaken, cX10_shaken, 10, (some .int), 3, false) (6, 1, 16, kX10_shaken) := ⟨mt_5 (List.mem_of_getElem? (i := 126) rfl), mt_1 (List.mem_of_getElem? (i := 1) rfl), ⟨by decide, by decide⟩, by decide +kernel, by decide, rfl, (fun h => by cases h), rfl, Or.inr ⟨by decide, by decide, mt_5 (List.mem_of_getElem? (i := 124) rfl), Or.inr (mt_5 (List.mem_of_getElem? (i := 125) rfl)), _, _, rfl⟩, ckX10_shaken, by decide⟩
set_option maxRecDepth 100000 in
theorem mf_156 : MFr (yX10_peaceIn, cX10_peaceIn, 10, (some .int), 2, false) (5, 1, 16, kX10_peaceIn) := ⟨mt_5 (List.mem_of_getElem? (i := 144) rfl), mt_1 (List.mem_of_getElem? (i := 1) rfl), ⟨by decide, by decide⟩, by decide +kernel, by decide, rfl, (fun h => by cases h), rfl, Or.inr ⟨by decide, by decide, mt_5 (List.mem_of_getElem? (i := 142) rfl), Or.inr (mt_5 (List.mem_of_getElem? (i := 143) rfl)), _, _, rfl⟩, ckX10_peaceIn, by decide⟩
set_option maxRecDepth 100000 in
theorem mf_157 : MFr (yX10_turn, cX10_turn, 10, (some .int), 1, false) (2, 1, 16, kX10_turn) := ⟨mt_5 (List.mem_of_getElem? (i := 148) rfl), mt_1 (List.mem_of_getElem? (i := 1) rfl), ⟨by decide, by decide⟩, by decide +kernel, by decide, rfl, (fun h => by cases h), rfl, Or.inr ⟨by decide, by decide, mt_5 (List.mem_of_getElem? (i := 146) rfl), Or.inr (mt_5 (List.mem_of_getElem? (i := 147) rfl)), _, _, rfl⟩, ckX10_turn, by decide⟩
set_option maxRecDepth 100000 in
theorem mf_158 : MFr (yX10_turnBack, cX10_turnBack, 10, (some .int), 1, false) (2, 1, 16, kX10_turnBack) := ⟨mt_5 (List.mem_of_getElem? (i := 162) rfl), mt_1 (List.mem_of_getElem? (i := 1) rfl), ⟨by decide, by decide⟩, by decide +kernel, by decide, rfl, (fun h => by cases h), rfl, Or.inr ⟨by decide, by decide, mt_5 (List.mem_of_getElem? (i := 160) rfl), Or.inr (mt_5 (List.mem_of_getElem? (i := 161) rfl)), _, _, rfl⟩, ckX10_turnBack, by decide⟩
set_option maxRecDepth 100000 in
theorem mf_159 : MFr (yX10_move, cX10_move, 10, (some .int), 2, false) (4, 1, 16, kX10_move) := ⟨mt_5 (List.mem_of_getElem? (i := 166) rfl), mt_1 (List.mem_of_getElem? (i := 1) rfl), ⟨by decide, by decide⟩, by decide +kernel, by decide, rfl, (fun h => by cases h), rfl, Or.inr ⟨by decide, by decide, mt_5 (List.mem_of_getElem? (i := 164) rfl), Or.inr (mt_5 (List.mem_of_getElem? (i := 165) rfl)), _, _, rfl⟩, ckX10_move, by decide⟩
set_option maxRecDepth 100000 in
theorem mf_160 : MFr (yX10_undo, cX10_undo, 10, (some .boolean), 0, false) (1, 2, 16, kX10_undo) := ⟨mt_5 (List.mem_of_getElem? (i := 171) rfl), mt_1 (List.mem_of_getElem? (i := 1) rfl), ⟨by decide, by decide⟩, by decide +kernel, by decide, rfl, (fun h => by cases h), rfl, Or.inr ⟨by decide, by decide, mt_5 (List.mem_of_getElem? (i := 169) rfl), Or.inr (mt_5 (List.mem_of_getElem? (i := 170) rfl)), _, _, rfl⟩, ckX10_undo, by decide⟩
set_option maxRecDepth 100000 in
theorem mf_161 : MFr (yX10_keep, cX10_keep, 10, (some .int), 0, false) (1, 1, 16, kX10_keep) := ⟨mt_5 (List.mem_of_getElem? (i := 179) rfl), mt_1 (List.mem_of_getElem? (i := 1) rfl), ⟨by decide, by decide⟩, by decide +kernel, by decide, rfl, (fun h => by cases h), rfl, Or.inr ⟨by decide, by decide, mt_5 (List.mem_of_getElem? (i := 177) rfl), Or.inr (mt_5 (List.mem_of_getElem? (i := 178) rfl)), _, _, rfl⟩, ckX10_keep, by decide⟩
set_option maxRecDepth 100000 in
theorem mf_162 : MFr (yX10_back, cX10_back, 10, (some .boolean), 1, false) (2, 2, 16, kX10_back) := ⟨mt_5 (List.mem_of_getElem? (i := 187) rfl), mt_1 (List.mem_of_getElem? (i := 1) rfl), ⟨by decide, by decide⟩, by decide +kernel, by decide, rfl, (fun h => by cases h), rfl, Or.inr ⟨by decide, by decide, mt_5 (List.mem_of_getElem? (i := 185) rfl), Or.inr (mt_5 (List.mem_of_getElem? (i := 186) rfl)), _, _, rfl⟩, ckX10_back, by decide⟩
set_option maxRecDepth 100000 in
theorem mf_163 : MFr (yX10_led, cX10_led, 10, (some .int), 1, false) (4, 1, 16, kX10_led) := ⟨mt_5 (List.mem_of_getElem? (i := 207) rfl), mt_1 (List.mem_of_getElem? (i := 1) rfl), ⟨by decide, by decide⟩, by decide +kernel, by decide, rfl, (fun h => by cases h), rfl, Or.inr ⟨by decide, by decide, mt_5 (List.mem_of_getElem? (i := 205) rfl), Or.inr (mt_5 (List.mem_of_getElem? (i := 206) rfl)), _, _, rfl⟩, ckX10_led, by decide⟩
set_option maxRecDepth 100000 in
theorem mf_164 : MFr (yX10_size, cX10_size, 10, (some .int), 1, false) (2, 1, 16, kX10_size) := ⟨mt_5 (List.mem_of_getElem? (i := 195) rfl), mt_1 (List.mem_of_getElem? (i := 1) rfl), ⟨by decide, by decide⟩, by decide +kernel, by decide, rfl, (fun h => by cases h), rfl, Or.inr ⟨by decide, by decide, mt_5 (List.mem_of_getElem? (i := 193) rfl), Or.inr (mt_5 (List.mem_of_getElem? (i := 194) rfl)), _, _, rfl⟩, ckX10_size, by decide⟩
set_option maxRecDepth 100000 in
theorem mf_165 : MFr (yX10_trouble, cX10_trouble, 10, (some .int), 0, false) (1, 1, 16, kX10_trouble) := ⟨mt_5 (List.mem_of_getElem? (i := 199) rfl), mt_1 (List.mem_of_getElem? (i := 1) rfl), ⟨by decide, by decide⟩, by decide +kernel, by decide, rfl, (fun h => by cases h), rfl, Or.inr ⟨by decide, by decide, mt_5 (List.mem_of_getElem? (i := 197) rfl), Or.inr (mt_5 (List.mem_of_getElem? (i := 198) rfl)), _, _, rfl⟩, ckX10_trouble, by decide⟩
set_option maxRecDepth 100000 in
theorem mf_166 : MFr (yX10_refused, cX10_refused, 10, (some .int), 1, false) (2, 1, 16, kX10_refused) := ⟨mt_2 (List.mem_of_getElem? (i := 134) rfl), mt_1 (List.mem_of_getElem? (i := 1) rfl), ⟨by decide, by decide⟩, by decide +kernel, by decide, rfl, (fun h => by cases h), rfl, Or.inr ⟨by decide, by decide, mt_2 (List.mem_of_getElem? (i := 133) rfl), Or.inr (mt_s (List.mem_of_getElem? (i := 0) rfl)), _, _, rfl⟩, ckX10_refused, by decide⟩
set_option maxRecDepth 100000 in
theorem mf_167 : MFr (yX10_fine, cX10_fine, 10, (some .int), 1, false) (2, 1, 16, kX10_fine) := ⟨mt_3 (List.mem_of_getElem? (i := 64) rfl), mt_1 (List.mem_of_getElem? (i := 1) rfl), ⟨by decide, by decide⟩, by decide +kernel, by decide, rfl, (fun h => by cases h), rfl, Or.inr ⟨by decide, by decide, mt_3 (List.mem_of_getElem? (i := 63) rfl), Or.inr (mt_s (List.mem_of_getElem? (i := 25) rfl)), _, _, rfl⟩, ckX10_fine, by decide⟩
set_option maxRecDepth 100000 in
theorem mf_168 : MFr (yX10_fineLong, cX10_fineLong, 10, (some .long), 1, false) (3, 3, 16, kX10_fineLong) := ⟨mt_4 (List.mem_of_getElem? (i := 177) rfl), mt_1 (List.mem_of_getElem? (i := 1) rfl), ⟨by decide, by decide⟩, by decide +kernel, by decide, rfl, (fun h => by cases h), rfl, Or.inr ⟨by decide, by decide, mt_4 (List.mem_of_getElem? (i := 176) rfl), Or.inr (mt_s (List.mem_of_getElem? (i := 47) rfl)), _, _, rfl⟩, ckX10_fineLong, by decide⟩
set_option maxRecDepth 100000 in
theorem mf_169 : MFr (yX10_isTube, cX10_isTube, 10, (some .boolean), 0, false) (1, 2, 16, kX10_isTube) := ⟨mt_3 (List.mem_of_getElem? (i := 123) rfl), mt_1 (List.mem_of_getElem? (i := 1) rfl), ⟨by decide, by decide⟩, by decide +kernel, by decide, rfl, (fun h => by cases h), rfl, Or.inr ⟨by decide, by decide, mt_3 (List.mem_of_getElem? (i := 122) rfl), Or.inr (mt_s (List.mem_of_getElem? (i := 32) rfl)), _, _, rfl⟩, ckX10_isTube, by decide⟩
set_option maxRecDepth 100000 in
theorem mf_170 : MFr (yX10_isPerson, cX10_isPerson, 10, (some .boolean), 1, false) (2, 2, 16, kX10_isPerson) := ⟨mt_3 (List.mem_of_getElem? (i := 80) rfl), mt_1 (List.mem_of_getElem? (i := 1) rfl), ⟨by decide, by decide⟩, by decide +kernel, by decide, rfl, (fun h => by cases h), rfl, Or.inr ⟨by decide, by decide, mt_3 (List.mem_of_getElem? (i := 79) rfl), Or.inr (mt_s (List.mem_of_getElem? (i := 26) rfl)), _, _, rfl⟩, ckX10_isPerson, by decide⟩
set_option maxRecDepth 100000 in
theorem mf_171 : MFr (yX10_areTwo, cX10_areTwo, 10, (some .boolean), 2, false) (3, 2, 16, kX10_areTwo) := ⟨mt_3 (List.mem_of_getElem? (i := 187) rfl), mt_1 (List.mem_of_getElem? (i := 1) rfl), ⟨by decide, by decide⟩, by decide +kernel, by decide, rfl, (fun h => by cases h), rfl, Or.inr ⟨by decide, by decide, mt_3 (List.mem_of_getElem? (i := 186) rfl), Or.inr (mt_s (List.mem_of_getElem? (i := 39) rfl)), _, _, rfl⟩, ckX10_areTwo, by decide⟩
set_option maxRecDepth 100000 in
theorem mf_172 : MFr (yX10_isSlot, cX10_isSlot, 10, (some .boolean), 1, false) (2, 2, 16, kX10_isSlot) := ⟨mt_3 (List.mem_of_getElem? (i := 103) rfl), mt_1 (List.mem_of_getElem? (i := 1) rfl), ⟨by decide, by decide⟩, by decide +kernel, by decide, rfl, (fun h => by cases h), rfl, Or.inr ⟨by decide, by decide, mt_3 (List.mem_of_getElem? (i := 102) rfl), Or.inr (mt_s (List.mem_of_getElem? (i := 29) rfl)), _, _, rfl⟩, ckX10_isSlot, by decide⟩
set_option maxRecDepth 100000 in
theorem mf_173 : MFr (yX10_isTurn, cX10_isTurn, 10, (some .boolean), 1, false) (2, 2, 16, kX10_isTurn) := ⟨mt_3 (List.mem_of_getElem? (i := 115) rfl), mt_1 (List.mem_of_getElem? (i := 1) rfl), ⟨by decide, by decide⟩, by decide +kernel, by decide, rfl, (fun h => by cases h), rfl, Or.inr ⟨by decide, by decide, mt_3 (List.mem_of_getElem? (i := 114) rfl), Or.inr (mt_s (List.mem_of_getElem? (i := 31) rfl)), _, _, rfl⟩, ckX10_isTurn, by decide⟩
set_option maxRecDepth 100000 in
theorem mf_174 : MFr (yX10_isPlace, cX10_isPlace, 10, (some .boolean), 1, false) (2, 2, 16, kX10_isPlace) := ⟨mt_3 (List.mem_of_getElem? (i := 151) rfl), mt_1 (List.mem_of_getElem? (i := 1) rfl), ⟨by decide, by decide⟩, by decide +kernel, by decide, rfl, (fun h => by cases h), rfl, Or.inr ⟨by decide, by decide, mt_3 (List.mem_of_getElem? (i := 150) rfl), Or.inr (mt_s (List.mem_of_getElem? (i := 34) rfl)), _, _, rfl⟩, ckX10_isPlace, by decide⟩
set_option maxRecDepth 100000 in
theorem mf_175 : MFr (yX10_areColours, cX10_areColours, 10, (some .boolean), 1, false) (1, 2, 0, kX10_areColours) := ⟨mt_4 (List.mem_of_getElem? (i := 169) rfl), mt_1 (List.mem_of_getElem? (i := 1) rfl), ⟨by decide, by decide⟩, by decide +kernel, by decide, rfl, (fun h => by cases h), rfl, Or.inl ⟨rfl, mt_4 (List.mem_of_getElem? (i := 168) rfl)⟩, ckX10_areColours, by decide⟩
set_option maxRecDepth 100000 in
theorem mf_176 : MFr (yX10_areBeads, cX10_areBeads, 10, (some .boolean), 1, false) (1, 2, 0, kX10_areBeads) := ⟨mt_4 (List.mem_of_getElem? (i := 188) rfl), mt_1 (List.mem_of_getElem? (i := 1) rfl), ⟨by decide, by decide⟩, by decide +kernel, by decide, rfl, (fun h => by cases h), rfl, Or.inl ⟨rfl, mt_4 (List.mem_of_getElem? (i := 187) rfl)⟩, ckX10_areBeads, by decide⟩
set_option maxRecDepth 100000 in
theorem mf_177 : MFr (yX10_isBlue, cX10_isBlue, 10, (some .boolean), 1, false) (1, 2, 0, kX10_isBlue) := ⟨mt_5 (List.mem_of_getElem? (i := 53) rfl), mt_1 (List.mem_of_getElem? (i := 1) rfl), ⟨by decide, by decide⟩, by decide +kernel, by decide, rfl, (fun h => by cases h), rfl, Or.inl ⟨rfl, mt_5 (List.mem_of_getElem? (i := 52) rfl)⟩, ckX10_isBlue, by decide⟩
set_option maxRecDepth 100000 in
theorem mf_178 : MFr (yX10_isSeed, cX10_isSeed, 10, (some .boolean), 1, false) (1, 2, 0, kX10_isSeed) := ⟨mt_5 (List.mem_of_getElem? (i := 129) rfl), mt_1 (List.mem_of_getElem? (i := 1) rfl), ⟨by decide, by decide⟩, by decide +kernel, by decide, rfl, (fun h => by cases h), rfl, Or.inl ⟨rfl, mt_5 (List.mem_of_getElem? (i := 128) rfl)⟩, ckX10_isSeed, by decide⟩
set_option maxRecDepth 100000 in
theorem mf_179 : MFr (yX10_slotOf, cX10_slotOf, 10, (some .int), 1, false) (2, 1, 16, kX10_slotOf) := ⟨mt_3 (List.mem_of_getElem? (i := 84) rfl), mt_1 (List.mem_of_getElem? (i := 1) rfl), ⟨by decide, by decide⟩, by decide +kernel, by decide, rfl, (fun h => by cases h), rfl, Or.inr ⟨by decide, by decide, mt_3 (List.mem_of_getElem? (i := 83) rfl), Or.inr (mt_s (List.mem_of_getElem? (i := 27) rfl)), _, _, rfl⟩, ckX10_slotOf, by decide⟩
set_option maxRecDepth 100000 in
theorem mf_180 : MFr (yX10_whoIsIn, cX10_whoIsIn, 10, (some .int), 1, false) (3, 1, 16, kX10_whoIsIn) := ⟨mt_3 (List.mem_of_getElem? (i := 107) rfl), mt_1 (List.mem_of_getElem? (i := 1) rfl), ⟨by decide, by decide⟩, by decide +kernel, by decide, rfl, (fun h => by cases h), rfl, Or.inr ⟨by decide, by decide, mt_3 (List.mem_of_getElem? (i := 106) rfl), Or.inr (mt_s (List.mem_of_getElem? (i := 30) rfl)), _, _, rfl⟩, ckX10_whoIsIn, by decide⟩
set_option maxRecDepth 100000 in
theorem mf_181 : MFr (yX10_besideBits, cX10_besideBits, 10, (some .int), 1, false) (4, 1, 16, kX10_besideBits) := ⟨mt_3 (List.mem_of_getElem? (i := 91) rfl), mt_1 (List.mem_of_getElem? (i := 1) rfl), ⟨by decide, by decide⟩, by decide +kernel, by decide, rfl, (fun h => by cases h), rfl, Or.inr ⟨by decide, by decide, mt_3 (List.mem_of_getElem? (i := 90) rfl), Or.inr (mt_s (List.mem_of_getElem? (i := 28) rfl)), _, _, rfl⟩, ckX10_besideBits, by decide⟩
set_option maxRecDepth 100000 in
theorem mf_182 : MFr (yX10_quarrelsBy, cX10_quarrelsBy, 10, (some .int), 1, false) (2, 1, 16, kX10_quarrelsBy) := ⟨mt_3 (List.mem_of_getElem? (i := 127) rfl), mt_1 (List.mem_of_getElem? (i := 1) rfl), ⟨by decide, by decide⟩, by decide +kernel, by decide, rfl, (fun h => by cases h), rfl, Or.inr ⟨by decide, by decide, mt_3 (List.mem_of_getElem? (i := 126) rfl), Or.inr (mt_s (List.mem_of_getElem? (i := 33) rfl)), _, _, rfl⟩, ckX10_quarrelsBy, by decide⟩
set_option maxRecDepth 100000 in
theorem mf_183 : MFr (yX10_sectors, cX10_sectors, 10, (some .int), 0, false) (1, 1, 16, kX10_sectors) := ⟨mt_3 (List.mem_of_getElem? (i := 159) rfl), mt_1 (List.mem_of_getElem? (i := 1) rfl), ⟨by decide, by decide⟩, by decide +kernel, by decide, rfl, (fun h => by cases h), rfl, Or.inr ⟨by decide, by decide, mt_3 (List.mem_of_getElem? (i := 158) rfl), Or.inr (mt_s (List.mem_of_getElem? (i := 36) rfl)), _, _, rfl⟩, ckX10_sectors, by decide⟩
set_option maxRecDepth 100000 in
theorem mf_184 : MFr (yX10_places, cX10_places, 10, (some .int), 0, false) (1, 1, 16, kX10_places) := ⟨mt_3 (List.mem_of_getElem? (i := 155) rfl), mt_1 (List.mem_of_getElem? (i := 1) rfl), ⟨by decide, by decide⟩, by decide +kernel, by decide, rfl, (fun h => by cases h), rfl, Or.inr ⟨by decide, by decide, mt_3 (List.mem_of_getElem? (i := 154) rfl), Or.inr (mt_s (List.mem_of_getElem? (i := 35) rfl)), _, _, rfl⟩, ckX10_places, by decide⟩
set_option maxRecDepth 100000 in
theorem mf_185 : MFr (yX10_slotAt, cX10_slotAt, 10, (some .int), 1, false) (4, 1, 16, kX10_slotAt) := ⟨mt_3 (List.mem_of_getElem? (i := 163) rfl), mt_1 (List.mem_of_getElem? (i := 1) rfl), ⟨by decide, by decide⟩, by decide +kernel, by decide, rfl, (fun h => by cases h), rfl, Or.inr ⟨by decide, by decide, mt_3 (List.mem_of_getElem? (i := 162) rfl), Or.inr (mt_s (List.mem_of_getElem? (i := 37) rfl)), _, _, rfl⟩, ckX10_slotAt, by decide⟩
set_option maxRecDepth 100000 in
theorem mf_186 : MFr (yX10_placeIn, cX10_placeIn, 10, (some .int), 2, false) (4, 1, 16, kX10_placeIn) := ⟨mt_3 (List.mem_of_getElem? (i := 175) rfl), mt_1 (List.mem_of_getElem? (i := 1) rfl), ⟨by decide, by decide⟩, by decide +kernel, by decide, rfl, (fun h => by cases h), rfl, Or.inr ⟨by decide, by decide, mt_3 (List.mem_of_getElem? (i := 174) rfl), Or.inr (mt_s (List.mem_of_getElem? (i := 38) rfl)), _, _, rfl⟩, ckX10_placeIn, by decide⟩
set_option maxRecDepth 100000 in
theorem mf_187 : MFr (yX10_reached, cX10_reached, 10, (some (.object "StreetTube$Reach")), 0, false) (1, 4, 16, kX10_reached) := ⟨mt_4 (List.mem_of_getElem? (i := 12) rfl), mt_1 (List.mem_of_getElem? (i := 1) rfl), ⟨by decide, by decide⟩, by decide +kernel, by decide, rfl, (fun h => by cases h), ⟨_, rfl⟩, Or.inr ⟨by decide, by decide, mt_4 (List.mem_of_getElem? (i := 11) rfl), Or.inr (mt_s (List.mem_of_getElem? (i := 40) rfl)), _, _, rfl⟩, ckX10_reached, by decide⟩
set_option maxRecDepth 100000 in
theorem mf_188 : MFr (yX10_errandChange, cX10_errandChange, 10, (some .int), 0, false) (1, 1, 16, kX10_errandChange) := ⟨mt_4 (List.mem_of_getElem? (i := 108) rfl), mt_1 (List.mem_of_getElem? (i := 1) rfl), ⟨by decide, by decide⟩, by decide +kernel, by decide, rfl, (fun h => by cases h), rfl, Or.inr ⟨by decide, by decide, mt_4 (List.mem_of_getElem? (i := 107) rfl), Or.inr (mt_s (List.mem_of_getElem? (i := 43) rfl)), _, _, rfl⟩, ckX10_errandChange, by decide⟩
set_option maxRecDepth 100000 in
theorem mf_189 : MFr (yX10_peaceChange, cX10_peaceChange, 10, (some .int), 0, false) (1, 1, 16, kX10_peaceChange) := ⟨mt_4 (List.mem_of_getElem? (i := 145) rfl), mt_1 (List.mem_of_getElem? (i := 1) rfl), ⟨by decide, by decide⟩, by decide +kernel, by decide, rfl, (fun h => by cases h), rfl, Or.inr ⟨by decide, by decide, mt_4 (List.mem_of_getElem? (i := 144) rfl), Or.inr (mt_s (List.mem_of_getElem? (i := 46) rfl)), _, _, rfl⟩, ckX10_peaceChange, by decide⟩
set_option maxRecDepth 100000 in
theorem mf_190 : MFr (yX10_depthOrNot, cX10_depthOrNot, 10, (some .int), 1, false) (2, 1, 16, kX10_depthOrNot) := ⟨mt_4 (List.mem_of_getElem? (i := 125) rfl), mt_1 (List.mem_of_getElem? (i := 1) rfl), ⟨by decide, by decide⟩, by decide +kernel, by decide, rfl, (fun h => by cases h), rfl, Or.inr ⟨by decide, by decide, mt_4 (List.mem_of_getElem? (i := 124) rfl), Or.inr (mt_s (List.mem_of_getElem? (i := 44) rfl)), _, _, rfl⟩, ckX10_depthOrNot, by decide⟩
set_option maxRecDepth 100000 in
theorem mf_191 : MFr (yX10_turnOnTheWay, cX10_turnOnTheWay, 10, (some .int), 2, false) (3, 1, 16, kX10_turnOnTheWay) := ⟨mt_4 (List.mem_of_getElem? (i := 133) rfl), mt_1 (List.mem_of_getElem? (i := 1) rfl), ⟨by decide, by decide⟩, by decide +kernel, by decide, rfl, (fun h => by cases h), rfl, Or.inr ⟨by decide, by decide, mt_4 (List.mem_of_getElem? (i := 132) rfl), Or.inr (mt_s (List.mem_of_getElem? (i := 45) rfl)), _, _, rfl⟩, ckX10_turnOnTheWay, by decide⟩
set_option maxRecDepth 100000 in
theorem mf_192 : MFr (yX10_whomToAsk, cX10_whomToAsk, 10, (some .int), 1, false) (4, 1, 16, kX10_whomToAsk) := ⟨mt_5 (List.mem_of_getElem? (i := 11) rfl), mt_1 (List.mem_of_getElem? (i := 1) rfl), ⟨by decide, by decide⟩, by decide +kernel, by decide, rfl, (fun h => by cases h), rfl, Or.inr ⟨by decide, by decide, mt_5 (List.mem_of_getElem? (i := 10) rfl), Or.inr (mt_s (List.mem_of_getElem? (i := 50) rfl)), _, _, rfl⟩, ckX10_whomToAsk, by decide⟩
set_option maxRecDepth 100000 in
theorem mf_193 : MFr (yX10_slideAll, cX10_slideAll, 10, (some .int), 1, false) (5, 1, 16, kX10_slideAll) := ⟨mt_5 (List.mem_of_getElem? (i := 152) rfl), mt_1 (List.mem_of_getElem? (i := 1) rfl), ⟨by decide, by decide⟩, by decide +kernel, by decide, rfl, (fun h => by cases h), rfl, Or.inr ⟨by decide, by decide, mt_5 (List.mem_of_getElem? (i := 151) rfl), Or.inr (mt_s (List.mem_of_getElem? (i := 53) rfl)), _, _, rfl⟩, ckX10_slideAll, by decide⟩
set_option maxRecDepth 100000 in
theorem mf_194 : MFr (yX10_inLowestTerms, cX10_inLowestTerms, 10, (some .long), 3, false) (12, 3, 0, kX10_inLowestTerms) := ⟨mt_5 (List.mem_of_getElem? (i := 110) rfl), mt_1 (List.mem_of_getElem? (i := 1) rfl), ⟨by decide, by decide⟩, by decide +kernel, by decide, rfl, (fun h => by cases h), rfl, Or.inl ⟨rfl, mt_5 (List.mem_of_getElem? (i := 109) rfl)⟩, ckX10_inLowestTerms, by decide⟩
set_option maxRecDepth 100000 in
theorem mf_195 : MFr (yX11_init, cX11_init, 11, none, 0, true) (1, 0, 17, kX11_init) := ⟨mt_6 (List.mem_of_getElem? (i := 176) rfl), mt_1 (List.mem_of_getElem? (i := 15) rfl), ⟨by decide, by decide⟩, by decide +kernel, by decide, rfl, fun _ => ⟨rfl, rfl⟩, rfl, Or.inr ⟨by decide, by decide, mt_6 (List.mem_of_getElem? (i := 175) rfl), Or.inl rfl, _, _, rfl⟩, ckX11_init, by decide⟩
set_option maxRecDepth 100000 in
theorem mf_196 : MFr (yX11_find, cX11_find, 11, (some .int), 1, false) (4, 1, 17, kX11_find) := ⟨mt_7 (List.mem_of_getElem? (i := 115) rfl), mt_1 (List.mem_of_getElem? (i := 15) rfl), ⟨by decide, by decide⟩, by decide +kernel, by decide, rfl, (fun h => by cases h), rfl, Or.inr ⟨by decide, by decide, mt_7 (List.mem_of_getElem? (i := 113) rfl), Or.inr (mt_7 (List.mem_of_getElem? (i := 114) rfl)), _, _, rfl⟩, ckX11_find, by decide⟩
set_option maxRecDepth 100000 in
theorem mf_197 : MFr (yX11_isTaken, cX11_isTaken, 11, (some .boolean), 1, false) (3, 2, 17, kX11_isTaken) := ⟨mt_7 (List.mem_of_getElem? (i := 123) rfl), mt_1 (List.mem_of_getElem? (i := 15) rfl), ⟨by decide, by decide⟩, by decide +kernel, by decide, rfl, (fun h => by cases h), rfl, Or.inr ⟨by decide, by decide, mt_7 (List.mem_of_getElem? (i := 121) rfl), Or.inr (mt_7 (List.mem_of_getElem? (i := 122) rfl)), _, _, rfl⟩, ckX11_isTaken, by decide⟩
set_option maxRecDepth 100000 in
theorem mf_198 : MFr (yX11_isUnsure, cX11_isUnsure, 11, (some .boolean), 1, false) (3, 2, 17, kX11_isUnsure) := ⟨mt_7 (List.mem_of_getElem? (i := 158) rfl), mt_1 (List.mem_of_getElem? (i := 15) rfl), ⟨by decide, by decide⟩, by decide +kernel, by decide, rfl, (fun h => by cases h), rfl, Or.inr ⟨by decide, by decide, mt_7 (List.mem_of_getElem? (i := 156) rfl), Or.inr (mt_7 (List.mem_of_getElem? (i := 157) rfl)), _, _, rfl⟩, ckX11_isUnsure, by decide⟩
set_option maxRecDepth 100000 in
theorem mf_199 : MFr (yX12_init, cX12_init, 12, none, 0, true) (1, 0, 18, kX12_init) := ⟨mt_6 (List.mem_of_getElem? (i := 33) rfl), mt_1 (List.mem_of_getElem? (i := 12) rfl), ⟨by decide, by decide⟩, by decide +kernel, by decide, rfl, fun _ => ⟨rfl, rfl⟩, rfl, Or.inr ⟨by decide, by decide, mt_6 (List.mem_of_getElem? (i := 32) rfl), Or.inl rfl, _, _, rfl⟩, ckX12_init, by decide⟩
set_option maxRecDepth 100000 in
theorem mf_200 : MFr (yX12_thrown, cX12_thrown, 12, (some .int), 0, false) (1, 1, 18, kX12_thrown) := ⟨mt_6 (List.mem_of_getElem? (i := 159) rfl), mt_1 (List.mem_of_getElem? (i := 12) rfl), ⟨by decide, by decide⟩, by decide +kernel, by decide, rfl, (fun h => by cases h), rfl, Or.inr ⟨by decide, by decide, mt_6 (List.mem_of_getElem? (i := 157) rfl), Or.inr (mt_6 (List.mem_of_getElem? (i := 158) rfl)), _, _, rfl⟩, ckX12_thrown, by decide⟩
set_option maxRecDepth 100000 in
theorem mf_201 : MFr (yX12_refused, cX12_refused, 12, (some .int), 1, false) (2, 1, 18, kX12_refused) := ⟨mt_6 (List.mem_of_getElem? (i := 171) rfl), mt_1 (List.mem_of_getElem? (i := 12) rfl), ⟨by decide, by decide⟩, by decide +kernel, by decide, rfl, (fun h => by cases h), rfl, Or.inr ⟨by decide, by decide, mt_6 (List.mem_of_getElem? (i := 170) rfl), Or.inr (mt_s (List.mem_of_getElem? (i := 55) rfl)), _, _, rfl⟩, ckX12_refused, by decide⟩
set_option maxRecDepth 100000 in
theorem mf_202 : MFr (yX12_lost, cX12_lost, 12, (some .int), 1, false) (2, 1, 18, kX12_lost) := ⟨mt_9 (List.mem_of_getElem? (i := 67) rfl), mt_1 (List.mem_of_getElem? (i := 12) rfl), ⟨by decide, by decide⟩, by decide +kernel, by decide, rfl, (fun h => by cases h), rfl, Or.inr ⟨by decide, by decide, mt_9 (List.mem_of_getElem? (i := 66) rfl), Or.inr (mt_s (List.mem_of_getElem? (i := 123) rfl)), _, _, rfl⟩, ckX12_lost, by decide⟩
set_option maxRecDepth 100000 in
theorem mf_203 : MFr (yX12_denied, cX12_denied, 12, (some .boolean), 1, false) (2, 2, 18, kX12_denied) := ⟨mt_9 (List.mem_of_getElem? (i := 165) rfl), mt_1 (List.mem_of_getElem? (i := 12) rfl), ⟨by decide, by decide⟩, by decide +kernel, by decide, rfl, (fun h => by cases h), rfl, Or.inr ⟨by decide, by decide, mt_9 (List.mem_of_getElem? (i := 164) rfl), Or.inr (mt_s (List.mem_of_getElem? (i := 133) rfl)), _, _, rfl⟩, ckX12_denied, by decide⟩
set_option maxRecDepth 100000 in
theorem mf_204 : MFr (yX12_good, cX12_good, 12, (some .int), 1, false) (2, 1, 18, kX12_good) := ⟨mt_7 (List.mem_of_getElem? (i := 188) rfl), mt_1 (List.mem_of_getElem? (i := 12) rfl), ⟨by decide, by decide⟩, by decide +kernel, by decide, rfl, (fun h => by cases h), rfl, Or.inr ⟨by decide, by decide, mt_7 (List.mem_of_getElem? (i := 187) rfl), Or.inr (mt_s (List.mem_of_getElem? (i := 83) rfl)), _, _, rfl⟩, ckX12_good, by decide⟩
set_option maxRecDepth 100000 in
theorem mf_205 : MFr (yX12_goodLong, cX12_goodLong, 12, (some .long), 1, false) (3, 3, 18, kX12_goodLong) := ⟨mt_8 (List.mem_of_getElem? (i := 204) rfl), mt_1 (List.mem_of_getElem? (i := 12) rfl), ⟨by decide, by decide⟩, by decide +kernel, by decide, rfl, (fun h => by cases h), rfl, Or.inr ⟨by decide, by decide, mt_8 (List.mem_of_getElem? (i := 203) rfl), Or.inr (mt_s (List.mem_of_getElem? (i := 111) rfl)), _, _, rfl⟩, ckX12_goodLong, by decide⟩
set_option maxRecDepth 100000 in
theorem mf_206 : MFr (yX12_granted, cX12_granted, 12, (some .boolean), 0, false) (1, 2, 18, kX12_granted) := ⟨mt_9 (List.mem_of_getElem? (i := 169) rfl), mt_1 (List.mem_of_getElem? (i := 12) rfl), ⟨by decide, by decide⟩, by decide +kernel, by decide, rfl, (fun h => by cases h), rfl, Or.inr ⟨by decide, by decide, mt_9 (List.mem_of_getElem? (i := 168) rfl), Or.inr (mt_s (List.mem_of_getElem? (i := 134) rfl)), _, _, rfl⟩, ckX12_granted, by decide⟩
set_option maxRecDepth 100000 in
theorem mf_207 : MFr (yX12_in, cX12_in, 12, (some .boolean), 3, false) (3, 2, 0, kX12_in) := ⟨mt_7 (List.mem_of_getElem? (i := 86) rfl), mt_1 (List.mem_of_getElem? (i := 12) rfl), ⟨by decide, by decide⟩, by decide +kernel, by decide, rfl, (fun h => by cases h), rfl, Or.inl ⟨rfl, mt_7 (List.mem_of_getElem? (i := 85) rfl)⟩, ckX12_in, by decide⟩
set_option maxRecDepth 100000 in
theorem mf_208 : MFr (yX12_bit, cX12_bit, 12, (some .boolean), 2, false) (2, 2, 0, kX12_bit) := ⟨mt_7 (List.mem_of_getElem? (i := 134) rfl), mt_1 (List.mem_of_getElem? (i := 12) rfl), ⟨by decide, by decide⟩, by decide +kernel, by decide, rfl, (fun h => by cases h), rfl, Or.inl ⟨rfl, mt_7 (List.mem_of_getElem? (i := 133) rfl)⟩, ckX12_bit, by decide⟩
set_option maxRecDepth 100000 in
theorem mf_209 : MFr (yX12_bits, cX12_bits, 12, (some .int), 1, false) (3, 1, 0, kX12_bits) := ⟨mt_8 (List.mem_of_getElem? (i := 6) rfl), mt_1 (List.mem_of_getElem? (i := 12) rfl), ⟨by decide, by decide⟩, by decide +kernel, by decide, rfl, (fun h => by cases h), rfl, Or.inl ⟨rfl, mt_8 (List.mem_of_getElem? (i := 5) rfl)⟩, ckX12_bits, by decide⟩
set_option maxRecDepth 100000 in
theorem mf_210 : MFr (yX12_common, cX12_common, 12, (some .long), 2, false) (10, 3, 0, kX12_common) := ⟨mt_8 (List.mem_of_getElem? (i := 69) rfl), mt_1 (List.mem_of_getElem? (i := 12) rfl), ⟨by decide, by decide⟩, by decide +kernel, by decide, rfl, (fun h => by cases h), rfl, Or.inl ⟨rfl, mt_8 (List.mem_of_getElem? (i := 68) rfl)⟩, ckX12_common, by decide⟩
set_option maxRecDepth 100000 in
theorem mf_211 : MFr (yX12_fraction, cX12_fraction, 12, (some .long), 3, false) (6, 3, 18, kX12_fraction) := ⟨mt_9 (List.mem_of_getElem? (i := 105) rfl), mt_1 (List.mem_of_getElem? (i := 12) rfl), ⟨by decide, by decide⟩, by decide +kernel, by decide, rfl, (fun h => by cases h), rfl, Or.inr ⟨by decide, by decide, mt_9 (List.mem_of_getElem? (i := 104) rfl), Or.inr (mt_s (List.mem_of_getElem? (i := 127) rfl)), _, _, rfl⟩, ckX12_fraction, by decide⟩
set_option maxRecDepth 100000 in
theorem mf_212 : MFr (yX12_power, cX12_power, 12, (some .long), 2, false) (6, 3, 0, kX12_power) := ⟨mt_8 (List.mem_of_getElem? (i := 200) rfl), mt_1 (List.mem_of_getElem? (i := 12) rfl), ⟨by decide, by decide⟩, by decide +kernel, by decide, rfl, (fun h => by cases h), rfl, Or.inl ⟨rfl, mt_8 (List.mem_of_getElem? (i := 199) rfl)⟩, ckX12_power, by decide⟩
set_option maxRecDepth 100000 in
theorem mf_213 : MFr (yX12_byteAt, cX12_byteAt, 12, (some .int), 1, false) (2, 1, 18, kX12_byteAt) := ⟨mt_7 (List.mem_of_getElem? (i := 37) rfl), mt_1 (List.mem_of_getElem? (i := 12) rfl), ⟨by decide, by decide⟩, by decide +kernel, by decide, rfl, (fun h => by cases h), rfl, Or.inr ⟨by decide, by decide, mt_7 (List.mem_of_getElem? (i := 36) rfl), Or.inr (mt_s (List.mem_of_getElem? (i := 57) rfl)), _, _, rfl⟩, ckX12_byteAt, by decide⟩
set_option maxRecDepth 100000 in
theorem mf_214 : MFr (yX12_isLetter, cX12_isLetter, 12, (some .boolean), 1, false) (1, 2, 0, kX12_isLetter) := ⟨mt_7 (List.mem_of_getElem? (i := 40) rfl), mt_1 (List.mem_of_getElem? (i := 12) rfl), ⟨by decide, by decide⟩, by decide +kernel, by decide, rfl, (fun h => by cases h), rfl, Or.inl ⟨rfl, mt_7 (List.mem_of_getElem? (i := 39) rfl)⟩, ckX12_isLetter, by decide⟩
set_option maxRecDepth 100000 in
theorem mf_215 : MFr (yX12_isDigit, cX12_isDigit, 12, (some .boolean), 1, false) (1, 2, 0, kX12_isDigit) := ⟨mt_7 (List.mem_of_getElem? (i := 44) rfl), mt_1 (List.mem_of_getElem? (i := 12) rfl), ⟨by decide, by decide⟩, by decide +kernel, by decide, rfl, (fun h => by cases h), rfl, Or.inl ⟨rfl, mt_7 (List.mem_of_getElem? (i := 43) rfl)⟩, ckX12_isDigit, by decide⟩
set_option maxRecDepth 100000 in
theorem mf_216 : MFr (yX12_packed, cX12_packed, 12, (some .long), 1, false) (4, 3, 0, kX12_packed) := ⟨mt_7 (List.mem_of_getElem? (i := 60) rfl), mt_1 (List.mem_of_getElem? (i := 12) rfl), ⟨by decide, by decide⟩, by decide +kernel, by decide, rfl, (fun h => by cases h), rfl, Or.inl ⟨rfl, mt_7 (List.mem_of_getElem? (i := 59) rfl)⟩, ckX12_packed, by decide⟩
set_option maxRecDepth 100000 in
theorem mf_217 : MFr (yX12_goesOn, cX12_goesOn, 12, none, 0, false) (3, 0, 18, kX12_goesOn) := ⟨mt_7 (List.mem_of_getElem? (i := 33) rfl), mt_1 (List.mem_of_getElem? (i := 12) rfl), ⟨by decide, by decide⟩, by decide +kernel, by decide, rfl, (fun h => by cases h), rfl, Or.inr ⟨by decide, by decide, mt_7 (List.mem_of_getElem? (i := 32) rfl), Or.inr (mt_s (List.mem_of_getElem? (i := 56) rfl)), _, _, rfl⟩, ckX12_goesOn, by decide⟩
set_option maxRecDepth 100000 in
theorem mf_218 : MFr (yX12_flaw, cX12_flaw, 12, none, 1, false) (2, 0, 18, kX12_flaw) := ⟨mt_7 (List.mem_of_getElem? (i := 70) rfl), mt_1 (List.mem_of_getElem? (i := 12) rfl), ⟨by decide, by decide⟩, by decide +kernel, by decide, rfl, (fun h => by cases h), rfl, Or.inr ⟨by decide, by decide, mt_7 (List.mem_of_getElem? (i := 69) rfl), Or.inr (mt_s (List.mem_of_getElem? (i := 62) rfl)), _, _, rfl⟩, ckX12_flaw, by decide⟩
set_option maxRecDepth 100000 in
theorem mf_219 : MFr (yX12_isWord, cX12_isWord, 12, (some .boolean), 1, false) (2, 2, 18, kX12_isWord) := ⟨mt_7 (List.mem_of_getElem? (i := 57) rfl), mt_1 (List.mem_of_getElem? (i := 12) rfl), ⟨by decide, by decide⟩, by decide +kernel, by decide, rfl, (fun h => by cases h), rfl, Or.inr ⟨by decide, by decide, mt_7 (List.mem_of_getElem? (i := 56) rfl), Or.inr (mt_s (List.mem_of_getElem? (i := 60) rfl)), _, _, rfl⟩, ckX12_isWord, by decide⟩
set_option maxRecDepth 100000 in
theorem mf_220 : MFr (yX12_eatsSemicolon, cX12_eatsSemicolon, 12, (some .boolean), 0, false) (2, 2, 18, kX12_eatsSemicolon) := ⟨mt_7 (List.mem_of_getElem? (i := 168) rfl), mt_1 (List.mem_of_getElem? (i := 12) rfl), ⟨by decide, by decide⟩, by decide +kernel, by decide, rfl, (fun h => by cases h), rfl, Or.inr ⟨by decide, by decide, mt_7 (List.mem_of_getElem? (i := 167) rfl), Or.inr (mt_s (List.mem_of_getElem? (i := 78) rfl)), _, _, rfl⟩, ckX12_eatsSemicolon, by decide⟩
set_option maxRecDepth 100000 in
theorem mf_221 : MFr (yX12_needs, cX12_needs, 12, none, 1, false) (2, 0, 18, kX12_needs) := ⟨mt_7 (List.mem_of_getElem? (i := 79) rfl), mt_1 (List.mem_of_getElem? (i := 12) rfl), ⟨by decide, by decide⟩, by decide +kernel, by decide, rfl, (fun h => by cases h), rfl, Or.inr ⟨by decide, by decide, mt_7 (List.mem_of_getElem? (i := 78) rfl), Or.inr (mt_s (List.mem_of_getElem? (i := 64) rfl)), _, _, rfl⟩, ckX12_needs, by decide⟩
set_option maxRecDepth 100000 in
theorem mf_222 : MFr (yX12_wholeAt, cX12_wholeAt, 12, (some .int), 2, false) (3, 1, 18, kX12_wholeAt) := ⟨mt_7 (List.mem_of_getElem? (i := 83) rfl), mt_1 (List.mem_of_getElem? (i := 12) rfl), ⟨by decide, by decide⟩, by decide +kernel, by decide, rfl, (fun h => by cases h), rfl, Or.inr ⟨by decide, by decide, mt_7 (List.mem_of_getElem? (i := 82) rfl), Or.inr (mt_s (List.mem_of_getElem? (i := 65) rfl)), _, _, rfl⟩, ckX12_wholeAt, by decide⟩
set_option maxRecDepth 100000 in
theorem mf_223 : MFr (yX12_readPart, cX12_readPart, 12, (some .int), 3, false) (5, 1, 18, kX12_readPart) := ⟨mt_7 (List.mem_of_getElem? (i := 75) rfl), mt_1 (List.mem_of_getElem? (i := 12) rfl), ⟨by decide, by decide⟩, by decide +kernel, by decide, rfl, (fun h => by cases h), rfl, Or.inr ⟨by decide, by decide, mt_7 (List.mem_of_getElem? (i := 74) rfl), Or.inr (mt_s (List.mem_of_getElem? (i := 63) rfl)), _, _, rfl⟩, ckX12_readPart, by decide⟩
set_option maxRecDepth 100000 in
theorem mf_224 : MFr (yX12_isName, cX12_isName, 12, (some .boolean), 0, false) (1, 2, 18, kX12_isName) := ⟨mt_7 (List.mem_of_getElem? (i := 105) rfl), mt_1 (List.mem_of_getElem? (i := 12) rfl), ⟨by decide, by decide⟩, by decide +kernel, by decide, rfl, (fun h => by cases h), rfl, Or.inr ⟨by decide, by decide, mt_7 (List.mem_of_getElem? (i := 104) rfl), Or.inr (mt_s (List.mem_of_getElem? (i := 69) rfl)), _, _, rfl⟩, ckX12_isName, by decide⟩
set_option maxRecDepth 100000 in
theorem mf_225 : MFr (yX12_lineBegins, cX12_lineBegins, 12, none, 2, false) (3, 0, 18, kX12_lineBegins) := ⟨mt_7 (List.mem_of_getElem? (i := 97) rfl), mt_1 (List.mem_of_getElem? (i := 12) rfl), ⟨by decide, by decide⟩, by decide +kernel, by decide, rfl, (fun h => by cases h), rfl, Or.inr ⟨by decide, by decide, mt_7 (List.mem_of_getElem? (i := 96) rfl), Or.inr (mt_s (List.mem_of_getElem? (i := 67) rfl)), _, _, rfl⟩, ckX12_lineBegins, by decide⟩
set_option maxRecDepth 100000 in
theorem mf_226 : MFr (yX12_readFresh, cX12_readFresh, 12, (some .long), 0, false) (3, 3, 18, kX12_readFresh) := ⟨mt_7 (List.mem_of_getElem? (i := 101) rfl), mt_1 (List.mem_of_getElem? (i := 12) rfl), ⟨by decide, by decide⟩, by decide +kernel, by decide, rfl, (fun h => by cases h), rfl, Or.inr ⟨by decide, by decide, mt_7 (List.mem_of_getElem? (i := 100) rfl), Or.inr (mt_s (List.mem_of_getElem? (i := 68) rfl)), _, _, rfl⟩, ckX12_readFresh, by decide⟩
set_option maxRecDepth 100000 in
theorem mf_227 : MFr (yX12_names, cX12_names, 12, none, 3, false) (5, 0, 18, kX12_names) := ⟨mt_7 (List.mem_of_getElem? (i := 127) rfl), mt_1 (List.mem_of_getElem? (i := 12) rfl), ⟨by decide, by decide⟩, by decide +kernel, by decide, rfl, (fun h => by cases h), rfl, Or.inr ⟨by decide, by decide, mt_7 (List.mem_of_getElem? (i := 126) rfl), Or.inr (mt_s (List.mem_of_getElem? (i := 70) rfl)), _, _, rfl⟩, ckX12_names, by decide⟩
set_option maxRecDepth 100000 in
theorem mf_228 : MFr (yX12_personAtHand, cX12_personAtHand, 12, (some .int), 0, false) (2, 1, 18, kX12_personAtHand) := ⟨mt_7 (List.mem_of_getElem? (i := 146) rfl), mt_1 (List.mem_of_getElem? (i := 12) rfl), ⟨by decide, by decide⟩, by decide +kernel, by decide, rfl, (fun h => by cases h), rfl, Or.inr ⟨by decide, by decide, mt_7 (List.mem_of_getElem? (i := 145) rfl), Or.inr (mt_s (List.mem_of_getElem? (i := 74) rfl)), _, _, rfl⟩, ckX12_personAtHand, by decide⟩
set_option maxRecDepth 100000 in
theorem mf_229 : MFr (yX12_readTwo, cX12_readTwo, 12, (some .int), 0, false) (2, 1, 18, kX12_readTwo) := ⟨mt_7 (List.mem_of_getElem? (i := 142) rfl), mt_1 (List.mem_of_getElem? (i := 12) rfl), ⟨by decide, by decide⟩, by decide +kernel, by decide, rfl, (fun h => by cases h), rfl, Or.inr ⟨by decide, by decide, mt_7 (List.mem_of_getElem? (i := 141) rfl), Or.inr (mt_s (List.mem_of_getElem? (i := 73) rfl)), _, _, rfl⟩, ckX12_readTwo, by decide⟩
set_option maxRecDepth 100000 in
theorem mf_230 : MFr (yX12_readAll, cX12_readAll, 12, none, 0, false) (2, 0, 18, kX12_readAll) := ⟨mt_7 (List.mem_of_getElem? (i := 48) rfl), mt_1 (List.mem_of_getElem? (i := 12) rfl), ⟨by decide, by decide⟩, by decide +kernel, by decide, rfl, (fun h => by cases h), rfl, Or.inr ⟨by decide, by decide, mt_7 (List.mem_of_getElem? (i := 47) rfl), Or.inr (mt_s (List.mem_of_getElem? (i := 58) rfl)), _, _, rfl⟩, ckX12_readAll, by decide⟩
set_option maxRecDepth 100000 in
theorem mf_231 : MFr (yX12_readLine, cX12_readLine, 12, none, 0, false) (1, 0, 18, kX12_readLine) := ⟨mt_7 (List.mem_of_getElem? (i := 52) rfl), mt_1 (List.mem_of_getElem? (i := 12) rfl), ⟨by decide, by decide⟩, by decide +kernel, by decide, rfl, (fun h => by cases h), rfl, Or.inr ⟨by decide, by decide, mt_7 (List.mem_of_getElem? (i := 51) rfl), Or.inr (mt_s (List.mem_of_getElem? (i := 59) rfl)), _, _, rfl⟩, ckX12_readLine, by decide⟩
set_option maxRecDepth 100000 in
theorem mf_232 : MFr (yX12_readTube, cX12_readTube, 12, none, 0, false) (4, 0, 18, kX12_readTube) := ⟨mt_7 (List.mem_of_getElem? (i := 66) rfl), mt_1 (List.mem_of_getElem? (i := 12) rfl), ⟨by decide, by decide⟩, by decide +kernel, by decide, rfl, (fun h => by cases h), rfl, Or.inr ⟨by decide, by decide, mt_7 (List.mem_of_getElem? (i := 65) rfl), Or.inr (mt_s (List.mem_of_getElem? (i := 61) rfl)), _, _, rfl⟩, ckX12_readTube, by decide⟩
set_option maxRecDepth 100000 in
theorem mf_233 : MFr (yX12_readPerson, cX12_readPerson, 12, none, 0, false) (5, 0, 18, kX12_readPerson) := ⟨mt_7 (List.mem_of_getElem? (i := 93) rfl), mt_1 (List.mem_of_getElem? (i := 12) rfl), ⟨by decide, by decide⟩, by decide +kernel, by decide, rfl, (fun h => by cases h), rfl, Or.inr ⟨by decide, by decide, mt_7 (List.mem_of_getElem? (i := 92) rfl), Or.inr (mt_s (List.mem_of_getElem? (i := 66) rfl)), _, _, rfl⟩, ckX12_readPerson, by decide⟩
set_option maxRecDepth 100000 in
theorem mf_234 : MFr (yX12_readTurn, cX12_readTurn, 12, none, 0, false) (6, 0, 18, kX12_readTurn) := ⟨mt_7 (List.mem_of_getElem? (i := 131) rfl), mt_1 (List.mem_of_getElem? (i := 12) rfl), ⟨by decide, by decide⟩, by decide +kernel, by decide, rfl, (fun h => by cases h), rfl, Or.inr ⟨by decide, by decide, mt_7 (List.mem_of_getElem? (i := 130) rfl), Or.inr (mt_s (List.mem_of_getElem? (i := 71) rfl)), _, _, rfl⟩, ckX12_readTurn, by decide⟩
set_option maxRecDepth 100000 in
theorem mf_235 : MFr (yX12_readQuarrel, cX12_readQuarrel, 12, none, 0, false) (2, 0, 18, kX12_readQuarrel) := ⟨mt_7 (List.mem_of_getElem? (i := 138) rfl), mt_1 (List.mem_of_getElem? (i := 12) rfl), ⟨by decide, by decide⟩, by decide +kernel, by decide, rfl, (fun h => by cases h), rfl, Or.inr ⟨by decide, by decide, mt_7 (List.mem_of_getElem? (i := 137) rfl), Or.inr (mt_s (List.mem_of_getElem? (i := 72) rfl)), _, _, rfl⟩, ckX12_readQuarrel, by decide⟩
set_option maxRecDepth 100000 in
theorem mf_236 : MFr (yX12_readWish, cX12_readWish, 12, none, 1, false) (3, 0, 18, kX12_readWish) := ⟨mt_7 (List.mem_of_getElem? (i := 150) rfl), mt_1 (List.mem_of_getElem? (i := 12) rfl), ⟨by decide, by decide⟩, by decide +kernel, by decide, rfl, (fun h => by cases h), rfl, Or.inr ⟨by decide, by decide, mt_7 (List.mem_of_getElem? (i := 149) rfl), Or.inr (mt_s (List.mem_of_getElem? (i := 75) rfl)), _, _, rfl⟩, ckX12_readWish, by decide⟩
set_option maxRecDepth 100000 in
theorem mf_237 : MFr (yX12_readUnsure, cX12_readUnsure, 12, none, 0, false) (3, 0, 18, kX12_readUnsure) := ⟨mt_7 (List.mem_of_getElem? (i := 154) rfl), mt_1 (List.mem_of_getElem? (i := 12) rfl), ⟨by decide, by decide⟩, by decide +kernel, by decide, rfl, (fun h => by cases h), rfl, Or.inr ⟨by decide, by decide, mt_7 (List.mem_of_getElem? (i := 153) rfl), Or.inr (mt_s (List.mem_of_getElem? (i := 76) rfl)), _, _, rfl⟩, ckX12_readUnsure, by decide⟩
set_option maxRecDepth 100000 in
theorem mf_238 : MFr (yX12_readSeen, cX12_readSeen, 12, none, 0, false) (3, 0, 18, kX12_readSeen) := ⟨mt_7 (List.mem_of_getElem? (i := 162) rfl), mt_1 (List.mem_of_getElem? (i := 12) rfl), ⟨by decide, by decide⟩, by decide +kernel, by decide, rfl, (fun h => by cases h), rfl, Or.inr ⟨by decide, by decide, mt_7 (List.mem_of_getElem? (i := 161) rfl), Or.inr (mt_s (List.mem_of_getElem? (i := 77) rfl)), _, _, rfl⟩, ckX12_readSeen, by decide⟩
set_option maxRecDepth 100000 in
theorem mf_239 : MFr (yX12_feed, cX12_feed, 12, (some .int), 5, false) (8, 1, 18, kX12_feed) := ⟨mt_6 (List.mem_of_getElem? (i := 163) rfl), mt_1 (List.mem_of_getElem? (i := 12) rfl), ⟨by decide, by decide⟩, by decide +kernel, by decide, rfl, (fun h => by cases h), rfl, Or.inr ⟨by decide, by decide, mt_6 (List.mem_of_getElem? (i := 161) rfl), Or.inr (mt_6 (List.mem_of_getElem? (i := 162) rfl)), _, _, rfl⟩, ckX12_feed, by decide⟩
set_option maxRecDepth 100000 in
theorem mf_240 : MFr (yX12_tube, cX12_tube, 12, (some .int), 1, false) (3, 1, 18, kX12_tube) := ⟨mt_6 (List.mem_of_getElem? (i := 167) rfl), mt_1 (List.mem_of_getElem? (i := 12) rfl), ⟨by decide, by decide⟩, by decide +kernel, by decide, rfl, (fun h => by cases h), rfl, Or.inr ⟨by decide, by decide, mt_6 (List.mem_of_getElem? (i := 165) rfl), Or.inr (mt_6 (List.mem_of_getElem? (i := 166) rfl)), _, _, rfl⟩, ckX12_tube, by decide⟩
set_option maxRecDepth 100000 in
theorem mf_241 : MFr (yX12_fault, cX12_fault, 12, (some .int), 0, false) (1, 1, 18, kX12_fault) := ⟨mt_7 (List.mem_of_getElem? (i := 192) rfl), mt_1 (List.mem_of_getElem? (i := 12) rfl), ⟨by decide, by decide⟩, by decide +kernel, by decide, rfl, (fun h => by cases h), rfl, Or.inr ⟨by decide, by decide, mt_7 (List.mem_of_getElem? (i := 190) rfl), Or.inr (mt_7 (List.mem_of_getElem? (i := 191) rfl)), _, _, rfl⟩, ckX12_fault, by decide⟩
set_option maxRecDepth 100000 in
theorem mf_242 : MFr (yX12_where, cX12_where, 12, (some .int), 0, false) (1, 1, 18, kX12_where) := ⟨mt_7 (List.mem_of_getElem? (i := 196) rfl), mt_1 (List.mem_of_getElem? (i := 12) rfl), ⟨by decide, by decide⟩, by decide +kernel, by decide, rfl, (fun h => by cases h), rfl, Or.inr ⟨by decide, by decide, mt_7 (List.mem_of_getElem? (i := 194) rfl), Or.inr (mt_7 (List.mem_of_getElem? (i := 195) rfl)), _, _, rfl⟩, ckX12_where, by decide⟩
set_option maxRecDepth 100000 in
theorem mf_243 : MFr (yX12_isPerson, cX12_isPerson, 12, (some .boolean), 1, false) (2, 2, 18, kX12_isPerson) := ⟨mt_7 (List.mem_of_getElem? (i := 204) rfl), mt_1 (List.mem_of_getElem? (i := 12) rfl), ⟨by decide, by decide⟩, by decide +kernel, by decide, rfl, (fun h => by cases h), rfl, Or.inr ⟨by decide, by decide, mt_7 (List.mem_of_getElem? (i := 203) rfl), Or.inr (mt_s (List.mem_of_getElem? (i := 84) rfl)), _, _, rfl⟩, ckX12_isPerson, by decide⟩
set_option maxRecDepth 100000 in
theorem mf_244 : MFr (yX12_isSlot, cX12_isSlot, 12, (some .boolean), 1, false) (2, 2, 18, kX12_isSlot) := ⟨mt_7 (List.mem_of_getElem? (i := 223) rfl), mt_1 (List.mem_of_getElem? (i := 12) rfl), ⟨by decide, by decide⟩, by decide +kernel, by decide, rfl, (fun h => by cases h), rfl, Or.inr ⟨by decide, by decide, mt_7 (List.mem_of_getElem? (i := 222) rfl), Or.inr (mt_s (List.mem_of_getElem? (i := 87) rfl)), _, _, rfl⟩, ckX12_isSlot, by decide⟩
set_option maxRecDepth 100000 in
theorem mf_245 : MFr (yX12_isTurn, cX12_isTurn, 12, (some .boolean), 1, false) (2, 2, 18, kX12_isTurn) := ⟨mt_7 (List.mem_of_getElem? (i := 235) rfl), mt_1 (List.mem_of_getElem? (i := 12) rfl), ⟨by decide, by decide⟩, by decide +kernel, by decide, rfl, (fun h => by cases h), rfl, Or.inr ⟨by decide, by decide, mt_7 (List.mem_of_getElem? (i := 234) rfl), Or.inr (mt_s (List.mem_of_getElem? (i := 89) rfl)), _, _, rfl⟩, ckX12_isTurn, by decide⟩
set_option maxRecDepth 100000 in
theorem mf_246 : MFr (yX12_areTwo, cX12_areTwo, 12, (some .boolean), 2, false) (3, 2, 18, kX12_areTwo) := ⟨mt_8 (List.mem_of_getElem? (i := 50) rfl), mt_1 (List.mem_of_getElem? (i := 12) rfl), ⟨by decide, by decide⟩, by decide +kernel, by decide, rfl, (fun h => by cases h), rfl, Or.inr ⟨by decide, by decide, mt_8 (List.mem_of_getElem? (i := 49) rfl), Or.inr (mt_s (List.mem_of_getElem? (i := 95) rfl)), _, _, rfl⟩, ckX12_areTwo, by decide⟩
set_option maxRecDepth 100000 in
theorem mf_247 : MFr (yX12_works, cX12_works, 12, none, 0, false) (2, 0, 18, kX12_works) := ⟨mt_7 (List.mem_of_getElem? (i := 208) rfl), mt_1 (List.mem_of_getElem? (i := 12) rfl), ⟨by decide, by decide⟩, by decide +kernel, by decide, rfl, (fun h => by cases h), rfl, Or.inr ⟨by decide, by decide, mt_7 (List.mem_of_getElem? (i := 207) rfl), Or.inr (mt_s (List.mem_of_getElem? (i := 85) rfl)), _, _, rfl⟩, ckX12_works, by decide⟩
set_option maxRecDepth 100000 in
theorem mf_248 : MFr (yX12_slid, cX12_slid, 12, (some .int), 2, false) (3, 1, 18, kX12_slid) := ⟨mt_7 (List.mem_of_getElem? (i := 184) rfl), mt_1 (List.mem_of_getElem? (i := 12) rfl), ⟨by decide, by decide⟩, by decide +kernel, by decide, rfl, (fun h => by cases h), rfl, Or.inr ⟨by decide, by decide, mt_7 (List.mem_of_getElem? (i := 183) rfl), Or.inr (mt_s (List.mem_of_getElem? (i := 82) rfl)), _, _, rfl⟩, ckX12_slid, by decide⟩
set_option maxRecDepth 100000 in
theorem mf_249 : MFr (yX12_ranked, cX12_ranked, 12, (some .int), 0, false) (5, 1, 18, kX12_ranked) := ⟨mt_7 (List.mem_of_getElem? (i := 176) rfl), mt_1 (List.mem_of_getElem? (i := 12) rfl), ⟨by decide, by decide⟩, by decide +kernel, by decide, rfl, (fun h => by cases h), rfl, Or.inr ⟨by decide, by decide, mt_7 (List.mem_of_getElem? (i := 175) rfl), Or.inr (mt_s (List.mem_of_getElem? (i := 80) rfl)), _, _, rfl⟩, ckX12_ranked, by decide⟩
set_option maxRecDepth 100000 in
theorem mf_250 : MFr (yX12_layWay, cX12_layWay, 12, none, 1, false) (3, 0, 18, kX12_layWay) := ⟨mt_8 (List.mem_of_getElem? (i := 121) rfl), mt_1 (List.mem_of_getElem? (i := 12) rfl), ⟨by decide, by decide⟩, by decide +kernel, by decide, rfl, (fun h => by cases h), rfl, Or.inr ⟨by decide, by decide, mt_8 (List.mem_of_getElem? (i := 120) rfl), Or.inr (mt_s (List.mem_of_getElem? (i := 102) rfl)), _, _, rfl⟩, ckX12_layWay, by decide⟩
set_option maxRecDepth 100000 in
theorem mf_251 : MFr (yX12_adds, cX12_adds, 12, none, 3, false) (5, 0, 18, kX12_adds) := ⟨mt_7 (List.mem_of_getElem? (i := 180) rfl), mt_1 (List.mem_of_getElem? (i := 12) rfl), ⟨by decide, by decide⟩, by decide +kernel, by decide, rfl, (fun h => by cases h), rfl, Or.inr ⟨by decide, by decide, mt_7 (List.mem_of_getElem? (i := 179) rfl), Or.inr (mt_s (List.mem_of_getElem? (i := 81) rfl)), _, _, rfl⟩, ckX12_adds, by decide⟩
set_option maxRecDepth 100000 in
theorem mf_252 : MFr (yX12_reaches, cX12_reaches, 12, none, 1, false) (5, 0, 18, kX12_reaches) := ⟨mt_7 (List.mem_of_getElem? (i := 172) rfl), mt_1 (List.mem_of_getElem? (i := 12) rfl), ⟨by decide, by decide⟩, by decide +kernel, by decide, rfl, (fun h => by cases h), rfl, Or.inr ⟨by decide, by decide, mt_7 (List.mem_of_getElem? (i := 171) rfl), Or.inr (mt_s (List.mem_of_getElem? (i := 79) rfl)), _, _, rfl⟩, ckX12_reaches, by decide⟩
set_option maxRecDepth 100000 in
theorem mf_253 : MFr (yX12_comes, cX12_comes, 12, (some .int), 2, false) (3, 1, 18, kX12_comes) := ⟨mt_8 (List.mem_of_getElem? (i := 129) rfl), mt_1 (List.mem_of_getElem? (i := 12) rfl), ⟨by decide, by decide⟩, by decide +kernel, by decide, rfl, (fun h => by cases h), rfl, Or.inr ⟨by decide, by decide, mt_8 (List.mem_of_getElem? (i := 128) rfl), Or.inr (mt_s (List.mem_of_getElem? (i := 103) rfl)), _, _, rfl⟩, ckX12_comes, by decide⟩
set_option maxRecDepth 100000 in
theorem mf_254 : MFr (yX12_goesBy, cX12_goesBy, 12, none, 1, false) (3, 0, 18, kX12_goesBy) := ⟨mt_8 (List.mem_of_getElem? (i := 157) rfl), mt_1 (List.mem_of_getElem? (i := 12) rfl), ⟨by decide, by decide⟩, by decide +kernel, by decide, rfl, (fun h => by cases h), rfl, Or.inr ⟨by decide, by decide, mt_8 (List.mem_of_getElem? (i := 156) rfl), Or.inr (mt_s (List.mem_of_getElem? (i := 106) rfl)), _, _, rfl⟩, ckX12_goesBy, by decide⟩
set_option maxRecDepth 100000 in
theorem mf_255 : MFr (yX12_ringsOf, cX12_ringsOf, 12, (some .int), 0, false) (5, 1, 18, kX12_ringsOf) := ⟨mt_8 (List.mem_of_getElem? (i := 81) rfl), mt_1 (List.mem_of_getElem? (i := 12) rfl), ⟨by decide, by decide⟩, by decide +kernel, by decide, rfl, (fun h => by cases h), rfl, Or.inr ⟨by decide, by decide, mt_8 (List.mem_of_getElem? (i := 80) rfl), Or.inr (mt_s (List.mem_of_getElem? (i := 98) rfl)), _, _, rfl⟩, ckX12_ringsOf, by decide⟩
set_option maxRecDepth 100000 in
theorem mf_256 : MFr (yX12_isEven, cX12_isEven, 12, (some .boolean), 0, false) (1, 2, 18, kX12_isEven) := ⟨mt_8 (List.mem_of_getElem? (i := 77) rfl), mt_1 (List.mem_of_getElem? (i := 12) rfl), ⟨by decide, by decide⟩, by decide +kernel, by decide, rfl, (fun h => by cases h), rfl, Or.inr ⟨by decide, by decide, mt_8 (List.mem_of_getElem? (i := 76) rfl), Or.inr (mt_s (List.mem_of_getElem? (i := 97) rfl)), _, _, rfl⟩, ckX12_isEven, by decide⟩
set_option maxRecDepth 100000 in
theorem mf_257 : MFr (yX12_fixed, cX12_fixed, 12, (some .int), 0, false) (3, 1, 18, kX12_fixed) := ⟨mt_8 (List.mem_of_getElem? (i := 89) rfl), mt_1 (List.mem_of_getElem? (i := 12) rfl), ⟨by decide, by decide⟩, by decide +kernel, by decide, rfl, (fun h => by cases h), rfl, Or.inr ⟨by decide, by decide, mt_8 (List.mem_of_getElem? (i := 88) rfl), Or.inr (mt_s (List.mem_of_getElem? (i := 99) rfl)), _, _, rfl⟩, ckX12_fixed, by decide⟩
set_option maxRecDepth 100000 in
theorem mf_258 : MFr (yX12_areBeside, cX12_areBeside, 12, (some .boolean), 2, false) (2, 2, 0, kX12_areBeside) := ⟨mt_7 (List.mem_of_getElem? (i := 215) rfl), mt_1 (List.mem_of_getElem? (i := 12) rfl), ⟨by decide, by decide⟩, by decide +kernel, by decide, rfl, (fun h => by cases h), rfl, Or.inl ⟨rfl, mt_7 (List.mem_of_getElem? (i := 214) rfl)⟩, ckX12_areBeside, by decide⟩
set_option maxRecDepth 100000 in
theorem mf_259 : MFr (yX12_besideOf, cX12_besideOf, 12, (some .int), 1, false) (4, 1, 18, kX12_besideOf) := ⟨mt_7 (List.mem_of_getElem? (i := 212) rfl), mt_1 (List.mem_of_getElem? (i := 12) rfl), ⟨by decide, by decide⟩, by decide +kernel, by decide, rfl, (fun h => by cases h), rfl, Or.inr ⟨by decide, by decide, mt_7 (List.mem_of_getElem? (i := 211) rfl), Or.inr (mt_s (List.mem_of_getElem? (i := 86) rfl)), _, _, rfl⟩, ckX12_besideOf, by decide⟩
set_option maxRecDepth 100000 in
theorem mf_260 : MFr (yX12_person, cX12_person, 12, (some .int), 2, false) (3, 1, 18, kX12_person) := ⟨mt_7 (List.mem_of_getElem? (i := 200) rfl), mt_1 (List.mem_of_getElem? (i := 12) rfl), ⟨by decide, by decide⟩, by decide +kernel, by decide, rfl, (fun h => by cases h), rfl, Or.inr ⟨by decide, by decide, mt_7 (List.mem_of_getElem? (i := 198) rfl), Or.inr (mt_7 (List.mem_of_getElem? (i := 199) rfl)), _, _, rfl⟩, ckX12_person, by decide⟩
set_option maxRecDepth 100000 in
theorem mf_261 : MFr (yX12_whoIn, cX12_whoIn, 12, (some .int), 1, false) (3, 1, 18, kX12_whoIn) := ⟨mt_7 (List.mem_of_getElem? (i := 227) rfl), mt_1 (List.mem_of_getElem? (i := 12) rfl), ⟨by decide, by decide⟩, by decide +kernel, by decide, rfl, (fun h => by cases h), rfl, Or.inr ⟨by decide, by decide, mt_7 (List.mem_of_getElem? (i := 226) rfl), Or.inr (mt_s (List.mem_of_getElem? (i := 88) rfl)), _, _, rfl⟩, ckX12_whoIn, by decide⟩
set_option maxRecDepth 100000 in
theorem mf_262 : MFr (yX12_slot, cX12_slot, 12, (some .int), 1, false) (2, 1, 18, kX12_slot) := ⟨mt_7 (List.mem_of_getElem? (i := 219) rfl), mt_1 (List.mem_of_getElem? (i := 12) rfl), ⟨by decide, by decide⟩, by decide +kernel, by decide, rfl, (fun h => by cases h), rfl, Or.inr ⟨by decide, by decide, mt_7 (List.mem_of_getElem? (i := 217) rfl), Or.inr (mt_7 (List.mem_of_getElem? (i := 218) rfl)), _, _, rfl⟩, ckX12_slot, by decide⟩
set_option maxRecDepth 100000 in
theorem mf_263 : MFr (yX12_turned, cX12_turned, 12, (some .int), 2, false) (3, 1, 18, kX12_turned) := ⟨mt_7 (List.mem_of_getElem? (i := 231) rfl), mt_1 (List.mem_of_getElem? (i := 12) rfl), ⟨by decide, by decide⟩, by decide +kernel, by decide, rfl, (fun h => by cases h), rfl, Or.inr ⟨by decide, by decide, mt_7 (List.mem_of_getElem? (i := 229) rfl), Or.inr (mt_7 (List.mem_of_getElem? (i := 230) rfl)), _, _, rfl⟩, ckX12_turned, by decide⟩
set_option maxRecDepth 100000 in
theorem mf_264 : MFr (yX12_quarrelsNow, cX12_quarrelsNow, 12, (some .int), 0, false) (3, 1, 18, kX12_quarrelsNow) := ⟨mt_8 (List.mem_of_getElem? (i := 3) rfl), mt_1 (List.mem_of_getElem? (i := 12) rfl), ⟨by decide, by decide⟩, by decide +kernel, by decide, rfl, (fun h => by cases h), rfl, Or.inr ⟨by decide, by decide, mt_8 (List.mem_of_getElem? (i := 2) rfl), Or.inr (mt_s (List.mem_of_getElem? (i := 90) rfl)), _, _, rfl⟩, ckX12_quarrelsNow, by decide⟩
set_option maxRecDepth 100000 in
theorem mf_265 : MFr (yX12_quarrels, cX12_quarrels, 12, (some .int), 0, false) (1, 1, 18, kX12_quarrels) := ⟨mt_7 (List.mem_of_getElem? (i := 239) rfl), mt_1 (List.mem_of_getElem? (i := 12) rfl), ⟨by decide, by decide⟩, by decide +kernel, by decide, rfl, (fun h => by cases h), rfl, Or.inr ⟨by decide, by decide, mt_7 (List.mem_of_getElem? (i := 237) rfl), Or.inr (mt_7 (List.mem_of_getElem? (i := 238) rfl)), _, _, rfl⟩, ckX12_quarrels, by decide⟩
set_option maxRecDepth 100000 in
theorem mf_266 : MFr (yX12_metNow, cX12_metNow, 12, (some .int), 0, false) (3, 1, 18, kX12_metNow) := ⟨mt_8 (List.mem_of_getElem? (i := 14) rfl), mt_1 (List.mem_of_getElem? (i := 12) rfl), ⟨by decide, by decide⟩, by decide +kernel, by decide, rfl, (fun h => by cases h), rfl, Or.inr ⟨by decide, by decide, mt_8 (List.mem_of_getElem? (i := 13) rfl), Or.inr (mt_s (List.mem_of_getElem? (i := 91) rfl)), _, _, rfl⟩, ckX12_metNow, by decide⟩
set_option maxRecDepth 100000 in
theorem mf_267 : MFr (yX12_met, cX12_met, 12, (some .int), 0, false) (1, 1, 18, kX12_met) := ⟨mt_8 (List.mem_of_getElem? (i := 10) rfl), mt_1 (List.mem_of_getElem? (i := 12) rfl), ⟨by decide, by decide⟩, by decide +kernel, by decide, rfl, (fun h => by cases h), rfl, Or.inr ⟨by decide, by decide, mt_8 (List.mem_of_getElem? (i := 8) rfl), Or.inr (mt_8 (List.mem_of_getElem? (i := 9) rfl)), _, _, rfl⟩, ckX12_met, by decide⟩
set_option maxRecDepth 100000 in
theorem mf_268 : MFr (yX12_places, cX12_places, 12, (some .int), 0, false) (1, 1, 18, kX12_places) := ⟨mt_8 (List.mem_of_getElem? (i := 26) rfl), mt_1 (List.mem_of_getElem? (i := 12) rfl), ⟨by decide, by decide⟩, by decide +kernel, by decide, rfl, (fun h => by cases h), rfl, Or.inr ⟨by decide, by decide, mt_8 (List.mem_of_getElem? (i := 25) rfl), Or.inr (mt_s (List.mem_of_getElem? (i := 93) rfl)), _, _, rfl⟩, ckX12_places, by decide⟩
set_option maxRecDepth 100000 in
theorem mf_269 : MFr (yX12_isPlace, cX12_isPlace, 12, (some .boolean), 1, false) (2, 2, 18, kX12_isPlace) := ⟨mt_8 (List.mem_of_getElem? (i := 22) rfl), mt_1 (List.mem_of_getElem? (i := 12) rfl), ⟨by decide, by decide⟩, by decide +kernel, by decide, rfl, (fun h => by cases h), rfl, Or.inr ⟨by decide, by decide, mt_8 (List.mem_of_getElem? (i := 21) rfl), Or.inr (mt_s (List.mem_of_getElem? (i := 92) rfl)), _, _, rfl⟩, ckX12_isPlace, by decide⟩
set_option maxRecDepth 100000 in
theorem mf_270 : MFr (yX12_seenSlot, cX12_seenSlot, 12, (some .int), 1, false) (2, 1, 18, kX12_seenSlot) := ⟨mt_8 (List.mem_of_getElem? (i := 30) rfl), mt_1 (List.mem_of_getElem? (i := 12) rfl), ⟨by decide, by decide⟩, by decide +kernel, by decide, rfl, (fun h => by cases h), rfl, Or.inr ⟨by decide, by decide, mt_8 (List.mem_of_getElem? (i := 29) rfl), Or.inr (mt_s (List.mem_of_getElem? (i := 94) rfl)), _, _, rfl⟩, ckX12_seenSlot, by decide⟩
set_option maxRecDepth 100000 in
theorem mf_271 : MFr (yX12_ring, cX12_ring, 12, (some .int), 1, false) (2, 1, 18, kX12_ring) := ⟨mt_8 (List.mem_of_getElem? (i := 18) rfl), mt_1 (List.mem_of_getElem? (i := 12) rfl), ⟨by decide, by decide⟩, by decide +kernel, by decide, rfl, (fun h => by cases h), rfl, Or.inr ⟨by decide, by decide, mt_8 (List.mem_of_getElem? (i := 16) rfl), Or.inr (mt_8 (List.mem_of_getElem? (i := 17) rfl)), _, _, rfl⟩, ckX12_ring, by decide⟩
set_option maxRecDepth 100000 in
theorem mf_272 : MFr (yX12_truth, cX12_truth, 12, (some .int), 1, false) (2, 1, 18, kX12_truth) := ⟨mt_8 (List.mem_of_getElem? (i := 34) rfl), mt_1 (List.mem_of_getElem? (i := 12) rfl), ⟨by decide, by decide⟩, by decide +kernel, by decide, rfl, (fun h => by cases h), rfl, Or.inr ⟨by decide, by decide, mt_8 (List.mem_of_getElem? (i := 32) rfl), Or.inr (mt_8 (List.mem_of_getElem? (i := 33) rfl)), _, _, rfl⟩, ckX12_truth, by decide⟩
set_option maxRecDepth 100000 in
theorem mf_273 : MFr (yX12_image, cX12_image, 12, (some .int), 2, false) (5, 1, 18, kX12_image) := ⟨mt_8 (List.mem_of_getElem? (i := 38) rfl), mt_1 (List.mem_of_getElem? (i := 12) rfl), ⟨by decide, by decide⟩, by decide +kernel, by decide, rfl, (fun h => by cases h), rfl, Or.inr ⟨by decide, by decide, mt_8 (List.mem_of_getElem? (i := 36) rfl), Or.inr (mt_8 (List.mem_of_getElem? (i := 37) rfl)), _, _, rfl⟩, ckX12_image, by decide⟩
set_option maxRecDepth 100000 in
theorem mf_274 : MFr (yX12_selves, cX12_selves, 12, (some .int), 0, false) (4, 1, 18, kX12_selves) := ⟨mt_8 (List.mem_of_getElem? (i := 42) rfl), mt_1 (List.mem_of_getElem? (i := 12) rfl), ⟨by decide, by decide⟩, by decide +kernel, by decide, rfl, (fun h => by cases h), rfl, Or.inr ⟨by decide, by decide, mt_8 (List.mem_of_getElem? (i := 40) rfl), Or.inr (mt_8 (List.mem_of_getElem? (i := 41) rfl)), _, _, rfl⟩, ckX12_selves, by decide⟩
set_option maxRecDepth 100000 in
theorem mf_275 : MFr (yX12_near, cX12_near, 12, (some .int), 2, false) (7, 1, 18, kX12_near) := ⟨mt_8 (List.mem_of_getElem? (i := 46) rfl), mt_1 (List.mem_of_getElem? (i := 12) rfl), ⟨by decide, by decide⟩, by decide +kernel, by decide, rfl, (fun h => by cases h), rfl, Or.inr ⟨by decide, by decide, mt_8 (List.mem_of_getElem? (i := 44) rfl), Or.inr (mt_8 (List.mem_of_getElem? (i := 45) rfl)), _, _, rfl⟩, ckX12_near, by decide⟩
set_option maxRecDepth 100000 in
theorem mf_276 : MFr (yX12_seenIn, cX12_seenIn, 12, (some .int), 1, false) (4, 1, 18, kX12_seenIn) := ⟨mt_8 (List.mem_of_getElem? (i := 54) rfl), mt_1 (List.mem_of_getElem? (i := 12) rfl), ⟨by decide, by decide⟩, by decide +kernel, by decide, rfl, (fun h => by cases h), rfl, Or.inr ⟨by decide, by decide, mt_8 (List.mem_of_getElem? (i := 52) rfl), Or.inr (mt_8 (List.mem_of_getElem? (i := 53) rfl)), _, _, rfl⟩, ckX12_seenIn, by decide⟩
set_option maxRecDepth 100000 in
theorem mf_277 : MFr (yX12_layRow, cX12_layRow, 12, (some .int), 2, false) (7, 1, 18, kX12_layRow) := ⟨mt_8 (List.mem_of_getElem? (i := 62) rfl), mt_1 (List.mem_of_getElem? (i := 12) rfl), ⟨by decide, by decide⟩, by decide +kernel, by decide, rfl, (fun h => by cases h), rfl, Or.inr ⟨by decide, by decide, mt_8 (List.mem_of_getElem? (i := 61) rfl), Or.inr (mt_s (List.mem_of_getElem? (i := 96) rfl)), _, _, rfl⟩, ckX12_layRow, by decide⟩
set_option maxRecDepth 100000 in
theorem mf_278 : MFr (yX12_slides, cX12_slides, 12, (some .int), 3, false) (5, 1, 18, kX12_slides) := ⟨mt_8 (List.mem_of_getElem? (i := 58) rfl), mt_1 (List.mem_of_getElem? (i := 12) rfl), ⟨by decide, by decide⟩, by decide +kernel, by decide, rfl, (fun h => by cases h), rfl, Or.inr ⟨by decide, by decide, mt_8 (List.mem_of_getElem? (i := 56) rfl), Or.inr (mt_8 (List.mem_of_getElem? (i := 57) rfl)), _, _, rfl⟩, ckX12_slides, by decide⟩
set_option maxRecDepth 100000 in
theorem mf_279 : MFr (yX12_round, cX12_round, 12, (some .int), 2, false) (8, 1, 18, kX12_round) := ⟨mt_8 (List.mem_of_getElem? (i := 66) rfl), mt_1 (List.mem_of_getElem? (i := 12) rfl), ⟨by decide, by decide⟩, by decide +kernel, by decide, rfl, (fun h => by cases h), rfl, Or.inr ⟨by decide, by decide, mt_8 (List.mem_of_getElem? (i := 64) rfl), Or.inr (mt_8 (List.mem_of_getElem? (i := 65) rfl)), _, _, rfl⟩, ckX12_round, by decide⟩
set_option maxRecDepth 100000 in
theorem mf_280 : MFr (yX12_even, cX12_even, 12, (some .int), 2, false) (4, 1, 18, kX12_even) := ⟨mt_8 (List.mem_of_getElem? (i := 73) rfl), mt_1 (List.mem_of_getElem? (i := 12) rfl), ⟨by decide, by decide⟩, by decide +kernel, by decide, rfl, (fun h => by cases h), rfl, Or.inr ⟨by decide, by decide, mt_8 (List.mem_of_getElem? (i := 71) rfl), Or.inr (mt_8 (List.mem_of_getElem? (i := 72) rfl)), _, _, rfl⟩, ckX12_even, by decide⟩
set_option maxRecDepth 100000 in
theorem mf_281 : MFr (yX12_fixes, cX12_fixes, 12, (some .int), 2, false) (4, 1, 18, kX12_fixes) := ⟨mt_8 (List.mem_of_getElem? (i := 85) rfl), mt_1 (List.mem_of_getElem? (i := 12) rfl), ⟨by decide, by decide⟩, by decide +kernel, by decide, rfl, (fun h => by cases h), rfl, Or.inr ⟨by decide, by decide, mt_8 (List.mem_of_getElem? (i := 83) rfl), Or.inr (mt_8 (List.mem_of_getElem? (i := 84) rfl)), _, _, rfl⟩, ckX12_fixes, by decide⟩
set_option maxRecDepth 100000 in
theorem mf_282 : MFr (yX12_doCommute, cX12_doCommute, 12, (some .boolean), 2, false) (4, 2, 18, kX12_doCommute) := ⟨mt_8 (List.mem_of_getElem? (i := 97) rfl), mt_1 (List.mem_of_getElem? (i := 12) rfl), ⟨by decide, by decide⟩, by decide +kernel, by decide, rfl, (fun h => by cases h), rfl, Or.inr ⟨by decide, by decide, mt_8 (List.mem_of_getElem? (i := 96) rfl), Or.inr (mt_s (List.mem_of_getElem? (i := 100) rfl)), _, _, rfl⟩, ckX12_doCommute, by decide⟩
set_option maxRecDepth 100000 in
theorem mf_283 : MFr (yX12_commute, cX12_commute, 12, (some .int), 2, false) (3, 1, 18, kX12_commute) := ⟨mt_8 (List.mem_of_getElem? (i := 93) rfl), mt_1 (List.mem_of_getElem? (i := 12) rfl), ⟨by decide, by decide⟩, by decide +kernel, by decide, rfl, (fun h => by cases h), rfl, Or.inr ⟨by decide, by decide, mt_8 (List.mem_of_getElem? (i := 91) rfl), Or.inr (mt_8 (List.mem_of_getElem? (i := 92) rfl)), _, _, rfl⟩, ckX12_commute, by decide⟩
set_option maxRecDepth 100000 in
theorem mf_284 : MFr (yX12_inverts, cX12_inverts, 12, none, 0, false) (2, 0, 18, kX12_inverts) := ⟨mt_8 (List.mem_of_getElem? (i := 105) rfl), mt_1 (List.mem_of_getElem? (i := 12) rfl), ⟨by decide, by decide⟩, by decide +kernel, by decide, rfl, (fun h => by cases h), rfl, Or.inr ⟨by decide, by decide, mt_8 (List.mem_of_getElem? (i := 104) rfl), Or.inr (mt_s (List.mem_of_getElem? (i := 101) rfl)), _, _, rfl⟩, ckX12_inverts, by decide⟩
set_option maxRecDepth 100000 in
theorem mf_285 : MFr (yX12_undoing, cX12_undoing, 12, (some .int), 2, false) (4, 1, 18, kX12_undoing) := ⟨mt_8 (List.mem_of_getElem? (i := 101) rfl), mt_1 (List.mem_of_getElem? (i := 12) rfl), ⟨by decide, by decide⟩, by decide +kernel, by decide, rfl, (fun h => by cases h), rfl, Or.inr ⟨by decide, by decide, mt_8 (List.mem_of_getElem? (i := 99) rfl), Or.inr (mt_8 (List.mem_of_getElem? (i := 100) rfl)), _, _, rfl⟩, ckX12_undoing, by decide⟩
set_option maxRecDepth 100000 in
theorem mf_286 : MFr (yX12_reach, cX12_reach, 12, (some .int), 0, false) (1, 1, 18, kX12_reach) := ⟨mt_8 (List.mem_of_getElem? (i := 109) rfl), mt_1 (List.mem_of_getElem? (i := 12) rfl), ⟨by decide, by decide⟩, by decide +kernel, by decide, rfl, (fun h => by cases h), rfl, Or.inr ⟨by decide, by decide, mt_8 (List.mem_of_getElem? (i := 107) rfl), Or.inr (mt_8 (List.mem_of_getElem? (i := 108) rfl)), _, _, rfl⟩, ckX12_reach, by decide⟩
set_option maxRecDepth 100000 in
theorem mf_287 : MFr (yX12_deepest, cX12_deepest, 12, (some .int), 0, false) (1, 1, 18, kX12_deepest) := ⟨mt_8 (List.mem_of_getElem? (i := 113) rfl), mt_1 (List.mem_of_getElem? (i := 12) rfl), ⟨by decide, by decide⟩, by decide +kernel, by decide, rfl, (fun h => by cases h), rfl, Or.inr ⟨by decide, by decide, mt_8 (List.mem_of_getElem? (i := 111) rfl), Or.inr (mt_8 (List.mem_of_getElem? (i := 112) rfl)), _, _, rfl⟩, ckX12_deepest, by decide⟩
set_option maxRecDepth 100000 in
theorem mf_288 : MFr (yX12_evens, cX12_evens, 12, (some .int), 0, false) (3, 1, 18, kX12_evens) := ⟨mt_8 (List.mem_of_getElem? (i := 117) rfl), mt_1 (List.mem_of_getElem? (i := 12) rfl), ⟨by decide, by decide⟩, by decide +kernel, by decide, rfl, (fun h => by cases h), rfl, Or.inr ⟨by decide, by decide, mt_8 (List.mem_of_getElem? (i := 115) rfl), Or.inr (mt_8 (List.mem_of_getElem? (i := 116) rfl)), _, _, rfl⟩, ckX12_evens, by decide⟩
set_option maxRecDepth 100000 in
theorem mf_289 : MFr (yX12_orbit, cX12_orbit, 12, (some .int), 1, false) (4, 1, 18, kX12_orbit) := ⟨mt_8 (List.mem_of_getElem? (i := 125) rfl), mt_1 (List.mem_of_getElem? (i := 12) rfl), ⟨by decide, by decide⟩, by decide +kernel, by decide, rfl, (fun h => by cases h), rfl, Or.inr ⟨by decide, by decide, mt_8 (List.mem_of_getElem? (i := 123) rfl), Or.inr (mt_8 (List.mem_of_getElem? (i := 124) rfl)), _, _, rfl⟩, ckX12_orbit, by decide⟩
set_option maxRecDepth 100000 in
theorem mf_290 : MFr (yX12_keeps, cX12_keeps, 12, (some .int), 1, false) (4, 1, 18, kX12_keeps) := ⟨mt_8 (List.mem_of_getElem? (i := 133) rfl), mt_1 (List.mem_of_getElem? (i := 12) rfl), ⟨by decide, by decide⟩, by decide +kernel, by decide, rfl, (fun h => by cases h), rfl, Or.inr ⟨by decide, by decide, mt_8 (List.mem_of_getElem? (i := 131) rfl), Or.inr (mt_8 (List.mem_of_getElem? (i := 132) rfl)), _, _, rfl⟩, ckX12_keeps, by decide⟩
set_option maxRecDepth 100000 in
theorem mf_291 : MFr (yX12_pairs, cX12_pairs, 12, (some .int), 0, false) (10, 1, 18, kX12_pairs) := ⟨mt_8 (List.mem_of_getElem? (i := 137) rfl), mt_1 (List.mem_of_getElem? (i := 12) rfl), ⟨by decide, by decide⟩, by decide +kernel, by decide, rfl, (fun h => by cases h), rfl, Or.inr ⟨by decide, by decide, mt_8 (List.mem_of_getElem? (i := 135) rfl), Or.inr (mt_8 (List.mem_of_getElem? (i := 136) rfl)), _, _, rfl⟩, ckX12_pairs, by decide⟩
set_option maxRecDepth 100000 in
theorem mf_292 : MFr (yX12_centre, cX12_centre, 12, (some .int), 0, false) (6, 1, 18, kX12_centre) := ⟨mt_8 (List.mem_of_getElem? (i := 141) rfl), mt_1 (List.mem_of_getElem? (i := 12) rfl), ⟨by decide, by decide⟩, by decide +kernel, by decide, rfl, (fun h => by cases h), rfl, Or.inr ⟨by decide, by decide, mt_8 (List.mem_of_getElem? (i := 139) rfl), Or.inr (mt_8 (List.mem_of_getElem? (i := 140) rfl)), _, _, rfl⟩, ckX12_centre, by decide⟩
set_option maxRecDepth 100000 in
theorem mf_293 : MFr (yX12_isDone, cX12_isDone, 12, (some .boolean), 1, false) (2, 2, 18, kX12_isDone) := ⟨mt_8 (List.mem_of_getElem? (i := 161) rfl), mt_1 (List.mem_of_getElem? (i := 12) rfl), ⟨by decide, by decide⟩, by decide +kernel, by decide, rfl, (fun h => by cases h), rfl, Or.inr ⟨by decide, by decide, mt_8 (List.mem_of_getElem? (i := 160) rfl), Or.inr (mt_s (List.mem_of_getElem? (i := 107) rfl)), _, _, rfl⟩, ckX12_isDone, by decide⟩
set_option maxRecDepth 100000 in
theorem mf_294 : MFr (yX12_doneBy, cX12_doneBy, 12, (some .int), 1, false) (3, 1, 18, kX12_doneBy) := ⟨mt_8 (List.mem_of_getElem? (i := 153) rfl), mt_1 (List.mem_of_getElem? (i := 12) rfl), ⟨by decide, by decide⟩, by decide +kernel, by decide, rfl, (fun h => by cases h), rfl, Or.inr ⟨by decide, by decide, mt_8 (List.mem_of_getElem? (i := 152) rfl), Or.inr (mt_s (List.mem_of_getElem? (i := 105) rfl)), _, _, rfl⟩, ckX12_doneBy, by decide⟩
set_option maxRecDepth 100000 in
theorem mf_295 : MFr (yX12_fewest, cX12_fewest, 12, (some .int), 1, false) (3, 1, 18, kX12_fewest) := ⟨mt_8 (List.mem_of_getElem? (i := 149) rfl), mt_1 (List.mem_of_getElem? (i := 12) rfl), ⟨by decide, by decide⟩, by decide +kernel, by decide, rfl, (fun h => by cases h), rfl, Or.inr ⟨by decide, by decide, mt_8 (List.mem_of_getElem? (i := 148) rfl), Or.inr (mt_s (List.mem_of_getElem? (i := 104) rfl)), _, _, rfl⟩, ckX12_fewest, by decide⟩
set_option maxRecDepth 100000 in
theorem mf_296 : MFr (yX12_stepOf, cX12_stepOf, 12, (some .int), 2, false) (4, 1, 18, kX12_stepOf) := ⟨mt_8 (List.mem_of_getElem? (i := 169) rfl), mt_1 (List.mem_of_getElem? (i := 12) rfl), ⟨by decide, by decide⟩, by decide +kernel, by decide, rfl, (fun h => by cases h), rfl, Or.inr ⟨by decide, by decide, mt_8 (List.mem_of_getElem? (i := 168) rfl), Or.inr (mt_s (List.mem_of_getElem? (i := 108) rfl)), _, _, rfl⟩, ckX12_stepOf, by decide⟩
set_option maxRecDepth 100000 in
theorem mf_297 : MFr (yX12_errand, cX12_errand, 12, (some .int), 0, false) (1, 1, 18, kX12_errand) := ⟨mt_8 (List.mem_of_getElem? (i := 145) rfl), mt_1 (List.mem_of_getElem? (i := 12) rfl), ⟨by decide, by decide⟩, by decide +kernel, by decide, rfl, (fun h => by cases h), rfl, Or.inr ⟨by decide, by decide, mt_8 (List.mem_of_getElem? (i := 143) rfl), Or.inr (mt_8 (List.mem_of_getElem? (i := 144) rfl)), _, _, rfl⟩, ckX12_errand, by decide⟩
set_option maxRecDepth 100000 in
theorem mf_298 : MFr (yX12_errandAt, cX12_errandAt, 12, (some .int), 1, false) (2, 1, 18, kX12_errandAt) := ⟨mt_8 (List.mem_of_getElem? (i := 165) rfl), mt_1 (List.mem_of_getElem? (i := 12) rfl), ⟨by decide, by decide⟩, by decide +kernel, by decide, rfl, (fun h => by cases h), rfl, Or.inr ⟨by decide, by decide, mt_8 (List.mem_of_getElem? (i := 163) rfl), Or.inr (mt_8 (List.mem_of_getElem? (i := 164) rfl)), _, _, rfl⟩, ckX12_errandAt, by decide⟩
set_option maxRecDepth 100000 in
theorem mf_299 : MFr (yX12_peace, cX12_peace, 12, (some .int), 0, false) (1, 1, 18, kX12_peace) := ⟨mt_8 (List.mem_of_getElem? (i := 173) rfl), mt_1 (List.mem_of_getElem? (i := 12) rfl), ⟨by decide, by decide⟩, by decide +kernel, by decide, rfl, (fun h => by cases h), rfl, Or.inr ⟨by decide, by decide, mt_8 (List.mem_of_getElem? (i := 171) rfl), Or.inr (mt_8 (List.mem_of_getElem? (i := 172) rfl)), _, _, rfl⟩, ckX12_peace, by decide⟩
set_option maxRecDepth 100000 in
theorem mf_300 : MFr (yX12_peaceAt, cX12_peaceAt, 12, (some .int), 1, false) (2, 1, 18, kX12_peaceAt) := ⟨mt_8 (List.mem_of_getElem? (i := 177) rfl), mt_1 (List.mem_of_getElem? (i := 12) rfl), ⟨by decide, by decide⟩, by decide +kernel, by decide, rfl, (fun h => by cases h), rfl, Or.inr ⟨by decide, by decide, mt_8 (List.mem_of_getElem? (i := 175) rfl), Or.inr (mt_8 (List.mem_of_getElem? (i := 176) rfl)), _, _, rfl⟩, ckX12_peaceAt, by decide⟩
set_option maxRecDepth 100000 in
theorem mf_301 : MFr (yX12_bring, cX12_bring, 12, (some .int), 2, false) (4, 1, 18, kX12_bring) := ⟨mt_8 (List.mem_of_getElem? (i := 181) rfl), mt_1 (List.mem_of_getElem? (i := 12) rfl), ⟨by decide, by decide⟩, by decide +kernel, by decide, rfl, (fun h => by cases h), rfl, Or.inr ⟨by decide, by decide, mt_8 (List.mem_of_getElem? (i := 179) rfl), Or.inr (mt_8 (List.mem_of_getElem? (i := 180) rfl)), _, _, rfl⟩, ckX12_bring, by decide⟩
set_option maxRecDepth 100000 in
theorem mf_302 : MFr (yX12_calmest, cX12_calmest, 12, (some .int), 0, false) (3, 1, 18, kX12_calmest) := ⟨mt_8 (List.mem_of_getElem? (i := 185) rfl), mt_1 (List.mem_of_getElem? (i := 12) rfl), ⟨by decide, by decide⟩, by decide +kernel, by decide, rfl, (fun h => by cases h), rfl, Or.inr ⟨by decide, by decide, mt_8 (List.mem_of_getElem? (i := 183) rfl), Or.inr (mt_8 (List.mem_of_getElem? (i := 184) rfl)), _, _, rfl⟩, ckX12_calmest, by decide⟩
set_option maxRecDepth 100000 in
theorem mf_303 : MFr (yX12_counted, cX12_counted, 12, (some .long), 1, false) (5, 3, 18, kX12_counted) := ⟨mt_8 (List.mem_of_getElem? (i := 197) rfl), mt_1 (List.mem_of_getElem? (i := 12) rfl), ⟨by decide, by decide⟩, by decide +kernel, by decide, rfl, (fun h => by cases h), rfl, Or.inr ⟨by decide, by decide, mt_8 (List.mem_of_getElem? (i := 196) rfl), Or.inr (mt_s (List.mem_of_getElem? (i := 110) rfl)), _, _, rfl⟩, ckX12_counted, by decide⟩
set_option maxRecDepth 100000 in
theorem mf_304 : MFr (yX12_refusesColours, cX12_refusesColours, 12, (some .int), 1, false) (2, 1, 18, kX12_refusesColours) := ⟨mt_8 (List.mem_of_getElem? (i := 193) rfl), mt_1 (List.mem_of_getElem? (i := 12) rfl), ⟨by decide, by decide⟩, by decide +kernel, by decide, rfl, (fun h => by cases h), rfl, Or.inr ⟨by decide, by decide, mt_8 (List.mem_of_getElem? (i := 192) rfl), Or.inr (mt_s (List.mem_of_getElem? (i := 109) rfl)), _, _, rfl⟩, ckX12_refusesColours, by decide⟩
set_option maxRecDepth 100000 in
theorem mf_305 : MFr (yX12_colourings, cX12_colourings, 12, (some .long), 1, false) (3, 3, 18, kX12_colourings) := ⟨mt_8 (List.mem_of_getElem? (i := 189) rfl), mt_1 (List.mem_of_getElem? (i := 12) rfl), ⟨by decide, by decide⟩, by decide +kernel, by decide, rfl, (fun h => by cases h), rfl, Or.inr ⟨by decide, by decide, mt_8 (List.mem_of_getElem? (i := 187) rfl), Or.inr (mt_8 (List.mem_of_getElem? (i := 188) rfl)), _, _, rfl⟩, ckX12_colourings, by decide⟩
set_option maxRecDepth 100000 in
theorem mf_306 : MFr (yX12_mirrored, cX12_mirrored, 12, (some .long), 1, false) (5, 3, 18, kX12_mirrored) := ⟨mt_8 (List.mem_of_getElem? (i := 208) rfl), mt_1 (List.mem_of_getElem? (i := 12) rfl), ⟨by decide, by decide⟩, by decide +kernel, by decide, rfl, (fun h => by cases h), rfl, Or.inr ⟨by decide, by decide, mt_8 (List.mem_of_getElem? (i := 206) rfl), Or.inr (mt_8 (List.mem_of_getElem? (i := 207) rfl)), _, _, rfl⟩, ckX12_mirrored, by decide⟩
set_option maxRecDepth 100000 in
theorem mf_307 : MFr (yX12_aroundSum, cX12_aroundSum, 12, (some .long), 2, false) (5, 3, 0, kX12_aroundSum) := ⟨mt_8 (List.mem_of_getElem? (i := 219) rfl), mt_1 (List.mem_of_getElem? (i := 12) rfl), ⟨by decide, by decide⟩, by decide +kernel, by decide, rfl, (fun h => by cases h), rfl, Or.inl ⟨rfl, mt_8 (List.mem_of_getElem? (i := 218) rfl)⟩, ckX12_aroundSum, by decide⟩
set_option maxRecDepth 100000 in
theorem mf_308 : MFr (yX12_refusesNecklace, cX12_refusesNecklace, 12, (some .int), 2, false) (3, 1, 18, kX12_refusesNecklace) := ⟨mt_8 (List.mem_of_getElem? (i := 216) rfl), mt_1 (List.mem_of_getElem? (i := 12) rfl), ⟨by decide, by decide⟩, by decide +kernel, by decide, rfl, (fun h => by cases h), rfl, Or.inr ⟨by decide, by decide, mt_8 (List.mem_of_getElem? (i := 215) rfl), Or.inr (mt_s (List.mem_of_getElem? (i := 112) rfl)), _, _, rfl⟩, ckX12_refusesNecklace, by decide⟩
set_option maxRecDepth 100000 in
theorem mf_309 : MFr (yX12_necklaces, cX12_necklaces, 12, (some .long), 2, false) (4, 3, 18, kX12_necklaces) := ⟨mt_8 (List.mem_of_getElem? (i := 212) rfl), mt_1 (List.mem_of_getElem? (i := 12) rfl), ⟨by decide, by decide⟩, by decide +kernel, by decide, rfl, (fun h => by cases h), rfl, Or.inr ⟨by decide, by decide, mt_8 (List.mem_of_getElem? (i := 210) rfl), Or.inr (mt_8 (List.mem_of_getElem? (i := 211) rfl)), _, _, rfl⟩, ckX12_necklaces, by decide⟩
set_option maxRecDepth 100000 in
theorem mf_310 : MFr (yX12_bracelets, cX12_bracelets, 12, (some .long), 2, false) (9, 3, 18, kX12_bracelets) := ⟨mt_8 (List.mem_of_getElem? (i := 223) rfl), mt_1 (List.mem_of_getElem? (i := 12) rfl), ⟨by decide, by decide⟩, by decide +kernel, by decide, rfl, (fun h => by cases h), rfl, Or.inr ⟨by decide, by decide, mt_8 (List.mem_of_getElem? (i := 221) rfl), Or.inr (mt_8 (List.mem_of_getElem? (i := 222) rfl)), _, _, rfl⟩, ckX12_bracelets, by decide⟩
set_option maxRecDepth 100000 in
theorem mf_311 : MFr (yX12_laysFirst, cX12_laysFirst, 12, none, 1, false) (3, 0, 18, kX12_laysFirst) := ⟨mt_8 (List.mem_of_getElem? (i := 235) rfl), mt_1 (List.mem_of_getElem? (i := 12) rfl), ⟨by decide, by decide⟩, by decide +kernel, by decide, rfl, (fun h => by cases h), rfl, Or.inr ⟨by decide, by decide, mt_8 (List.mem_of_getElem? (i := 234) rfl), Or.inr (mt_s (List.mem_of_getElem? (i := 114) rfl)), _, _, rfl⟩, ckX12_laysFirst, by decide⟩
set_option maxRecDepth 100000 in
theorem mf_312 : MFr (yX12_areUnlike, cX12_areUnlike, 12, (some .boolean), 0, false) (3, 2, 18, kX12_areUnlike) := ⟨mt_8 (List.mem_of_getElem? (i := 239) rfl), mt_1 (List.mem_of_getElem? (i := 12) rfl), ⟨by decide, by decide⟩, by decide +kernel, by decide, rfl, (fun h => by cases h), rfl, Or.inr ⟨by decide, by decide, mt_8 (List.mem_of_getElem? (i := 238) rfl), Or.inr (mt_s (List.mem_of_getElem? (i := 115) rfl)), _, _, rfl⟩, ckX12_areUnlike, by decide⟩
set_option maxRecDepth 100000 in
theorem mf_313 : MFr (yX12_wrongSeen, cX12_wrongSeen, 12, (some .int), 0, false) (2, 1, 18, kX12_wrongSeen) := ⟨mt_9 (List.mem_of_getElem? (i := 3) rfl), mt_1 (List.mem_of_getElem? (i := 12) rfl), ⟨by decide, by decide⟩, by decide +kernel, by decide, rfl, (fun h => by cases h), rfl, Or.inr ⟨by decide, by decide, mt_9 (List.mem_of_getElem? (i := 2) rfl), Or.inr (mt_s (List.mem_of_getElem? (i := 116) rfl)), _, _, rfl⟩, ckX12_wrongSeen, by decide⟩
set_option maxRecDepth 100000 in
theorem mf_314 : MFr (yX12_fitting, cX12_fitting, 12, (some .int), 1, false) (5, 1, 18, kX12_fitting) := ⟨mt_8 (List.mem_of_getElem? (i := 231) rfl), mt_1 (List.mem_of_getElem? (i := 12) rfl), ⟨by decide, by decide⟩, by decide +kernel, by decide, rfl, (fun h => by cases h), rfl, Or.inr ⟨by decide, by decide, mt_8 (List.mem_of_getElem? (i := 230) rfl), Or.inr (mt_s (List.mem_of_getElem? (i := 113) rfl)), _, _, rfl⟩, ckX12_fitting, by decide⟩
set_option maxRecDepth 100000 in
theorem mf_315 : MFr (yX12_fits, cX12_fits, 12, (some .int), 0, false) (1, 1, 18, kX12_fits) := ⟨mt_8 (List.mem_of_getElem? (i := 227) rfl), mt_1 (List.mem_of_getElem? (i := 12) rfl), ⟨by decide, by decide⟩, by decide +kernel, by decide, rfl, (fun h => by cases h), rfl, Or.inr ⟨by decide, by decide, mt_8 (List.mem_of_getElem? (i := 225) rfl), Or.inr (mt_8 (List.mem_of_getElem? (i := 226) rfl)), _, _, rfl⟩, ckX12_fits, by decide⟩
set_option maxRecDepth 100000 in
theorem mf_316 : MFr (yX12_fitAt, cX12_fitAt, 12, (some .int), 1, false) (3, 1, 18, kX12_fitAt) := ⟨mt_9 (List.mem_of_getElem? (i := 7) rfl), mt_1 (List.mem_of_getElem? (i := 12) rfl), ⟨by decide, by decide⟩, by decide +kernel, by decide, rfl, (fun h => by cases h), rfl, Or.inr ⟨by decide, by decide, mt_9 (List.mem_of_getElem? (i := 5) rfl), Or.inr (mt_9 (List.mem_of_getElem? (i := 6) rfl)), _, _, rfl⟩, ckX12_fitAt, by decide⟩
set_option maxRecDepth 100000 in
theorem mf_317 : MFr (yX12_could, cX12_could, 12, (some .int), 0, false) (1, 1, 18, kX12_could) := ⟨mt_9 (List.mem_of_getElem? (i := 11) rfl), mt_1 (List.mem_of_getElem? (i := 12) rfl), ⟨by decide, by decide⟩, by decide +kernel, by decide, rfl, (fun h => by cases h), rfl, Or.inr ⟨by decide, by decide, mt_9 (List.mem_of_getElem? (i := 9) rfl), Or.inr (mt_9 (List.mem_of_getElem? (i := 10) rfl)), _, _, rfl⟩, ckX12_could, by decide⟩
set_option maxRecDepth 100000 in
theorem mf_318 : MFr (yX12_surely, cX12_surely, 12, (some .int), 0, false) (1, 1, 18, kX12_surely) := ⟨mt_9 (List.mem_of_getElem? (i := 15) rfl), mt_1 (List.mem_of_getElem? (i := 12) rfl), ⟨by decide, by decide⟩, by decide +kernel, by decide, rfl, (fun h => by cases h), rfl, Or.inr ⟨by decide, by decide, mt_9 (List.mem_of_getElem? (i := 13) rfl), Or.inr (mt_9 (List.mem_of_getElem? (i := 14) rfl)), _, _, rfl⟩, ckX12_surely, by decide⟩
set_option maxRecDepth 100000 in
theorem mf_319 : MFr (yX12_asks, cX12_asks, 12, (some .int), 0, false) (4, 1, 18, kX12_asks) := ⟨mt_9 (List.mem_of_getElem? (i := 23) rfl), mt_1 (List.mem_of_getElem? (i := 12) rfl), ⟨by decide, by decide⟩, by decide +kernel, by decide, rfl, (fun h => by cases h), rfl, Or.inr ⟨by decide, by decide, mt_9 (List.mem_of_getElem? (i := 22) rfl), Or.inr (mt_s (List.mem_of_getElem? (i := 117) rfl)), _, _, rfl⟩, ckX12_asks, by decide⟩
set_option maxRecDepth 100000 in
theorem mf_320 : MFr (yX12_ask, cX12_ask, 12, (some .int), 0, false) (1, 1, 18, kX12_ask) := ⟨mt_9 (List.mem_of_getElem? (i := 19) rfl), mt_1 (List.mem_of_getElem? (i := 12) rfl), ⟨by decide, by decide⟩, by decide +kernel, by decide, rfl, (fun h => by cases h), rfl, Or.inr ⟨by decide, by decide, mt_9 (List.mem_of_getElem? (i := 17) rfl), Or.inr (mt_9 (List.mem_of_getElem? (i := 18) rfl)), _, _, rfl⟩, ckX12_ask, by decide⟩
set_option maxRecDepth 100000 in
theorem mf_321 : MFr (yX12_askLeaves, cX12_askLeaves, 12, (some .int), 0, false) (1, 1, 18, kX12_askLeaves) := ⟨mt_9 (List.mem_of_getElem? (i := 27) rfl), mt_1 (List.mem_of_getElem? (i := 12) rfl), ⟨by decide, by decide⟩, by decide +kernel, by decide, rfl, (fun h => by cases h), rfl, Or.inr ⟨by decide, by decide, mt_9 (List.mem_of_getElem? (i := 25) rfl), Or.inr (mt_9 (List.mem_of_getElem? (i := 26) rfl)), _, _, rfl⟩, ckX12_askLeaves, by decide⟩
set_option maxRecDepth 100000 in
theorem mf_322 : MFr (yX12_judge, cX12_judge, 12, (some .int), 0, false) (1, 1, 18, kX12_judge) := ⟨mt_9 (List.mem_of_getElem? (i := 31) rfl), mt_1 (List.mem_of_getElem? (i := 12) rfl), ⟨by decide, by decide⟩, by decide +kernel, by decide, rfl, (fun h => by cases h), rfl, Or.inr ⟨by decide, by decide, mt_9 (List.mem_of_getElem? (i := 29) rfl), Or.inr (mt_9 (List.mem_of_getElem? (i := 30) rfl)), _, _, rfl⟩, ckX12_judge, by decide⟩
set_option maxRecDepth 100000 in
theorem mf_323 : MFr (yX12_choices, cX12_choices, 12, (some .int), 0, false) (1, 1, 18, kX12_choices) := ⟨mt_9 (List.mem_of_getElem? (i := 47) rfl), mt_1 (List.mem_of_getElem? (i := 12) rfl), ⟨by decide, by decide⟩, by decide +kernel, by decide, rfl, (fun h => by cases h), rfl, Or.inr ⟨by decide, by decide, mt_9 (List.mem_of_getElem? (i := 46) rfl), Or.inr (mt_s (List.mem_of_getElem? (i := 120) rfl)), _, _, rfl⟩, ckX12_choices, by decide⟩
set_option maxRecDepth 100000 in
theorem mf_324 : MFr (yX12_argues, cX12_argues, 12, none, 3, false) (11, 0, 18, kX12_argues) := ⟨mt_9 (List.mem_of_getElem? (i := 43) rfl), mt_1 (List.mem_of_getElem? (i := 12) rfl), ⟨by decide, by decide⟩, by decide +kernel, by decide, rfl, (fun h => by cases h), rfl, Or.inr ⟨by decide, by decide, mt_9 (List.mem_of_getElem? (i := 42) rfl), Or.inr (mt_s (List.mem_of_getElem? (i := 119) rfl)), _, _, rfl⟩, ckX12_argues, by decide⟩
set_option maxRecDepth 100000 in
theorem mf_325 : MFr (yX12_bestFrom, cX12_bestFrom, 12, (some .int), 2, false) (5, 1, 18, kX12_bestFrom) := ⟨mt_9 (List.mem_of_getElem? (i := 51) rfl), mt_1 (List.mem_of_getElem? (i := 12) rfl), ⟨by decide, by decide⟩, by decide +kernel, by decide, rfl, (fun h => by cases h), rfl, Or.inr ⟨by decide, by decide, mt_9 (List.mem_of_getElem? (i := 50) rfl), Or.inr (mt_s (List.mem_of_getElem? (i := 121) rfl)), _, _, rfl⟩, ckX12_bestFrom, by decide⟩
set_option maxRecDepth 100000 in
theorem mf_326 : MFr (yX12_refusesGame, cX12_refusesGame, 12, (some .int), 4, false) (5, 1, 18, kX12_refusesGame) := ⟨mt_9 (List.mem_of_getElem? (i := 39) rfl), mt_1 (List.mem_of_getElem? (i := 12) rfl), ⟨by decide, by decide⟩, by decide +kernel, by decide, rfl, (fun h => by cases h), rfl, Or.inr ⟨by decide, by decide, mt_9 (List.mem_of_getElem? (i := 38) rfl), Or.inr (mt_s (List.mem_of_getElem? (i := 118) rfl)), _, _, rfl⟩, ckX12_refusesGame, by decide⟩
set_option maxRecDepth 100000 in
theorem mf_327 : MFr (yX12_gets, cX12_gets, 12, (some .int), 3, false) (5, 1, 18, kX12_gets) := ⟨mt_9 (List.mem_of_getElem? (i := 35) rfl), mt_1 (List.mem_of_getElem? (i := 12) rfl), ⟨by decide, by decide⟩, by decide +kernel, by decide, rfl, (fun h => by cases h), rfl, Or.inr ⟨by decide, by decide, mt_9 (List.mem_of_getElem? (i := 33) rfl), Or.inr (mt_9 (List.mem_of_getElem? (i := 34) rfl)), _, _, rfl⟩, ckX12_gets, by decide⟩
set_option maxRecDepth 100000 in
theorem mf_328 : MFr (yX12_getsBy, cX12_getsBy, 12, (some .int), 3, false) (6, 1, 18, kX12_getsBy) := ⟨mt_9 (List.mem_of_getElem? (i := 55) rfl), mt_1 (List.mem_of_getElem? (i := 12) rfl), ⟨by decide, by decide⟩, by decide +kernel, by decide, rfl, (fun h => by cases h), rfl, Or.inr ⟨by decide, by decide, mt_9 (List.mem_of_getElem? (i := 53) rfl), Or.inr (mt_9 (List.mem_of_getElem? (i := 54) rfl)), _, _, rfl⟩, ckX12_getsBy, by decide⟩
set_option maxRecDepth 100000 in
theorem mf_329 : MFr (yX12_eye, cX12_eye, 12, (some .int), 3, false) (3, 1, 0, kX12_eye) := ⟨mt_9 (List.mem_of_getElem? (i := 73) rfl), mt_1 (List.mem_of_getElem? (i := 12) rfl), ⟨by decide, by decide⟩, by decide +kernel, by decide, rfl, (fun h => by cases h), rfl, Or.inl ⟨rfl, mt_9 (List.mem_of_getElem? (i := 72) rfl)⟩, ckX12_eye, by decide⟩
set_option maxRecDepth 100000 in
theorem mf_330 : MFr (yX12_street, cX12_street, 12, (some .int), 3, false) (3, 1, 0, kX12_street) := ⟨mt_9 (List.mem_of_getElem? (i := 70) rfl), mt_1 (List.mem_of_getElem? (i := 12) rfl), ⟨by decide, by decide⟩, by decide +kernel, by decide, rfl, (fun h => by cases h), rfl, Or.inl ⟨rfl, mt_9 (List.mem_of_getElem? (i := 69) rfl)⟩, ckX12_street, by decide⟩
set_option maxRecDepth 100000 in
theorem mf_331 : MFr (yX12_refusesBlue, cX12_refusesBlue, 12, (some .int), 1, false) (2, 1, 18, kX12_refusesBlue) := ⟨mt_9 (List.mem_of_getElem? (i := 63) rfl), mt_1 (List.mem_of_getElem? (i := 12) rfl), ⟨by decide, by decide⟩, by decide +kernel, by decide, rfl, (fun h => by cases h), rfl, Or.inr ⟨by decide, by decide, mt_9 (List.mem_of_getElem? (i := 62) rfl), Or.inr (mt_s (List.mem_of_getElem? (i := 122) rfl)), _, _, rfl⟩, ckX12_refusesBlue, by decide⟩
set_option maxRecDepth 100000 in
theorem mf_332 : MFr (yX12_looks, cX12_looks, 12, (some .int), 4, false) (6, 1, 18, kX12_looks) := ⟨mt_9 (List.mem_of_getElem? (i := 59) rfl), mt_1 (List.mem_of_getElem? (i := 12) rfl), ⟨by decide, by decide⟩, by decide +kernel, by decide, rfl, (fun h => by cases h), rfl, Or.inr ⟨by decide, by decide, mt_9 (List.mem_of_getElem? (i := 57) rfl), Or.inr (mt_9 (List.mem_of_getElem? (i := 58) rfl)), _, _, rfl⟩, ckX12_looks, by decide⟩
set_option maxRecDepth 100000 in
theorem mf_333 : MFr (yX12_isRest, cX12_isRest, 12, (some .boolean), 2, false) (4, 2, 0, kX12_isRest) := ⟨mt_9 (List.mem_of_getElem? (i := 80) rfl), mt_1 (List.mem_of_getElem? (i := 12) rfl), ⟨by decide, by decide⟩, by decide +kernel, by decide, rfl, (fun h => by cases h), rfl, Or.inl ⟨rfl, mt_9 (List.mem_of_getElem? (i := 79) rfl)⟩, ckX12_isRest, by decide⟩
set_option maxRecDepth 100000 in
theorem mf_334 : MFr (yX12_rests, cX12_rests, 12, (some .int), 1, false) (5, 1, 18, kX12_rests) := ⟨mt_9 (List.mem_of_getElem? (i := 77) rfl), mt_1 (List.mem_of_getElem? (i := 12) rfl), ⟨by decide, by decide⟩, by decide +kernel, by decide, rfl, (fun h => by cases h), rfl, Or.inr ⟨by decide, by decide, mt_9 (List.mem_of_getElem? (i := 75) rfl), Or.inr (mt_9 (List.mem_of_getElem? (i := 76) rfl)), _, _, rfl⟩, ckX12_rests, by decide⟩
set_option maxRecDepth 100000 in
theorem mf_335 : MFr (yX12_rest, cX12_rest, 12, (some .int), 1, false) (4, 1, 18, kX12_rest) := ⟨mt_9 (List.mem_of_getElem? (i := 84) rfl), mt_1 (List.mem_of_getElem? (i := 12) rfl), ⟨by decide, by decide⟩, by decide +kernel, by decide, rfl, (fun h => by cases h), rfl, Or.inr ⟨by decide, by decide, mt_9 (List.mem_of_getElem? (i := 82) rfl), Or.inr (mt_9 (List.mem_of_getElem? (i := 83) rfl)), _, _, rfl⟩, ckX12_rest, by decide⟩
set_option maxRecDepth 100000 in
theorem mf_336 : MFr (yX12_spreadsOut, cX12_spreadsOut, 12, none, 1, false) (4, 0, 18, kX12_spreadsOut) := ⟨mt_9 (List.mem_of_getElem? (i := 96) rfl), mt_1 (List.mem_of_getElem? (i := 12) rfl), ⟨by decide, by decide⟩, by decide +kernel, by decide, rfl, (fun h => by cases h), rfl, Or.inr ⟨by decide, by decide, mt_9 (List.mem_of_getElem? (i := 95) rfl), Or.inr (mt_s (List.mem_of_getElem? (i := 125) rfl)), _, _, rfl⟩, ckX12_spreadsOut, by decide⟩
set_option maxRecDepth 100000 in
theorem mf_337 : MFr (yX12_spreads, cX12_spreads, 12, none, 1, false) (4, 0, 18, kX12_spreads) := ⟨mt_9 (List.mem_of_getElem? (i := 101) rfl), mt_1 (List.mem_of_getElem? (i := 12) rfl), ⟨by decide, by decide⟩, by decide +kernel, by decide, rfl, (fun h => by cases h), rfl, Or.inr ⟨by decide, by decide, mt_9 (List.mem_of_getElem? (i := 100) rfl), Or.inr (mt_s (List.mem_of_getElem? (i := 126) rfl)), _, _, rfl⟩, ckX12_spreads, by decide⟩
set_option maxRecDepth 100000 in
theorem mf_338 : MFr (yX12_refusesShakes, cX12_refusesShakes, 12, (some .int), 2, false) (3, 1, 18, kX12_refusesShakes) := ⟨mt_9 (List.mem_of_getElem? (i := 92) rfl), mt_1 (List.mem_of_getElem? (i := 12) rfl), ⟨by decide, by decide⟩, by decide +kernel, by decide, rfl, (fun h => by cases h), rfl, Or.inr ⟨by decide, by decide, mt_9 (List.mem_of_getElem? (i := 91) rfl), Or.inr (mt_s (List.mem_of_getElem? (i := 124) rfl)), _, _, rfl⟩, ckX12_refusesShakes, by decide⟩
set_option maxRecDepth 100000 in
theorem mf_339 : MFr (yX12_odds, cX12_odds, 12, (some .long), 4, false) (9, 3, 18, kX12_odds) := ⟨mt_9 (List.mem_of_getElem? (i := 88) rfl), mt_1 (List.mem_of_getElem? (i := 12) rfl), ⟨by decide, by decide⟩, by decide +kernel, by decide, rfl, (fun h => by cases h), rfl, Or.inr ⟨by decide, by decide, mt_9 (List.mem_of_getElem? (i := 86) rfl), Or.inr (mt_9 (List.mem_of_getElem? (i := 87) rfl)), _, _, rfl⟩, ckX12_odds, by decide⟩
set_option maxRecDepth 100000 in
theorem mf_340 : MFr (yX12_slotOdds, cX12_slotOdds, 12, (some .long), 4, false) (9, 3, 18, kX12_slotOdds) := ⟨mt_9 (List.mem_of_getElem? (i := 109) rfl), mt_1 (List.mem_of_getElem? (i := 12) rfl), ⟨by decide, by decide⟩, by decide +kernel, by decide, rfl, (fun h => by cases h), rfl, Or.inr ⟨by decide, by decide, mt_9 (List.mem_of_getElem? (i := 107) rfl), Or.inr (mt_9 (List.mem_of_getElem? (i := 108) rfl)), _, _, rfl⟩, ckX12_slotOdds, by decide⟩
set_option maxRecDepth 100000 in
theorem mf_341 : MFr (yX12_mean, cX12_mean, 12, (some .long), 2, false) (7, 3, 18, kX12_mean) := ⟨mt_9 (List.mem_of_getElem? (i := 113) rfl), mt_1 (List.mem_of_getElem? (i := 12) rfl), ⟨by decide, by decide⟩, by decide +kernel, by decide, rfl, (fun h => by cases h), rfl, Or.inr ⟨by decide, by decide, mt_9 (List.mem_of_getElem? (i := 111) rfl), Or.inr (mt_9 (List.mem_of_getElem? (i := 112) rfl)), _, _, rfl⟩, ckX12_mean, by decide⟩
set_option maxRecDepth 100000 in
theorem mf_342 : MFr (yX12_aShake, cX12_aShake, 12, none, 0, false) (2, 0, 18, kX12_aShake) := ⟨mt_9 (List.mem_of_getElem? (i := 126) rfl), mt_1 (List.mem_of_getElem? (i := 12) rfl), ⟨by decide, by decide⟩, by decide +kernel, by decide, rfl, (fun h => by cases h), rfl, Or.inr ⟨by decide, by decide, mt_9 (List.mem_of_getElem? (i := 125) rfl), Or.inr (mt_s (List.mem_of_getElem? (i := 129) rfl)), _, _, rfl⟩, ckX12_aShake, by decide⟩
set_option maxRecDepth 100000 in
theorem mf_343 : MFr (yX12_refusesSeed, cX12_refusesSeed, 12, (some .int), 3, false) (4, 1, 18, kX12_refusesSeed) := ⟨mt_9 (List.mem_of_getElem? (i := 121) rfl), mt_1 (List.mem_of_getElem? (i := 12) rfl), ⟨by decide, by decide⟩, by decide +kernel, by decide, rfl, (fun h => by cases h), rfl, Or.inr ⟨by decide, by decide, mt_9 (List.mem_of_getElem? (i := 120) rfl), Or.inr (mt_s (List.mem_of_getElem? (i := 128) rfl)), _, _, rfl⟩, ckX12_refusesSeed, by decide⟩
set_option maxRecDepth 100000 in
theorem mf_344 : MFr (yX12_shaken, cX12_shaken, 12, (some .int), 3, false) (6, 1, 18, kX12_shaken) := ⟨mt_9 (List.mem_of_getElem? (i := 117) rfl), mt_1 (List.mem_of_getElem? (i := 12) rfl), ⟨by decide, by decide⟩, by decide +kernel, by decide, rfl, (fun h => by cases h), rfl, Or.inr ⟨by decide, by decide, mt_9 (List.mem_of_getElem? (i := 115) rfl), Or.inr (mt_9 (List.mem_of_getElem? (i := 116) rfl)), _, _, rfl⟩, ckX12_shaken, by decide⟩
set_option maxRecDepth 100000 in
theorem mf_345 : MFr (yX12_peaceIn, cX12_peaceIn, 12, (some .int), 2, false) (5, 1, 18, kX12_peaceIn) := ⟨mt_9 (List.mem_of_getElem? (i := 133) rfl), mt_1 (List.mem_of_getElem? (i := 12) rfl), ⟨by decide, by decide⟩, by decide +kernel, by decide, rfl, (fun h => by cases h), rfl, Or.inr ⟨by decide, by decide, mt_9 (List.mem_of_getElem? (i := 131) rfl), Or.inr (mt_9 (List.mem_of_getElem? (i := 132) rfl)), _, _, rfl⟩, ckX12_peaceIn, by decide⟩
set_option maxRecDepth 100000 in
theorem mf_346 : MFr (yX12_remembers, cX12_remembers, 12, none, 0, false) (2, 0, 18, kX12_remembers) := ⟨mt_9 (List.mem_of_getElem? (i := 149) rfl), mt_1 (List.mem_of_getElem? (i := 12) rfl), ⟨by decide, by decide⟩, by decide +kernel, by decide, rfl, (fun h => by cases h), rfl, Or.inr ⟨by decide, by decide, mt_9 (List.mem_of_getElem? (i := 148) rfl), Or.inr (mt_s (List.mem_of_getElem? (i := 132) rfl)), _, _, rfl⟩, ckX12_remembers, by decide⟩
set_option maxRecDepth 100000 in
theorem mf_347 : MFr (yX12_slidesAll, cX12_slidesAll, 12, (some .int), 0, false) (3, 1, 18, kX12_slidesAll) := ⟨mt_9 (List.mem_of_getElem? (i := 145) rfl), mt_1 (List.mem_of_getElem? (i := 12) rfl), ⟨by decide, by decide⟩, by decide +kernel, by decide, rfl, (fun h => by cases h), rfl, Or.inr ⟨by decide, by decide, mt_9 (List.mem_of_getElem? (i := 144) rfl), Or.inr (mt_s (List.mem_of_getElem? (i := 131) rfl)), _, _, rfl⟩, ckX12_slidesAll, by decide⟩
set_option maxRecDepth 100000 in
theorem mf_348 : MFr (yX12_layTurn, cX12_layTurn, 12, none, 1, false) (3, 0, 18, kX12_layTurn) := ⟨mt_9 (List.mem_of_getElem? (i := 141) rfl), mt_1 (List.mem_of_getElem? (i := 12) rfl), ⟨by decide, by decide⟩, by decide +kernel, by decide, rfl, (fun h => by cases h), rfl, Or.inr ⟨by decide, by decide, mt_9 (List.mem_of_getElem? (i := 140) rfl), Or.inr (mt_s (List.mem_of_getElem? (i := 130) rfl)), _, _, rfl⟩, ckX12_layTurn, by decide⟩
set_option maxRecDepth 100000 in
theorem mf_349 : MFr (yX12_turn, cX12_turn, 12, (some .int), 1, false) (2, 1, 18, kX12_turn) := ⟨mt_9 (List.mem_of_getElem? (i := 137) rfl), mt_1 (List.mem_of_getElem? (i := 12) rfl), ⟨by decide, by decide⟩, by decide +kernel, by decide, rfl, (fun h => by cases h), rfl, Or.inr ⟨by decide, by decide, mt_9 (List.mem_of_getElem? (i := 135) rfl), Or.inr (mt_9 (List.mem_of_getElem? (i := 136) rfl)), _, _, rfl⟩, ckX12_turn, by decide⟩
set_option maxRecDepth 100000 in
theorem mf_350 : MFr (yX12_turnBack, cX12_turnBack, 12, (some .int), 1, false) (2, 1, 18, kX12_turnBack) := ⟨mt_9 (List.mem_of_getElem? (i := 153) rfl), mt_1 (List.mem_of_getElem? (i := 12) rfl), ⟨by decide, by decide⟩, by decide +kernel, by decide, rfl, (fun h => by cases h), rfl, Or.inr ⟨by decide, by decide, mt_9 (List.mem_of_getElem? (i := 151) rfl), Or.inr (mt_9 (List.mem_of_getElem? (i := 152) rfl)), _, _, rfl⟩, ckX12_turnBack, by decide⟩
set_option maxRecDepth 100000 in
theorem mf_351 : MFr (yX12_move, cX12_move, 12, (some .int), 2, false) (4, 1, 18, kX12_move) := ⟨mt_9 (List.mem_of_getElem? (i := 157) rfl), mt_1 (List.mem_of_getElem? (i := 12) rfl), ⟨by decide, by decide⟩, by decide +kernel, by decide, rfl, (fun h => by cases h), rfl, Or.inr ⟨by decide, by decide, mt_9 (List.mem_of_getElem? (i := 155) rfl), Or.inr (mt_9 (List.mem_of_getElem? (i := 156) rfl)), _, _, rfl⟩, ckX12_move, by decide⟩
set_option maxRecDepth 100000 in
theorem mf_352 : MFr (yX12_undo, cX12_undo, 12, (some .boolean), 0, false) (2, 2, 18, kX12_undo) := ⟨mt_9 (List.mem_of_getElem? (i := 161) rfl), mt_1 (List.mem_of_getElem? (i := 12) rfl), ⟨by decide, by decide⟩, by decide +kernel, by decide, rfl, (fun h => by cases h), rfl, Or.inr ⟨by decide, by decide, mt_9 (List.mem_of_getElem? (i := 159) rfl), Or.inr (mt_9 (List.mem_of_getElem? (i := 160) rfl)), _, _, rfl⟩, ckX12_undo, by decide⟩
set_option maxRecDepth 100000 in
theorem mf_353 : MFr (yX12_keep, cX12_keep, 12, (some .int), 0, false) (2, 1, 18, kX12_keep) := ⟨mt_9 (List.mem_of_getElem? (i := 173) rfl), mt_1 (List.mem_of_getElem? (i := 12) rfl), ⟨by decide, by decide⟩, by decide +kernel, by decide, rfl, (fun h => by cases h), rfl, Or.inr ⟨by decide, by decide, mt_9 (List.mem_of_getElem? (i := 171) rfl), Or.inr (mt_9 (List.mem_of_getElem? (i := 172) rfl)), _, _, rfl⟩, ckX12_keep, by decide⟩
set_option maxRecDepth 100000 in
theorem mf_354 : MFr (yX12_back, cX12_back, 12, (some .boolean), 1, false) (3, 2, 18, kX12_back) := ⟨mt_9 (List.mem_of_getElem? (i := 177) rfl), mt_1 (List.mem_of_getElem? (i := 12) rfl), ⟨by decide, by decide⟩, by decide +kernel, by decide, rfl, (fun h => by cases h), rfl, Or.inr ⟨by decide, by decide, mt_9 (List.mem_of_getElem? (i := 175) rfl), Or.inr (mt_9 (List.mem_of_getElem? (i := 176) rfl)), _, _, rfl⟩, ckX12_back, by decide⟩
set_option maxRecDepth 100000 in
theorem mf_355 : MFr (yX12_led, cX12_led, 12, (some .int), 1, false) (4, 1, 18, kX12_led) := ⟨mt_9 (List.mem_of_getElem? (i := 181) rfl), mt_1 (List.mem_of_getElem? (i := 12) rfl), ⟨by decide, by decide⟩, by decide +kernel, by decide, rfl, (fun h => by cases h), rfl, Or.inr ⟨by decide, by decide, mt_9 (List.mem_of_getElem? (i := 179) rfl), Or.inr (mt_9 (List.mem_of_getElem? (i := 180) rfl)), _, _, rfl⟩, ckX12_led, by decide⟩
set_option maxRecDepth 100000 in
theorem mf_356 : MFr (yX12_size, cX12_size, 12, (some .int), 1, false) (2, 1, 18, kX12_size) := ⟨mt_9 (List.mem_of_getElem? (i := 185) rfl), mt_1 (List.mem_of_getElem? (i := 12) rfl), ⟨by decide, by decide⟩, by decide +kernel, by decide, rfl, (fun h => by cases h), rfl, Or.inr ⟨by decide, by decide, mt_9 (List.mem_of_getElem? (i := 183) rfl), Or.inr (mt_9 (List.mem_of_getElem? (i := 184) rfl)), _, _, rfl⟩, ckX12_size, by decide⟩
set_option maxRecDepth 100000 in
theorem mf_357 : MFr (yX12_trouble, cX12_trouble, 12, (some .int), 0, false) (1, 1, 18, kX12_trouble) := ⟨mt_9 (List.mem_of_getElem? (i := 189) rfl), mt_1 (List.mem_of_getElem? (i := 12) rfl), ⟨by decide, by decide⟩, by decide +kernel, by decide, rfl, (fun h => by cases h), rfl, Or.inr ⟨by decide, by decide, mt_9 (List.mem_of_getElem? (i := 187) rfl), Or.inr (mt_9 (List.mem_of_getElem? (i := 188) rfl)), _, _, rfl⟩, ckX12_trouble, by decide⟩
set_option maxRecDepth 100000 in
theorem mf_358 : MFr (yJ6_bitCount_0f7a4, cJ6_bitCount_0f7a4, 13, (some .int), 1, false) (1, 1, 0, kJ6_bitCount_0f7a4) := ⟨mt_3 (List.mem_of_getElem? (i := 136) rfl), mt_1 (List.mem_of_getElem? (i := 16) rfl), ⟨by decide, by decide⟩, by decide +kernel, by decide, rfl, (fun h => by cases h), rfl, Or.inl ⟨rfl, mt_3 (List.mem_of_getElem? (i := 135) rfl)⟩, ckJ6_bitCount_0f7a4, by decide⟩
set_option maxRecDepth 100000 in
theorem mf_359 : MFr (yX5_changeFor, cX5_changeFor, 5, (some (.object "StreetTube$Told")), 1, false) (3, 4, 12, kX5_changeFor) := ⟨mt_3 (List.mem_of_getElem? (i := 52) rfl), mt_1 (List.mem_of_getElem? (i := 4) rfl), ⟨by decide, by decide⟩, by decide +kernel, by decide, rfl, (fun h => by cases h), ⟨_, rfl⟩, Or.inr ⟨by decide, by decide, mt_3 (List.mem_of_getElem? (i := 50) rfl), Or.inr (mt_3 (List.mem_of_getElem? (i := 51) rfl)), _, _, rfl⟩, ckX5_changeFor, by decide⟩
set_option maxRecDepth 100000 in
theorem mf_360 : MFr (yX9_addPerson, cX9_addPerson, 9, none, 2, false) (3, 0, 15, kX9_addPerson) := ⟨mt_2 (List.mem_of_getElem? (i := 226) rfl), mt_1 (List.mem_of_getElem? (i := 2) rfl), ⟨by decide, by decide⟩, by decide +kernel, by decide, rfl, (fun h => by cases h), rfl, Or.inr ⟨by decide, by decide, mt_2 (List.mem_of_getElem? (i := 224) rfl), Or.inr (mt_2 (List.mem_of_getElem? (i := 225) rfl)), _, _, rfl⟩, ckX9_addPerson, by decide⟩
set_option maxRecDepth 100000 in
theorem mf_361 : MFr (yX9_addTurn, cX9_addTurn, 9, none, 1, false) (2, 0, 15, kX9_addTurn) := ⟨mt_2 (List.mem_of_getElem? (i := 237) rfl), mt_1 (List.mem_of_getElem? (i := 2) rfl), ⟨by decide, by decide⟩, by decide +kernel, by decide, rfl, (fun h => by cases h), rfl, Or.inr ⟨by decide, by decide, mt_2 (List.mem_of_getElem? (i := 235) rfl), Or.inr (mt_2 (List.mem_of_getElem? (i := 236) rfl)), _, _, rfl⟩, ckX9_addTurn, by decide⟩
set_option maxRecDepth 100000 in
theorem mf_362 : MFr (yX9_addUnsure, cX9_addUnsure, 9, none, 2, false) (3, 0, 15, kX9_addUnsure) := ⟨mt_3 (List.mem_of_getElem? (i := 30) rfl), mt_1 (List.mem_of_getElem? (i := 2) rfl), ⟨by decide, by decide⟩, by decide +kernel, by decide, rfl, (fun h => by cases h), rfl, Or.inr ⟨by decide, by decide, mt_3 (List.mem_of_getElem? (i := 28) rfl), Or.inr (mt_3 (List.mem_of_getElem? (i := 29) rfl)), _, _, rfl⟩, ckX9_addUnsure, by decide⟩
def rtab_0 : List RRow := [(yX0_power, cX0_power, 0, (some .long), 2, false), (yX0_fixedByGoingRound, cX0_fixedByGoingRound, 0, (some .long), 2, false), (yX0_commonPart, cX0_commonPart, 0, (some .int), 2, false), (yX0_fixedByGoingOver, cX0_fixedByGoingOver, 0, (some .long), 2, false), (yX1_isLook, cX1_isLook, 1, (some .boolean), 1, false), (yX1_isHope, cX1_isHope, 1, (some .boolean), 1, false), (yX1_ofEye, cX1_ofEye, 1, (some .int), 3, false), (yX1_ofStreet, cX1_ofStreet, 1, (some .int), 3, false), (yX1_isRest, cX1_isRest, 1, (some .boolean), 2, false), (yX2_endsBeside, cX2_endsBeside, 2, (some .boolean), 5, false), (yX2_firstTurn, cX2_firstTurn, 2, (some .int), 4, false), (yX3_init, cX3_init, 3, none, 1, true), (yX3_isFull, cX3_isFull, 3, (some .boolean), 0, false), (yX3_add, cX3_add, 3, none, 3, false), (yX3_partners, cX3_partners, 3, (some .int), 1, false), (yX3_all, cX3_all, 3, (some .int), 0, false), (yX3_holding, cX3_holding, 3, (some .int), 1, false), (yX3_firstBroken, cX3_firstBroken, 3, (some .int), 1, false), (yX4_init, cX4_init, 4, none, 0, true), (yX4_explore, cX4_explore, 4, none, 2, false), (yX4_find, cX4_find, 4, none, 3, false), (yX4_depthOf, cX4_depthOf, 4, (some .int), 1, false), (yX4_most, cX4_most, 4, (some .int), 0, false), (yX4_evenCount, cX4_evenCount, 4, (some .int), 0, false)]
theorem fa_0 : ∀ r, r < 24 → MFr (rtab_0.getD r rr0) (mtab_0.getD r (0, 0, 0, []))
  | 0, _ => mf_0
  | 1, _ => mf_1
  | 2, _ => mf_2
  | 3, _ => mf_3
  | 4, _ => mf_4
  | 5, _ => mf_5
  | 6, _ => mf_6
  | 7, _ => mf_7
  | 8, _ => mf_8
  | 9, _ => mf_9
  | 10, _ => mf_10
  | 11, _ => mf_11
  | 12, _ => mf_12
  | 13, _ => mf_13
  | 14, _ => mf_14
  | 15, _ => mf_15
  | 16, _ => mf_16
  | 17, _ => mf_17
  | 18, _ => mf_18
  | 19, _ => mf_19
  | 20, _ => mf_20
  | 21, _ => mf_21
  | 22, _ => mf_22
  | 23, _ => mf_23
  | r + 24, h => absurd h (by omega)
def rtab_1 : List RRow := [(yX4_comesInto, cX4_comesInto, 4, (some .int), 1, false), (yX4_leaving, cX4_leaving, 4, (some .int), 1, false), (yX4_pairSets, cX4_pairSets, 4, (some .int), 0, false), (yX4_pairsFrom, cX4_pairsFrom, 4, (some .long), 2, false), (yX4_central, cX4_central, 4, (some .int), 1, false), (yX4_standBehind, cX4_standBehind, 4, (some .int), 3, false), (yX4_firstHolding, cX4_firstHolding, 4, (some .int), 4, false), (yX4_firstBringing, cX4_firstBringing, 4, (some .int), 2, false), (yX4_turnAt, cX4_turnAt, 4, (some .int), 2, false), (yX4_colourCount, cX4_colourCount, 4, (some .long), 1, false), (yX5_init, cX5_init, 5, none, 0, true), (yX5_put, cX5_put, 5, none, 1, false), (yX5_read, cX5_read, 5, (some .boolean), 1, false), (yX5_failHere, cX5_failHere, 5, (some .boolean), 1, false), (yX5_step, cX5_step, 5, none, 0, false), (yX5_takeWord, cX5_takeWord, 5, none, 0, false), (yX5_takeWhole, cX5_takeWhole, 5, none, 0, false), (yX5_coded, cX5_coded, 5, (some .long), 1, false), (yX5_isWord, cX5_isWord, 5, (some .boolean), 1, false), (yX5_lineSort, cX5_lineSort, 5, (some .int), 0, false), (yX5_takeLine, cX5_takeLine, 5, (some .boolean), 0, false), (yX5_isFull, cX5_isFull, 5, (some .boolean), 1, false), (yX5_goesOn, cX5_goesOn, 5, (some .boolean), 0, false), (yX5_takeTube, cX5_takeTube, 5, (some .boolean), 0, false)]
theorem fa_1 : ∀ r, r < 24 → MFr (rtab_1.getD r rr0) (mtab_1.getD r (0, 0, 0, []))
  | 0, _ => mf_24
  | 1, _ => mf_25
  | 2, _ => mf_26
  | 3, _ => mf_27
  | 4, _ => mf_28
  | 5, _ => mf_29
  | 6, _ => mf_30
  | 7, _ => mf_31
  | 8, _ => mf_32
  | 9, _ => mf_33
  | 10, _ => mf_34
  | 11, _ => mf_35
  | 12, _ => mf_36
  | 13, _ => mf_37
  | 14, _ => mf_38
  | 15, _ => mf_39
  | 16, _ => mf_40
  | 17, _ => mf_41
  | 18, _ => mf_42
  | 19, _ => mf_43
  | 20, _ => mf_44
  | 21, _ => mf_45
  | 22, _ => mf_46
  | 23, _ => mf_47
  | r + 24, h => absurd h (by omega)
def rtab_2 : List RRow := [(yX5_takePerson, cX5_takePerson, 5, (some .boolean), 0, false), (yX5_takeTurn, cX5_takeTurn, 5, (some .boolean), 0, false), (yX5_takeQuarrel, cX5_takeQuarrel, 5, (some .boolean), 0, false), (yX5_takeWish, cX5_takeWish, 5, (some .boolean), 1, false), (yX5_takeUnsure, cX5_takeUnsure, 5, (some .boolean), 0, false), (yX5_takeSeen, cX5_takeSeen, 5, (some .boolean), 0, false), (yX5_takeThis, cX5_takeThis, 5, (some .boolean), 1, false), (yX5_isBetween, cX5_isBetween, 5, (some .boolean), 2, false), (yX5_takeBetween, cX5_takeBetween, 5, (some .int), 2, false), (yX5_nameHere, cX5_nameHere, 5, (some .int), 0, false), (yX5_takeNewName, cX5_takeNewName, 5, (some .boolean), 1, false), (yX5_personHere, cX5_personHere, 5, (some .int), 0, false), (yX5_takePersonsName, cX5_takePersonsName, 5, (some .int), 0, false), (yX5_takeAnother, cX5_takeAnother, 5, (some .int), 1, false), (yX6_init, cX6_init, 6, none, 0, true), (yX6_spread, cX6_spread, 6, none, 4, false), (yX6_state, cX6_state, 6, (some .int), 2, false), (yX6_shakeOnce, cX6_shakeOnce, 6, none, 1, false), (yX6_besideWeight, cX6_besideWeight, 6, (some .long), 0, false), (yX6_weightIn, cX6_weightIn, 6, (some .long), 1, false), (yX6_draw, cX6_draw, 6, (some .int), 0, false), (yX6_drawnShake, cX6_drawnShake, 6, (some .int), 2, false), (yX7_at, cX7_at, 7, (some .int), 2, false), (yX7_with, cX7_with, 7, (some .int), 3, false)]
theorem fa_2 : ∀ r, r < 24 → MFr (rtab_2.getD r rr0) (mtab_2.getD r (0, 0, 0, []))
  | 0, _ => mf_48
  | 1, _ => mf_49
  | 2, _ => mf_50
  | 3, _ => mf_51
  | 4, _ => mf_52
  | 5, _ => mf_53
  | 6, _ => mf_54
  | 7, _ => mf_55
  | 8, _ => mf_56
  | 9, _ => mf_57
  | 10, _ => mf_58
  | 11, _ => mf_59
  | 12, _ => mf_60
  | 13, _ => mf_61
  | 14, _ => mf_62
  | 15, _ => mf_63
  | 16, _ => mf_64
  | 17, _ => mf_65
  | 18, _ => mf_66
  | 19, _ => mf_67
  | 20, _ => mf_68
  | 21, _ => mf_69
  | 22, _ => mf_70
  | 23, _ => mf_71
  | r + 24, h => absurd h (by omega)
def rtab_3 : List RRow := [(yX7_areBeside, cX7_areBeside, 7, (some .boolean), 2, false), (yX7_same, cX7_same, 7, (some .int), 1, false), (yX7_otherWayRound, cX7_otherWayRound, 7, (some .int), 1, false), (yX7_through, cX7_through, 7, (some .int), 3, false), (yX7_inverse, cX7_inverse, 7, (some .int), 2, false), (yX7_commuting, cX7_commuting, 7, (some .boolean), 3, false), (yX7_fixed, cX7_fixed, 7, (some .int), 2, false), (yX7_cycles, cX7_cycles, 7, (some .int), 2, false), (yX7_isEven, cX7_isEven, 7, (some .boolean), 2, false), (yX7_order, cX7_order, 7, (some .int), 2, false), (yX7_rank, cX7_rank, 7, (some .int), 2, false), (yX8_init, cX8_init, 8, none, 0, true), (yX8_begin, cX8_begin, 8, none, 1, false), (yX8_act, cX8_act, 8, none, 1, false), (yX8_takeBack, cX8_takeBack, 8, none, 0, false), (yX8_keepImage, cX8_keepImage, 8, (some .int), 0, false), (yX8_goBack, cX8_goBack, 8, none, 1, false), (yX9_init, cX9_init, 9, none, 0, true), (yX9_clear, cX9_clear, 9, none, 0, false), (yX9_isHome, cX9_isHome, 9, (some .boolean), 1, false), (yX9_isUnsure, cX9_isUnsure, 9, (some .boolean), 1, false), (yX9_homeStand, cX9_homeStand, 9, (some .int), 0, false), (yX9_changeBy, cX9_changeBy, 9, (some .int), 2, false), (yX9_unsureSets, cX9_unsureSets, 9, (some .int), 0, false)]
theorem fa_3 : ∀ r, r < 24 → MFr (rtab_3.getD r rr0) (mtab_3.getD r (0, 0, 0, []))
  | 0, _ => mf_72
  | 1, _ => mf_73
  | 2, _ => mf_74
  | 3, _ => mf_75
  | 4, _ => mf_76
  | 5, _ => mf_77
  | 6, _ => mf_78
  | 7, _ => mf_79
  | 8, _ => mf_80
  | 9, _ => mf_81
  | 10, _ => mf_82
  | 11, _ => mf_83
  | 12, _ => mf_84
  | 13, _ => mf_85
  | 14, _ => mf_86
  | 15, _ => mf_87
  | 16, _ => mf_88
  | 17, _ => mf_89
  | 18, _ => mf_90
  | 19, _ => mf_91
  | 20, _ => mf_92
  | 21, _ => mf_93
  | 22, _ => mf_94
  | 23, _ => mf_95
  | r + 24, h => absurd h (by omega)
def rtab_4 : List RRow := [(yX9_fitting, cX9_fitting, 9, (some .int), 0, false), (yX9_standBy, cX9_standBy, 9, (some .int), 1, false), (yX9_areUnlike, cX9_areUnlike, 9, (some .boolean), 1, false), (yX9_leftAtMost, cX9_leftAtMost, 9, (some .int), 2, false), (yX9_shakeWeight, cX9_shakeWeight, 9, (some .long), 1, false), (yX10_init, cX10_init, 10, none, 0, true), (yX10_feed, cX10_feed, 10, (some .int), 5, false), (yX10_tube, cX10_tube, 10, (some .int), 1, false), (yX10_fault, cX10_fault, 10, (some .int), 0, false), (yX10_where, cX10_where, 10, (some .int), 0, false), (yX10_person, cX10_person, 10, (some .int), 2, false), (yX10_slot, cX10_slot, 10, (some .int), 1, false), (yX10_turned, cX10_turned, 10, (some .int), 2, false), (yX10_quarrels, cX10_quarrels, 10, (some .int), 0, false), (yX10_met, cX10_met, 10, (some .int), 0, false), (yX10_ring, cX10_ring, 10, (some .int), 1, false), (yX10_truth, cX10_truth, 10, (some .int), 1, false), (yX10_image, cX10_image, 10, (some .int), 2, false), (yX10_selves, cX10_selves, 10, (some .int), 0, false), (yX10_near, cX10_near, 10, (some .int), 2, false), (yX10_seenIn, cX10_seenIn, 10, (some .int), 1, false), (yX10_slides, cX10_slides, 10, (some .int), 3, false), (yX10_round, cX10_round, 10, (some .int), 2, false), (yX10_even, cX10_even, 10, (some .int), 2, false)]
theorem fa_4 : ∀ r, r < 24 → MFr (rtab_4.getD r rr0) (mtab_4.getD r (0, 0, 0, []))
  | 0, _ => mf_96
  | 1, _ => mf_97
  | 2, _ => mf_98
  | 3, _ => mf_99
  | 4, _ => mf_100
  | 5, _ => mf_101
  | 6, _ => mf_102
  | 7, _ => mf_103
  | 8, _ => mf_104
  | 9, _ => mf_105
  | 10, _ => mf_106
  | 11, _ => mf_107
  | 12, _ => mf_108
  | 13, _ => mf_109
  | 14, _ => mf_110
  | 15, _ => mf_111
  | 16, _ => mf_112
  | 17, _ => mf_113
  | 18, _ => mf_114
  | 19, _ => mf_115
  | 20, _ => mf_116
  | 21, _ => mf_117
  | 22, _ => mf_118
  | 23, _ => mf_119
  | r + 24, h => absurd h (by omega)
def rtab_5 : List RRow := [(yX10_fixes, cX10_fixes, 10, (some .int), 2, false), (yX10_commute, cX10_commute, 10, (some .int), 2, false), (yX10_undoing, cX10_undoing, 10, (some .int), 2, false), (yX10_reach, cX10_reach, 10, (some .int), 0, false), (yX10_deepest, cX10_deepest, 10, (some .int), 0, false), (yX10_evens, cX10_evens, 10, (some .int), 0, false), (yX10_orbit, cX10_orbit, 10, (some .int), 1, false), (yX10_keeps, cX10_keeps, 10, (some .int), 1, false), (yX10_pairs, cX10_pairs, 10, (some .int), 0, false), (yX10_centre, cX10_centre, 10, (some .int), 0, false), (yX10_errand, cX10_errand, 10, (some .int), 0, false), (yX10_errandAt, cX10_errandAt, 10, (some .int), 1, false), (yX10_peace, cX10_peace, 10, (some .int), 0, false), (yX10_peaceAt, cX10_peaceAt, 10, (some .int), 1, false), (yX10_bring, cX10_bring, 10, (some .int), 2, false), (yX10_calmest, cX10_calmest, 10, (some .int), 0, false), (yX10_colourings, cX10_colourings, 10, (some .long), 1, false), (yX10_mirrored, cX10_mirrored, 10, (some .long), 1, false), (yX10_necklaces, cX10_necklaces, 10, (some .long), 2, false), (yX10_bracelets, cX10_bracelets, 10, (some .long), 2, false), (yX10_fits, cX10_fits, 10, (some .int), 0, false), (yX10_fitAt, cX10_fitAt, 10, (some .int), 1, false), (yX10_could, cX10_could, 10, (some .int), 0, false), (yX10_surely, cX10_surely, 10, (some .int), 0, false)]
theorem fa_5 : ∀ r, r < 24 → MFr (rtab_5.getD r rr0) (mtab_5.getD r (0, 0, 0, []))
  | 0, _ => mf_120
  | 1, _ => mf_121
  | 2, _ => mf_122
  | 3, _ => mf_123
  | 4, _ => mf_124
  | 5, _ => mf_125
  | 6, _ => mf_126
  | 7, _ => mf_127
  | 8, _ => mf_128
  | 9, _ => mf_129
  | 10, _ => mf_130
  | 11, _ => mf_131
  | 12, _ => mf_132
  | 13, _ => mf_133
  | 14, _ => mf_134
  | 15, _ => mf_135
  | 16, _ => mf_136
  | 17, _ => mf_137
  | 18, _ => mf_138
  | 19, _ => mf_139
  | 20, _ => mf_140
  | 21, _ => mf_141
  | 22, _ => mf_142
  | 23, _ => mf_143
  | r + 24, h => absurd h (by omega)
def rtab_6 : List RRow := [(yX10_ask, cX10_ask, 10, (some .int), 0, false), (yX10_askLeaves, cX10_askLeaves, 10, (some .int), 0, false), (yX10_judge, cX10_judge, 10, (some .int), 0, false), (yX10_gets, cX10_gets, 10, (some .int), 3, false), (yX10_getsBy, cX10_getsBy, 10, (some .int), 3, false), (yX10_looks, cX10_looks, 10, (some .int), 4, false), (yX10_rests, cX10_rests, 10, (some .int), 1, false), (yX10_rest, cX10_rest, 10, (some .int), 1, false), (yX10_odds, cX10_odds, 10, (some .long), 4, false), (yX10_slotOdds, cX10_slotOdds, 10, (some .long), 4, false), (yX10_mean, cX10_mean, 10, (some .long), 2, false), (yX10_shaken, cX10_shaken, 10, (some .int), 3, false), (yX10_peaceIn, cX10_peaceIn, 10, (some .int), 2, false), (yX10_turn, cX10_turn, 10, (some .int), 1, false), (yX10_turnBack, cX10_turnBack, 10, (some .int), 1, false), (yX10_move, cX10_move, 10, (some .int), 2, false), (yX10_undo, cX10_undo, 10, (some .boolean), 0, false), (yX10_keep, cX10_keep, 10, (some .int), 0, false), (yX10_back, cX10_back, 10, (some .boolean), 1, false), (yX10_led, cX10_led, 10, (some .int), 1, false), (yX10_size, cX10_size, 10, (some .int), 1, false), (yX10_trouble, cX10_trouble, 10, (some .int), 0, false), (yX10_refused, cX10_refused, 10, (some .int), 1, false), (yX10_fine, cX10_fine, 10, (some .int), 1, false)]
theorem fa_6 : ∀ r, r < 24 → MFr (rtab_6.getD r rr0) (mtab_6.getD r (0, 0, 0, []))
  | 0, _ => mf_144
  | 1, _ => mf_145
  | 2, _ => mf_146
  | 3, _ => mf_147
  | 4, _ => mf_148
  | 5, _ => mf_149
  | 6, _ => mf_150
  | 7, _ => mf_151
  | 8, _ => mf_152
  | 9, _ => mf_153
  | 10, _ => mf_154
  | 11, _ => mf_155
  | 12, _ => mf_156
  | 13, _ => mf_157
  | 14, _ => mf_158
  | 15, _ => mf_159
  | 16, _ => mf_160
  | 17, _ => mf_161
  | 18, _ => mf_162
  | 19, _ => mf_163
  | 20, _ => mf_164
  | 21, _ => mf_165
  | 22, _ => mf_166
  | 23, _ => mf_167
  | r + 24, h => absurd h (by omega)
def rtab_7 : List RRow := [(yX10_fineLong, cX10_fineLong, 10, (some .long), 1, false), (yX10_isTube, cX10_isTube, 10, (some .boolean), 0, false), (yX10_isPerson, cX10_isPerson, 10, (some .boolean), 1, false), (yX10_areTwo, cX10_areTwo, 10, (some .boolean), 2, false), (yX10_isSlot, cX10_isSlot, 10, (some .boolean), 1, false), (yX10_isTurn, cX10_isTurn, 10, (some .boolean), 1, false), (yX10_isPlace, cX10_isPlace, 10, (some .boolean), 1, false), (yX10_areColours, cX10_areColours, 10, (some .boolean), 1, false), (yX10_areBeads, cX10_areBeads, 10, (some .boolean), 1, false), (yX10_isBlue, cX10_isBlue, 10, (some .boolean), 1, false), (yX10_isSeed, cX10_isSeed, 10, (some .boolean), 1, false), (yX10_slotOf, cX10_slotOf, 10, (some .int), 1, false), (yX10_whoIsIn, cX10_whoIsIn, 10, (some .int), 1, false), (yX10_besideBits, cX10_besideBits, 10, (some .int), 1, false), (yX10_quarrelsBy, cX10_quarrelsBy, 10, (some .int), 1, false), (yX10_sectors, cX10_sectors, 10, (some .int), 0, false), (yX10_places, cX10_places, 10, (some .int), 0, false), (yX10_slotAt, cX10_slotAt, 10, (some .int), 1, false), (yX10_placeIn, cX10_placeIn, 10, (some .int), 2, false), (yX10_reached, cX10_reached, 10, (some (.object "StreetTube$Reach")), 0, false), (yX10_errandChange, cX10_errandChange, 10, (some .int), 0, false), (yX10_peaceChange, cX10_peaceChange, 10, (some .int), 0, false), (yX10_depthOrNot, cX10_depthOrNot, 10, (some .int), 1, false), (yX10_turnOnTheWay, cX10_turnOnTheWay, 10, (some .int), 2, false)]
theorem fa_7 : ∀ r, r < 24 → MFr (rtab_7.getD r rr0) (mtab_7.getD r (0, 0, 0, []))
  | 0, _ => mf_168
  | 1, _ => mf_169
  | 2, _ => mf_170
  | 3, _ => mf_171
  | 4, _ => mf_172
  | 5, _ => mf_173
  | 6, _ => mf_174
  | 7, _ => mf_175
  | 8, _ => mf_176
  | 9, _ => mf_177
  | 10, _ => mf_178
  | 11, _ => mf_179
  | 12, _ => mf_180
  | 13, _ => mf_181
  | 14, _ => mf_182
  | 15, _ => mf_183
  | 16, _ => mf_184
  | 17, _ => mf_185
  | 18, _ => mf_186
  | 19, _ => mf_187
  | 20, _ => mf_188
  | 21, _ => mf_189
  | 22, _ => mf_190
  | 23, _ => mf_191
  | r + 24, h => absurd h (by omega)
def rtab_8 : List RRow := [(yX10_whomToAsk, cX10_whomToAsk, 10, (some .int), 1, false), (yX10_slideAll, cX10_slideAll, 10, (some .int), 1, false), (yX10_inLowestTerms, cX10_inLowestTerms, 10, (some .long), 3, false), (yX11_init, cX11_init, 11, none, 0, true), (yX11_find, cX11_find, 11, (some .int), 1, false), (yX11_isTaken, cX11_isTaken, 11, (some .boolean), 1, false), (yX11_isUnsure, cX11_isUnsure, 11, (some .boolean), 1, false), (yX12_init, cX12_init, 12, none, 0, true), (yX12_thrown, cX12_thrown, 12, (some .int), 0, false), (yX12_refused, cX12_refused, 12, (some .int), 1, false), (yX12_lost, cX12_lost, 12, (some .int), 1, false), (yX12_denied, cX12_denied, 12, (some .boolean), 1, false), (yX12_good, cX12_good, 12, (some .int), 1, false), (yX12_goodLong, cX12_goodLong, 12, (some .long), 1, false), (yX12_granted, cX12_granted, 12, (some .boolean), 0, false), (yX12_in, cX12_in, 12, (some .boolean), 3, false), (yX12_bit, cX12_bit, 12, (some .boolean), 2, false), (yX12_bits, cX12_bits, 12, (some .int), 1, false), (yX12_common, cX12_common, 12, (some .long), 2, false), (yX12_fraction, cX12_fraction, 12, (some .long), 3, false), (yX12_power, cX12_power, 12, (some .long), 2, false), (yX12_byteAt, cX12_byteAt, 12, (some .int), 1, false), (yX12_isLetter, cX12_isLetter, 12, (some .boolean), 1, false), (yX12_isDigit, cX12_isDigit, 12, (some .boolean), 1, false)]
theorem fa_8 : ∀ r, r < 24 → MFr (rtab_8.getD r rr0) (mtab_8.getD r (0, 0, 0, []))
  | 0, _ => mf_192
  | 1, _ => mf_193
  | 2, _ => mf_194
  | 3, _ => mf_195
  | 4, _ => mf_196
  | 5, _ => mf_197
  | 6, _ => mf_198
  | 7, _ => mf_199
  | 8, _ => mf_200
  | 9, _ => mf_201
  | 10, _ => mf_202
  | 11, _ => mf_203
  | 12, _ => mf_204
  | 13, _ => mf_205
  | 14, _ => mf_206
  | 15, _ => mf_207
  | 16, _ => mf_208
  | 17, _ => mf_209
  | 18, _ => mf_210
  | 19, _ => mf_211
  | 20, _ => mf_212
  | 21, _ => mf_213
  | 22, _ => mf_214
  | 23, _ => mf_215
  | r + 24, h => absurd h (by omega)
def rtab_9 : List RRow := [(yX12_packed, cX12_packed, 12, (some .long), 1, false), (yX12_goesOn, cX12_goesOn, 12, none, 0, false), (yX12_flaw, cX12_flaw, 12, none, 1, false), (yX12_isWord, cX12_isWord, 12, (some .boolean), 1, false), (yX12_eatsSemicolon, cX12_eatsSemicolon, 12, (some .boolean), 0, false), (yX12_needs, cX12_needs, 12, none, 1, false), (yX12_wholeAt, cX12_wholeAt, 12, (some .int), 2, false), (yX12_readPart, cX12_readPart, 12, (some .int), 3, false), (yX12_isName, cX12_isName, 12, (some .boolean), 0, false), (yX12_lineBegins, cX12_lineBegins, 12, none, 2, false), (yX12_readFresh, cX12_readFresh, 12, (some .long), 0, false), (yX12_names, cX12_names, 12, none, 3, false), (yX12_personAtHand, cX12_personAtHand, 12, (some .int), 0, false), (yX12_readTwo, cX12_readTwo, 12, (some .int), 0, false), (yX12_readAll, cX12_readAll, 12, none, 0, false), (yX12_readLine, cX12_readLine, 12, none, 0, false), (yX12_readTube, cX12_readTube, 12, none, 0, false), (yX12_readPerson, cX12_readPerson, 12, none, 0, false), (yX12_readTurn, cX12_readTurn, 12, none, 0, false), (yX12_readQuarrel, cX12_readQuarrel, 12, none, 0, false), (yX12_readWish, cX12_readWish, 12, none, 1, false), (yX12_readUnsure, cX12_readUnsure, 12, none, 0, false), (yX12_readSeen, cX12_readSeen, 12, none, 0, false), (yX12_feed, cX12_feed, 12, (some .int), 5, false)]
theorem fa_9 : ∀ r, r < 24 → MFr (rtab_9.getD r rr0) (mtab_9.getD r (0, 0, 0, []))
  | 0, _ => mf_216
  | 1, _ => mf_217
  | 2, _ => mf_218
  | 3, _ => mf_219
  | 4, _ => mf_220
  | 5, _ => mf_221
  | 6, _ => mf_222
  | 7, _ => mf_223
  | 8, _ => mf_224
  | 9, _ => mf_225
  | 10, _ => mf_226
  | 11, _ => mf_227
  | 12, _ => mf_228
  | 13, _ => mf_229
  | 14, _ => mf_230
  | 15, _ => mf_231
  | 16, _ => mf_232
  | 17, _ => mf_233
  | 18, _ => mf_234
  | 19, _ => mf_235
  | 20, _ => mf_236
  | 21, _ => mf_237
  | 22, _ => mf_238
  | 23, _ => mf_239
  | r + 24, h => absurd h (by omega)
def rtab_10 : List RRow := [(yX12_tube, cX12_tube, 12, (some .int), 1, false), (yX12_fault, cX12_fault, 12, (some .int), 0, false), (yX12_where, cX12_where, 12, (some .int), 0, false), (yX12_isPerson, cX12_isPerson, 12, (some .boolean), 1, false), (yX12_isSlot, cX12_isSlot, 12, (some .boolean), 1, false), (yX12_isTurn, cX12_isTurn, 12, (some .boolean), 1, false), (yX12_areTwo, cX12_areTwo, 12, (some .boolean), 2, false), (yX12_works, cX12_works, 12, none, 0, false), (yX12_slid, cX12_slid, 12, (some .int), 2, false), (yX12_ranked, cX12_ranked, 12, (some .int), 0, false), (yX12_layWay, cX12_layWay, 12, none, 1, false), (yX12_adds, cX12_adds, 12, none, 3, false), (yX12_reaches, cX12_reaches, 12, none, 1, false), (yX12_comes, cX12_comes, 12, (some .int), 2, false), (yX12_goesBy, cX12_goesBy, 12, none, 1, false), (yX12_ringsOf, cX12_ringsOf, 12, (some .int), 0, false), (yX12_isEven, cX12_isEven, 12, (some .boolean), 0, false), (yX12_fixed, cX12_fixed, 12, (some .int), 0, false), (yX12_areBeside, cX12_areBeside, 12, (some .boolean), 2, false), (yX12_besideOf, cX12_besideOf, 12, (some .int), 1, false), (yX12_person, cX12_person, 12, (some .int), 2, false), (yX12_whoIn, cX12_whoIn, 12, (some .int), 1, false), (yX12_slot, cX12_slot, 12, (some .int), 1, false), (yX12_turned, cX12_turned, 12, (some .int), 2, false)]
theorem fa_10 : ∀ r, r < 24 → MFr (rtab_10.getD r rr0) (mtab_10.getD r (0, 0, 0, []))
  | 0, _ => mf_240
  | 1, _ => mf_241
  | 2, _ => mf_242
  | 3, _ => mf_243
  | 4, _ => mf_244
  | 5, _ => mf_245
  | 6, _ => mf_246
  | 7, _ => mf_247
  | 8, _ => mf_248
  | 9, _ => mf_249
  | 10, _ => mf_250
  | 11, _ => mf_251
  | 12, _ => mf_252
  | 13, _ => mf_253
  | 14, _ => mf_254
  | 15, _ => mf_255
  | 16, _ => mf_256
  | 17, _ => mf_257
  | 18, _ => mf_258
  | 19, _ => mf_259
  | 20, _ => mf_260
  | 21, _ => mf_261
  | 22, _ => mf_262
  | 23, _ => mf_263
  | r + 24, h => absurd h (by omega)
def rtab_11 : List RRow := [(yX12_quarrelsNow, cX12_quarrelsNow, 12, (some .int), 0, false), (yX12_quarrels, cX12_quarrels, 12, (some .int), 0, false), (yX12_metNow, cX12_metNow, 12, (some .int), 0, false), (yX12_met, cX12_met, 12, (some .int), 0, false), (yX12_places, cX12_places, 12, (some .int), 0, false), (yX12_isPlace, cX12_isPlace, 12, (some .boolean), 1, false), (yX12_seenSlot, cX12_seenSlot, 12, (some .int), 1, false), (yX12_ring, cX12_ring, 12, (some .int), 1, false), (yX12_truth, cX12_truth, 12, (some .int), 1, false), (yX12_image, cX12_image, 12, (some .int), 2, false), (yX12_selves, cX12_selves, 12, (some .int), 0, false), (yX12_near, cX12_near, 12, (some .int), 2, false), (yX12_seenIn, cX12_seenIn, 12, (some .int), 1, false), (yX12_layRow, cX12_layRow, 12, (some .int), 2, false), (yX12_slides, cX12_slides, 12, (some .int), 3, false), (yX12_round, cX12_round, 12, (some .int), 2, false), (yX12_even, cX12_even, 12, (some .int), 2, false), (yX12_fixes, cX12_fixes, 12, (some .int), 2, false), (yX12_doCommute, cX12_doCommute, 12, (some .boolean), 2, false), (yX12_commute, cX12_commute, 12, (some .int), 2, false), (yX12_inverts, cX12_inverts, 12, none, 0, false), (yX12_undoing, cX12_undoing, 12, (some .int), 2, false), (yX12_reach, cX12_reach, 12, (some .int), 0, false), (yX12_deepest, cX12_deepest, 12, (some .int), 0, false)]
theorem fa_11 : ∀ r, r < 24 → MFr (rtab_11.getD r rr0) (mtab_11.getD r (0, 0, 0, []))
  | 0, _ => mf_264
  | 1, _ => mf_265
  | 2, _ => mf_266
  | 3, _ => mf_267
  | 4, _ => mf_268
  | 5, _ => mf_269
  | 6, _ => mf_270
  | 7, _ => mf_271
  | 8, _ => mf_272
  | 9, _ => mf_273
  | 10, _ => mf_274
  | 11, _ => mf_275
  | 12, _ => mf_276
  | 13, _ => mf_277
  | 14, _ => mf_278
  | 15, _ => mf_279
  | 16, _ => mf_280
  | 17, _ => mf_281
  | 18, _ => mf_282
  | 19, _ => mf_283
  | 20, _ => mf_284
  | 21, _ => mf_285
  | 22, _ => mf_286
  | 23, _ => mf_287
  | r + 24, h => absurd h (by omega)
def rtab_12 : List RRow := [(yX12_evens, cX12_evens, 12, (some .int), 0, false), (yX12_orbit, cX12_orbit, 12, (some .int), 1, false), (yX12_keeps, cX12_keeps, 12, (some .int), 1, false), (yX12_pairs, cX12_pairs, 12, (some .int), 0, false), (yX12_centre, cX12_centre, 12, (some .int), 0, false), (yX12_isDone, cX12_isDone, 12, (some .boolean), 1, false), (yX12_doneBy, cX12_doneBy, 12, (some .int), 1, false), (yX12_fewest, cX12_fewest, 12, (some .int), 1, false), (yX12_stepOf, cX12_stepOf, 12, (some .int), 2, false), (yX12_errand, cX12_errand, 12, (some .int), 0, false), (yX12_errandAt, cX12_errandAt, 12, (some .int), 1, false), (yX12_peace, cX12_peace, 12, (some .int), 0, false), (yX12_peaceAt, cX12_peaceAt, 12, (some .int), 1, false), (yX12_bring, cX12_bring, 12, (some .int), 2, false), (yX12_calmest, cX12_calmest, 12, (some .int), 0, false), (yX12_counted, cX12_counted, 12, (some .long), 1, false), (yX12_refusesColours, cX12_refusesColours, 12, (some .int), 1, false), (yX12_colourings, cX12_colourings, 12, (some .long), 1, false), (yX12_mirrored, cX12_mirrored, 12, (some .long), 1, false), (yX12_aroundSum, cX12_aroundSum, 12, (some .long), 2, false), (yX12_refusesNecklace, cX12_refusesNecklace, 12, (some .int), 2, false), (yX12_necklaces, cX12_necklaces, 12, (some .long), 2, false), (yX12_bracelets, cX12_bracelets, 12, (some .long), 2, false), (yX12_laysFirst, cX12_laysFirst, 12, none, 1, false)]
theorem fa_12 : ∀ r, r < 24 → MFr (rtab_12.getD r rr0) (mtab_12.getD r (0, 0, 0, []))
  | 0, _ => mf_288
  | 1, _ => mf_289
  | 2, _ => mf_290
  | 3, _ => mf_291
  | 4, _ => mf_292
  | 5, _ => mf_293
  | 6, _ => mf_294
  | 7, _ => mf_295
  | 8, _ => mf_296
  | 9, _ => mf_297
  | 10, _ => mf_298
  | 11, _ => mf_299
  | 12, _ => mf_300
  | 13, _ => mf_301
  | 14, _ => mf_302
  | 15, _ => mf_303
  | 16, _ => mf_304
  | 17, _ => mf_305
  | 18, _ => mf_306
  | 19, _ => mf_307
  | 20, _ => mf_308
  | 21, _ => mf_309
  | 22, _ => mf_310
  | 23, _ => mf_311
  | r + 24, h => absurd h (by omega)
def rtab_13 : List RRow := [(yX12_areUnlike, cX12_areUnlike, 12, (some .boolean), 0, false), (yX12_wrongSeen, cX12_wrongSeen, 12, (some .int), 0, false), (yX12_fitting, cX12_fitting, 12, (some .int), 1, false), (yX12_fits, cX12_fits, 12, (some .int), 0, false), (yX12_fitAt, cX12_fitAt, 12, (some .int), 1, false), (yX12_could, cX12_could, 12, (some .int), 0, false), (yX12_surely, cX12_surely, 12, (some .int), 0, false), (yX12_asks, cX12_asks, 12, (some .int), 0, false), (yX12_ask, cX12_ask, 12, (some .int), 0, false), (yX12_askLeaves, cX12_askLeaves, 12, (some .int), 0, false), (yX12_judge, cX12_judge, 12, (some .int), 0, false), (yX12_choices, cX12_choices, 12, (some .int), 0, false), (yX12_argues, cX12_argues, 12, none, 3, false), (yX12_bestFrom, cX12_bestFrom, 12, (some .int), 2, false), (yX12_refusesGame, cX12_refusesGame, 12, (some .int), 4, false), (yX12_gets, cX12_gets, 12, (some .int), 3, false), (yX12_getsBy, cX12_getsBy, 12, (some .int), 3, false), (yX12_eye, cX12_eye, 12, (some .int), 3, false), (yX12_street, cX12_street, 12, (some .int), 3, false), (yX12_refusesBlue, cX12_refusesBlue, 12, (some .int), 1, false), (yX12_looks, cX12_looks, 12, (some .int), 4, false), (yX12_isRest, cX12_isRest, 12, (some .boolean), 2, false), (yX12_rests, cX12_rests, 12, (some .int), 1, false), (yX12_rest, cX12_rest, 12, (some .int), 1, false)]
theorem fa_13 : ∀ r, r < 24 → MFr (rtab_13.getD r rr0) (mtab_13.getD r (0, 0, 0, []))
  | 0, _ => mf_312
  | 1, _ => mf_313
  | 2, _ => mf_314
  | 3, _ => mf_315
  | 4, _ => mf_316
  | 5, _ => mf_317
  | 6, _ => mf_318
  | 7, _ => mf_319
  | 8, _ => mf_320
  | 9, _ => mf_321
  | 10, _ => mf_322
  | 11, _ => mf_323
  | 12, _ => mf_324
  | 13, _ => mf_325
  | 14, _ => mf_326
  | 15, _ => mf_327
  | 16, _ => mf_328
  | 17, _ => mf_329
  | 18, _ => mf_330
  | 19, _ => mf_331
  | 20, _ => mf_332
  | 21, _ => mf_333
  | 22, _ => mf_334
  | 23, _ => mf_335
  | r + 24, h => absurd h (by omega)
def rtab_14 : List RRow := [(yX12_spreadsOut, cX12_spreadsOut, 12, none, 1, false), (yX12_spreads, cX12_spreads, 12, none, 1, false), (yX12_refusesShakes, cX12_refusesShakes, 12, (some .int), 2, false), (yX12_odds, cX12_odds, 12, (some .long), 4, false), (yX12_slotOdds, cX12_slotOdds, 12, (some .long), 4, false), (yX12_mean, cX12_mean, 12, (some .long), 2, false), (yX12_aShake, cX12_aShake, 12, none, 0, false), (yX12_refusesSeed, cX12_refusesSeed, 12, (some .int), 3, false), (yX12_shaken, cX12_shaken, 12, (some .int), 3, false), (yX12_peaceIn, cX12_peaceIn, 12, (some .int), 2, false), (yX12_remembers, cX12_remembers, 12, none, 0, false), (yX12_slidesAll, cX12_slidesAll, 12, (some .int), 0, false), (yX12_layTurn, cX12_layTurn, 12, none, 1, false), (yX12_turn, cX12_turn, 12, (some .int), 1, false), (yX12_turnBack, cX12_turnBack, 12, (some .int), 1, false), (yX12_move, cX12_move, 12, (some .int), 2, false), (yX12_undo, cX12_undo, 12, (some .boolean), 0, false), (yX12_keep, cX12_keep, 12, (some .int), 0, false), (yX12_back, cX12_back, 12, (some .boolean), 1, false), (yX12_led, cX12_led, 12, (some .int), 1, false), (yX12_size, cX12_size, 12, (some .int), 1, false), (yX12_trouble, cX12_trouble, 12, (some .int), 0, false), (yJ6_bitCount_0f7a4, cJ6_bitCount_0f7a4, 13, (some .int), 1, false), (yX5_changeFor, cX5_changeFor, 5, (some (.object "StreetTube$Told")), 1, false)]
theorem fa_14 : ∀ r, r < 24 → MFr (rtab_14.getD r rr0) (mtab_14.getD r (0, 0, 0, []))
  | 0, _ => mf_336
  | 1, _ => mf_337
  | 2, _ => mf_338
  | 3, _ => mf_339
  | 4, _ => mf_340
  | 5, _ => mf_341
  | 6, _ => mf_342
  | 7, _ => mf_343
  | 8, _ => mf_344
  | 9, _ => mf_345
  | 10, _ => mf_346
  | 11, _ => mf_347
  | 12, _ => mf_348
  | 13, _ => mf_349
  | 14, _ => mf_350
  | 15, _ => mf_351
  | 16, _ => mf_352
  | 17, _ => mf_353
  | 18, _ => mf_354
  | 19, _ => mf_355
  | 20, _ => mf_356
  | 21, _ => mf_357
  | 22, _ => mf_358
  | 23, _ => mf_359
  | r + 24, h => absurd h (by omega)
def rtab_15 : List RRow := [(yX9_addPerson, cX9_addPerson, 9, none, 2, false), (yX9_addTurn, cX9_addTurn, 9, none, 1, false), (yX9_addUnsure, cX9_addUnsure, 9, none, 2, false)]
theorem fa_15 : ∀ r, r < 3 → MFr (rtab_15.getD r rr0) (mtab_15.getD r (0, 0, 0, []))
  | 0, _ => mf_360
  | 1, _ => mf_361
  | 2, _ => mf_362
  | r + 3, h => absurd h (by omega)
def rtab (m : Nat) : RRow := (([rtab_0, rtab_1, rtab_2, rtab_3, rtab_4, rtab_5, rtab_6, rtab_7, rtab_8, rtab_9, rtab_10, rtab_11, rtab_12, rtab_13, rtab_14, rtab_15] : List (List RRow)).getD (m / 24) []).getD (m % 24) rr0
theorem mf_all (m : Nat) (h : m < 363) : MFr (rtab m) (mtab m) := by
  unfold rtab mtab
  have h1 : m % 24 < 24 := Nat.mod_lt _ (by omega)
  have h2 : m / 24 < 16 := by omega
  have h3 : m / 24 = 15 → m % 24 < 3 := by omega
  generalize m % 24 = r at h1 h3
  generalize m / 24 = q at h2 h3
  match q, h2, h3 with
  | 0, _, _ => exact fa_0 r h1
  | 1, _, _ => exact fa_1 r h1
  | 2, _, _ => exact fa_2 r h1
  | 3, _, _ => exact fa_3 r h1
  | 4, _, _ => exact fa_4 r h1
  | 5, _, _ => exact fa_5 r h1
  | 6, _, _ => exact fa_6 r h1
  | 7, _, _ => exact fa_7 r h1
  | 8, _, _ => exact fa_8 r h1
  | 9, _, _ => exact fa_9 r h1
  | 10, _, _ => exact fa_10 r h1
  | 11, _, _ => exact fa_11 r h1
  | 12, _, _ => exact fa_12 r h1
  | 13, _, _ => exact fa_13 r h1
  | 14, _, _ => exact fa_14 r h1
  | 15, _, h3 => exact fa_15 r (h3 rfl)
  | q + 16, h, _ => exact absurd h (by omega)
def LkOK (o k : Nat) (y : MethodName) : Prop := Cond.methodLink (own o) k y ∈ lw_tbl ∨ ∃ host, Cond.methodLinkNest (own o) k y host ∈ lw_tbl
abbrev yLen : MethodName := ⟨"java/lang/String", "length", "()I"⟩
abbrev yChr : MethodName := ⟨"java/lang/String", "charAt", "(I)C"⟩
abbrev yLed : MethodName := ⟨"StreetTubeLaw", "led", "(LStreetTube;I[J)I"⟩
def VOK (x : Nat × Nat × Nat) : Prop := (x.2.2 / 128 < 363 ∧ LkOK x.1 x.2.1 (rtab (x.2.2 / 128)).1 ∧ x.2.2 % 16 = (rtab (x.2.2 / 128)).2.2.2.2.1 + 1 ∧ (mtab (x.2.2 / 128)).2.2.1 ≠ 0 ∧ (rtab (x.2.2 / 128)).2.2.2.2.2 = false ∧ x.2.2 / 128 ≠ mX10_led) ∨ (x.2.2 / 128 = 1004 ∧ Cond.methodLink (own x.1) x.2.1 yLen ∈ lw_tbl ∧ x.2.2 % 16 = 1) ∨ (x.2.2 / 128 = 1005 ∧ Cond.methodLink (own x.1) x.2.1 yChr ∈ lw_tbl ∧ x.2.2 % 16 = 2)
def TOK (x : Nat × Nat × Nat) : Prop := (x.2.2 / 128 < 363 ∧ LkOK x.1 x.2.1 (rtab (x.2.2 / 128)).1 ∧ x.2.2 % 16 = (rtab (x.2.2 / 128)).2.2.2.2.1 ∧ (mtab (x.2.2 / 128)).2.2.1 = 0 ∧ x.2.2 / 128 ≠ mX10_led) ∨ (x.2.2 / 128 = 1002 ∧ Cond.methodLink (own x.1) x.2.1 arraycopyName ∈ lw_tbl) ∨ (x.2.2 / 128 = 1006 ∧ Cond.methodLink (own x.1) x.2.1 yLed ∈ lw_tbl ∧ x.2.2 % 16 = 3) ∨ (x.2.2 / 128 = 363 ∧ Cond.methodLink (own x.1) x.2.1 Lib.Math.abs.name ∈ lw_tbl ∧ x.2.2 % 16 = 1) ∨ (x.2.2 / 128 = 364 ∧ Cond.methodLink (own x.1) x.2.1 Lib.Math.max.name ∈ lw_tbl ∧ x.2.2 % 16 = 2) ∨ (x.2.2 / 128 = 365 ∧ Cond.methodLink (own x.1) x.2.1 Lib.Math.min.name ∈ lw_tbl ∧ x.2.2 % 16 = 2)
def IOK (x : Nat × Nat × Nat) : Prop := (x.2.2 / 128 < 363 ∧ LkOK x.1 x.2.1 (rtab (x.2.2 / 128)).1 ∧ x.2.2 % 16 = (rtab (x.2.2 / 128)).2.2.2.2.1 + 1 ∧ (mtab (x.2.2 / 128)).2.2.1 ≠ 0 ∧ (rtab (x.2.2 / 128)).2.2.2.2.2 = true ∧ x.2.2 / 128 ≠ mX10_led) ∨ (x.2.2 / 128 = 1003 ∧ Cond.methodLink (own x.1) x.2.1 Lib.objectInit ∈ lw_tbl)
theorem poolV_0 : VOK (3, 26, 1569) := Or.inl ⟨by decide, Or.inl (mt_3 (List.mem_of_getElem? (i := 18) rfl)), rfl, by decide, rfl, by decide⟩
theorem poolV_1 : VOK (3, 40, 2066) := Or.inl ⟨by decide, Or.inl (mt_5 (List.mem_of_getElem? (i := 29) rfl)), rfl, by decide, rfl, by decide⟩
theorem poolV_2 : VOK (4, 50, 2564) := Or.inl ⟨by decide, Or.inl (mt_4 (List.mem_of_getElem? (i := 18) rfl)), rfl, by decide, rfl, by decide⟩
theorem poolV_3 : VOK (4, 81, 3507) := Or.inl ⟨by decide, Or.inl (mt_4 (List.mem_of_getElem? (i := 84) rfl)), rfl, by decide, rfl, by decide⟩
theorem poolV_4 : VOK (4, 97, 3732) := Or.inl ⟨by decide, Or.inl (mt_4 (List.mem_of_getElem? (i := 117) rfl)), rfl, by decide, rfl, by decide⟩
theorem poolV_5 : VOK (4, 100, 2066) := Or.inl ⟨by decide, Or.inl (mt_4 (List.mem_of_getElem? (i := 121) rfl)), rfl, by decide, rfl, by decide⟩
theorem poolV_6 : VOK (5, 88, 11521) := Or.inl ⟨by decide, Or.inl (mt_2 (List.mem_of_getElem? (i := 142) rfl)), rfl, by decide, rfl, by decide⟩
theorem poolV_7 : VOK (5, 91, 4865) := Or.inl ⟨by decide, Or.inl (mt_2 (List.mem_of_getElem? (i := 146) rfl)), rfl, by decide, rfl, by decide⟩
theorem poolV_8 : VOK (5, 94, 5665) := Or.inl ⟨by decide, Or.inl (mt_2 (List.mem_of_getElem? (i := 160) rfl)), rfl, by decide, rfl, by decide⟩
theorem poolV_9 : VOK (5, 98, 5921) := Or.inl ⟨by decide, Or.inl (mt_3 (List.mem_of_getElem? (i := 45) rfl)), rfl, by decide, rfl, by decide⟩
theorem poolV_10 : VOK (5, 101, 4993) := Or.inl ⟨by decide, Or.inl (mt_2 (List.mem_of_getElem? (i := 150) rfl)), rfl, by decide, rfl, by decide⟩
theorem poolV_11 : VOK (5, 104, 5121) := Or.inl ⟨by decide, Or.inl (mt_2 (List.mem_of_getElem? (i := 154) rfl)), rfl, by decide, rfl, by decide⟩
theorem poolV_12 : VOK (5, 115, 128529) := Or.inr (Or.inl ⟨rfl, mt_1 (List.mem_of_getElem? (i := 148) rfl), rfl⟩)
theorem poolV_13 : VOK (5, 121, 128658) := Or.inr (Or.inr ⟨rfl, mt_1 (List.mem_of_getElem? (i := 159) rfl), rfl⟩)
theorem poolV_14 : VOK (5, 125, 5521) := Or.inl ⟨by decide, Or.inl (mt_2 (List.mem_of_getElem? (i := 164) rfl)), rfl, by decide, rfl, by decide⟩
theorem poolV_15 : VOK (5, 128, 4770) := Or.inl ⟨by decide, Or.inl (mt_2 (List.mem_of_getElem? (i := 168) rfl)), rfl, by decide, rfl, by decide⟩
theorem poolV_16 : VOK (5, 135, 5794) := Or.inl ⟨by decide, Or.inl (mt_2 (List.mem_of_getElem? (i := 172) rfl)), rfl, by decide, rfl, by decide⟩
theorem poolV_17 : VOK (5, 138, 6049) := Or.inl ⟨by decide, Or.inl (mt_2 (List.mem_of_getElem? (i := 180) rfl)), rfl, by decide, rfl, by decide⟩
theorem poolV_18 : VOK (5, 141, 6177) := Or.inl ⟨by decide, Or.inl (mt_2 (List.mem_of_getElem? (i := 203) rfl)), rfl, by decide, rfl, by decide⟩
theorem poolV_19 : VOK (5, 144, 6305) := Or.inl ⟨by decide, Or.inl (mt_2 (List.mem_of_getElem? (i := 227) rfl)), rfl, by decide, rfl, by decide⟩
theorem poolV_20 : VOK (5, 147, 6433) := Or.inl ⟨by decide, Or.inl (mt_2 (List.mem_of_getElem? (i := 238) rfl)), rfl, by decide, rfl, by decide⟩
theorem poolV_21 : VOK (5, 150, 6689) := Or.inl ⟨by decide, Or.inl (mt_3 (List.mem_of_getElem? (i := 19) rfl)), rfl, by decide, rfl, by decide⟩
theorem poolV_22 : VOK (5, 153, 6817) := Or.inl ⟨by decide, Or.inl (mt_3 (List.mem_of_getElem? (i := 31) rfl)), rfl, by decide, rfl, by decide⟩
theorem poolV_23 : VOK (5, 156, 6562) := Or.inl ⟨by decide, Or.inl (mt_3 (List.mem_of_getElem? (i := 41) rfl)), rfl, by decide, rfl, by decide⟩
theorem poolV_24 : VOK (5, 170, 1569) := Or.inl ⟨by decide, Or.inl (mt_2 (List.mem_of_getElem? (i := 176) rfl)), rfl, by decide, rfl, by decide⟩
theorem poolV_25 : VOK (5, 183, 6946) := Or.inl ⟨by decide, Or.inl (mt_2 (List.mem_of_getElem? (i := 185) rfl)), rfl, by decide, rfl, by decide⟩
theorem poolV_26 : VOK (5, 187, 7187) := Or.inl ⟨by decide, Or.inl (mt_2 (List.mem_of_getElem? (i := 193) rfl)), rfl, by decide, rfl, by decide⟩
theorem poolV_27 : VOK (5, 197, 7458) := Or.inl ⟨by decide, Or.inl (mt_2 (List.mem_of_getElem? (i := 207) rfl)), rfl, by decide, rfl, by decide⟩
theorem poolV_28 : VOK (5, 202, 5410) := Or.inl ⟨by decide, Or.inl (mt_2 (List.mem_of_getElem? (i := 189) rfl)), rfl, by decide, rfl, by decide⟩
theorem poolV_29 : VOK (5, 210, 7075) := Or.inl ⟨by decide, Or.inl (mt_2 (List.mem_of_getElem? (i := 197) rfl)), rfl, by decide, rfl, by decide⟩
theorem poolV_30 : VOK (5, 214, 11682) := Or.inl ⟨by decide, Or.inl (mt_2 (List.mem_of_getElem? (i := 219) rfl)), rfl, by decide, rfl, by decide⟩
theorem poolV_31 : VOK (5, 217, 46083) := Or.inl ⟨by decide, Or.inl (mt_2 (List.mem_of_getElem? (i := 223) rfl)), rfl, by decide, rfl, by decide⟩
theorem poolV_32 : VOK (5, 227, 46210) := Or.inl ⟨by decide, Or.inl (mt_2 (List.mem_of_getElem? (i := 234) rfl)), rfl, by decide, rfl, by decide⟩
theorem poolV_33 : VOK (5, 231, 7697) := Or.inl ⟨by decide, Or.inl (mt_3 (List.mem_of_getElem? (i := 2) rfl)), rfl, by decide, rfl, by decide⟩
theorem poolV_34 : VOK (5, 234, 7569) := Or.inl ⟨by decide, Or.inl (mt_3 (List.mem_of_getElem? (i := 6) rfl)), rfl, by decide, rfl, by decide⟩
theorem poolV_35 : VOK (5, 237, 1810) := Or.inl ⟨by decide, Or.inl (mt_3 (List.mem_of_getElem? (i := 10) rfl)), rfl, by decide, rfl, by decide⟩
theorem poolV_36 : VOK (5, 241, 1668) := Or.inl ⟨by decide, Or.inl (mt_3 (List.mem_of_getElem? (i := 14) rfl)), rfl, by decide, rfl, by decide⟩
theorem poolV_37 : VOK (5, 245, 7826) := Or.inl ⟨by decide, Or.inl (mt_3 (List.mem_of_getElem? (i := 35) rfl)), rfl, by decide, rfl, by decide⟩
theorem poolV_38 : VOK (5, 248, 11810) := Or.inl ⟨by decide, Or.inl (mt_3 (List.mem_of_getElem? (i := 23) rfl)), rfl, by decide, rfl, by decide⟩
theorem poolV_39 : VOK (5, 251, 46339) := Or.inl ⟨by decide, Or.inl (mt_3 (List.mem_of_getElem? (i := 27) rfl)), rfl, by decide, rfl, by decide⟩
theorem poolV_40 : VOK (5, 258, 7313) := Or.inl ⟨by decide, Or.inl (mt_2 (List.mem_of_getElem? (i := 211) rfl)), rfl, by decide, rfl, by decide⟩
theorem poolV_41 : VOK (6, 32, 8322) := Or.inl ⟨by decide, Or.inl (mt_5 (List.mem_of_getElem? (i := 92) rfl)), rfl, by decide, rfl, by decide⟩
theorem poolV_42 : VOK (6, 58, 8721) := Or.inl ⟨by decide, Or.inl (mt_5 (List.mem_of_getElem? (i := 135) rfl)), rfl, by decide, rfl, by decide⟩
theorem poolV_43 : VOK (9, 74, 12177) := Or.inl ⟨by decide, Or.inl (mt_4 (List.mem_of_getElem? (i := 213) rfl)), rfl, by decide, rfl, by decide⟩
theorem poolV_44 : VOK (9, 78, 12434) := Or.inl ⟨by decide, Or.inl (mt_4 (List.mem_of_getElem? (i := 217) rfl)), rfl, by decide, rfl, by decide⟩
theorem poolV_45 : VOK (9, 81, 12578) := Or.inl ⟨by decide, Or.inl (mt_4 (List.mem_of_getElem? (i := 223) rfl)), rfl, by decide, rfl, by decide⟩
theorem poolV_46 : VOK (9, 85, 2066) := Or.inl ⟨by decide, Or.inl (mt_4 (List.mem_of_getElem? (i := 229) rfl)), rfl, by decide, rfl, by decide⟩
theorem poolV_47 : VOK (9, 88, 1937) := Or.inl ⟨by decide, Or.inl (mt_4 (List.mem_of_getElem? (i := 230) rfl)), rfl, by decide, rfl, by decide⟩
theorem poolV_48 : VOK (9, 91, 11921) := Or.inl ⟨by decide, Or.inl (mt_4 (List.mem_of_getElem? (i := 221) rfl)), rfl, by decide, rfl, by decide⟩
theorem poolV_49 : VOK (10, 54, 4482) := Or.inl ⟨by decide, Or.inl (mt_2 (List.mem_of_getElem? (i := 123) rfl)), rfl, by decide, rfl, by decide⟩
theorem poolV_50 : VOK (10, 58, 21266) := Or.inl ⟨by decide, Or.inl (mt_2 (List.mem_of_getElem? (i := 131) rfl)), rfl, by decide, rfl, by decide⟩
theorem poolV_51 : VOK (10, 62, 4642) := Or.inl ⟨by decide, Or.inl (mt_2 (List.mem_of_getElem? (i := 135) rfl)), rfl, by decide, rfl, by decide⟩
theorem poolV_52 : VOK (10, 66, 46034) := Or.inl ⟨by decide, Or.inl (mt_3 (List.mem_of_getElem? (i := 49) rfl)), rfl, by decide, rfl, by decide⟩
theorem poolV_53 : VOK (10, 74, 11921) := Or.inl ⟨by decide, Or.inl (mt_3 (List.mem_of_getElem? (i := 53) rfl)), rfl, by decide, rfl, by decide⟩
theorem poolV_54 : VOK (10, 78, 10754) := Or.inl ⟨by decide, Or.inl (mt_3 (List.mem_of_getElem? (i := 57) rfl)), rfl, by decide, rfl, by decide⟩
theorem poolV_55 : VOK (10, 84, 21394) := Or.inl ⟨by decide, Or.inl (mt_3 (List.mem_of_getElem? (i := 61) rfl)), rfl, by decide, rfl, by decide⟩
theorem poolV_56 : VOK (10, 93, 21794) := Or.inl ⟨by decide, Or.inl (mt_3 (List.mem_of_getElem? (i := 77) rfl)), rfl, by decide, rfl, by decide⟩
theorem poolV_57 : VOK (10, 100, 22930) := Or.inl ⟨by decide, Or.inl (mt_3 (List.mem_of_getElem? (i := 81) rfl)), rfl, by decide, rfl, by decide⟩
theorem poolV_58 : VOK (10, 103, 23186) := Or.inl ⟨by decide, Or.inl (mt_3 (List.mem_of_getElem? (i := 88) rfl)), rfl, by decide, rfl, by decide⟩
theorem poolV_59 : VOK (10, 110, 1810) := Or.inl ⟨by decide, Or.inl (mt_3 (List.mem_of_getElem? (i := 95) rfl)), rfl, by decide, rfl, by decide⟩
theorem poolV_60 : VOK (10, 118, 22050) := Or.inl ⟨by decide, Or.inl (mt_3 (List.mem_of_getElem? (i := 100) rfl)), rfl, by decide, rfl, by decide⟩
theorem poolV_61 : VOK (10, 121, 23058) := Or.inl ⟨by decide, Or.inl (mt_3 (List.mem_of_getElem? (i := 104) rfl)), rfl, by decide, rfl, by decide⟩
theorem poolV_62 : VOK (10, 124, 22178) := Or.inl ⟨by decide, Or.inl (mt_3 (List.mem_of_getElem? (i := 112) rfl)), rfl, by decide, rfl, by decide⟩
theorem poolV_63 : VOK (10, 136, 21665) := Or.inl ⟨by decide, Or.inl (mt_3 (List.mem_of_getElem? (i := 120) rfl)), rfl, by decide, rfl, by decide⟩
theorem poolV_64 : VOK (10, 143, 23314) := Or.inl ⟨by decide, Or.inl (mt_3 (List.mem_of_getElem? (i := 124) rfl)), rfl, by decide, rfl, by decide⟩
theorem poolV_65 : VOK (10, 149, 2066) := Or.inl ⟨by decide, Or.inl (mt_3 (List.mem_of_getElem? (i := 128) rfl)), rfl, by decide, rfl, by decide⟩
theorem poolV_66 : VOK (10, 152, 22306) := Or.inl ⟨by decide, Or.inl (mt_3 (List.mem_of_getElem? (i := 148) rfl)), rfl, by decide, rfl, by decide⟩
theorem poolV_67 : VOK (10, 155, 23698) := Or.inl ⟨by decide, Or.inl (mt_3 (List.mem_of_getElem? (i := 160) rfl)), rfl, by decide, rfl, by decide⟩
theorem poolV_68 : VOK (10, 158, 23441) := Or.inl ⟨by decide, Or.inl (mt_3 (List.mem_of_getElem? (i := 156) rfl)), rfl, by decide, rfl, by decide⟩
theorem poolV_69 : VOK (10, 161, 23827) := Or.inl ⟨by decide, Or.inl (mt_3 (List.mem_of_getElem? (i := 172) rfl)), rfl, by decide, rfl, by decide⟩
theorem poolV_70 : VOK (10, 164, 23569) := Or.inl ⟨by decide, Or.inl (mt_3 (List.mem_of_getElem? (i := 152) rfl)), rfl, by decide, rfl, by decide⟩
theorem poolV_71 : VOK (10, 167, 21923) := Or.inl ⟨by decide, Or.inl (mt_3 (List.mem_of_getElem? (i := 184) rfl)), rfl, by decide, rfl, by decide⟩
theorem poolV_72 : VOK (10, 179, 12051) := Or.inl ⟨by decide, Or.inl (mt_3 (List.mem_of_getElem? (i := 200) rfl)), rfl, by decide, rfl, by decide⟩
theorem poolV_73 : VOK (10, 201, 24001) := Or.inl ⟨by decide, Or.inl (mt_4 (List.mem_of_getElem? (i := 9) rfl)), rfl, by decide, rfl, by decide⟩
theorem poolV_74 : VOK (10, 208, 2706) := Or.inl ⟨by decide, Or.inl (mt_4 (List.mem_of_getElem? (i := 34) rfl)), rfl, by decide, rfl, by decide⟩
theorem poolV_75 : VOK (10, 214, 2833) := Or.inl ⟨by decide, Or.inl (mt_4 (List.mem_of_getElem? (i := 46) rfl)), rfl, by decide, rfl, by decide⟩
theorem poolV_76 : VOK (10, 217, 2961) := Or.inl ⟨by decide, Or.inl (mt_4 (List.mem_of_getElem? (i := 54) rfl)), rfl, by decide, rfl, by decide⟩
theorem poolV_77 : VOK (10, 220, 3090) := Or.inl ⟨by decide, Or.inl (mt_4 (List.mem_of_getElem? (i := 63) rfl)), rfl, by decide, rfl, by decide⟩
theorem poolV_78 : VOK (10, 223, 3218) := Or.inl ⟨by decide, Or.inl (mt_4 (List.mem_of_getElem? (i := 72) rfl)), rfl, by decide, rfl, by decide⟩
theorem poolV_79 : VOK (10, 226, 3345) := Or.inl ⟨by decide, Or.inl (mt_4 (List.mem_of_getElem? (i := 80) rfl)), rfl, by decide, rfl, by decide⟩
theorem poolV_80 : VOK (10, 229, 3602) := Or.inl ⟨by decide, Or.inl (mt_4 (List.mem_of_getElem? (i := 96) rfl)), rfl, by decide, rfl, by decide⟩
theorem poolV_81 : VOK (10, 233, 24081) := Or.inl ⟨by decide, Or.inl (mt_4 (List.mem_of_getElem? (i := 105) rfl)), rfl, by decide, rfl, by decide⟩
theorem poolV_82 : VOK (10, 236, 24338) := Or.inl ⟨by decide, Or.inl (mt_4 (List.mem_of_getElem? (i := 122) rfl)), rfl, by decide, rfl, by decide⟩
theorem poolV_83 : VOK (10, 239, 24467) := Or.inl ⟨by decide, Or.inl (mt_4 (List.mem_of_getElem? (i := 130) rfl)), rfl, by decide, rfl, by decide⟩
theorem poolV_84 : VOK (10, 242, 24209) := Or.inl ⟨by decide, Or.inl (mt_4 (List.mem_of_getElem? (i := 142) rfl)), rfl, by decide, rfl, by decide⟩
theorem poolV_85 : VOK (10, 245, 3987) := Or.inl ⟨by decide, Or.inl (mt_4 (List.mem_of_getElem? (i := 154) rfl)), rfl, by decide, rfl, by decide⟩
theorem poolV_86 : VOK (10, 248, 3732) := Or.inl ⟨by decide, Or.inl (mt_4 (List.mem_of_getElem? (i := 162) rfl)), rfl, by decide, rfl, by decide⟩
theorem poolV_87 : VOK (10, 255, 4274) := Or.inl ⟨by decide, Or.inl (mt_4 (List.mem_of_getElem? (i := 170) rfl)), rfl, by decide, rfl, by decide⟩
theorem poolV_88 : VOK (10, 259, 21554) := Or.inl ⟨by decide, Or.inl (mt_4 (List.mem_of_getElem? (i := 174) rfl)), rfl, by decide, rfl, by decide⟩
theorem poolV_89 : VOK (10, 263, 2435) := Or.inl ⟨by decide, Or.inl (mt_4 (List.mem_of_getElem? (i := 13) rfl)), rfl, by decide, rfl, by decide⟩
theorem poolV_90 : VOK (10, 279, 12305) := Or.inl ⟨by decide, Or.inl (mt_4 (List.mem_of_getElem? (i := 209) rfl)), rfl, by decide, rfl, by decide⟩
theorem poolV_91 : VOK (10, 287, 12177) := Or.inl ⟨by decide, Or.inl (mt_4 (List.mem_of_getElem? (i := 235) rfl)), rfl, by decide, rfl, by decide⟩
theorem poolV_92 : VOK (10, 290, 24594) := Or.inl ⟨by decide, Or.inl (mt_5 (List.mem_of_getElem? (i := 8) rfl)), rfl, by decide, rfl, by decide⟩
theorem poolV_93 : VOK (10, 293, 12691) := Or.inl ⟨by decide, Or.inl (mt_5 (List.mem_of_getElem? (i := 12) rfl)), rfl, by decide, rfl, by decide⟩
theorem poolV_94 : VOK (10, 299, 2194) := Or.inl ⟨by decide, Or.inl (mt_5 (List.mem_of_getElem? (i := 25) rfl)), rfl, by decide, rfl, by decide⟩
theorem poolV_95 : VOK (10, 333, 8069) := Or.inl ⟨by decide, Or.inl (mt_5 (List.mem_of_getElem? (i := 85) rfl)), rfl, by decide, rfl, by decide⟩
theorem poolV_96 : VOK (10, 337, 8497) := Or.inl ⟨by decide, Or.inl (mt_5 (List.mem_of_getElem? (i := 100) rfl)), rfl, by decide, rfl, by decide⟩
theorem poolV_97 : VOK (10, 341, 12850) := Or.inl ⟨by decide, Or.inl (mt_5 (List.mem_of_getElem? (i := 104) rfl)), rfl, by decide, rfl, by decide⟩
theorem poolV_98 : VOK (10, 348, 8626) := Or.inl ⟨by decide, Or.inl (mt_5 (List.mem_of_getElem? (i := 115) rfl)), rfl, by decide, rfl, by decide⟩
theorem poolV_99 : VOK (10, 364, 8851) := Or.inl ⟨by decide, Or.inl (mt_5 (List.mem_of_getElem? (i := 131) rfl)), rfl, by decide, rfl, by decide⟩
theorem poolV_100 : VOK (10, 368, 24722) := Or.inl ⟨by decide, Or.inl (mt_5 (List.mem_of_getElem? (i := 149) rfl)), rfl, by decide, rfl, by decide⟩
theorem poolV_101 : VOK (10, 374, 10882) := Or.inl ⟨by decide, Or.inl (mt_5 (List.mem_of_getElem? (i := 154) rfl)), rfl, by decide, rfl, by decide⟩
theorem poolV_102 : VOK (10, 380, 11009) := Or.inl ⟨by decide, Or.inl (mt_5 (List.mem_of_getElem? (i := 172) rfl)), rfl, by decide, rfl, by decide⟩
theorem poolV_103 : VOK (10, 386, 11153) := Or.inl ⟨by decide, Or.inl (mt_5 (List.mem_of_getElem? (i := 180) rfl)), rfl, by decide, rfl, by decide⟩
theorem poolV_104 : VOK (10, 389, 11266) := Or.inl ⟨by decide, Or.inl (mt_5 (List.mem_of_getElem? (i := 188) rfl)), rfl, by decide, rfl, by decide⟩
theorem poolV_105 : VOK (10, 411, 1937) := Or.inl ⟨by decide, Or.inl (mt_4 (List.mem_of_getElem? (i := 109) rfl)), rfl, by decide, rfl, by decide⟩
theorem poolV_106 : VOK (10, 414, 3861) := Or.inl ⟨by decide, Or.inl (mt_4 (List.mem_of_getElem? (i := 113) rfl)), rfl, by decide, rfl, by decide⟩
theorem poolV_107 : VOK (10, 421, 4115) := Or.inl ⟨by decide, Or.inl (mt_4 (List.mem_of_getElem? (i := 134) rfl)), rfl, by decide, rfl, by decide⟩
theorem poolV_108 : VOK (12, 70, 25746) := Or.inl ⟨by decide, Or.inl (mt_6 (List.mem_of_getElem? (i := 168) rfl)), rfl, by decide, rfl, by decide⟩
theorem poolV_109 : VOK (12, 74, 26130) := Or.inl ⟨by decide, Or.inl (mt_7 (List.mem_of_getElem? (i := 185) rfl)), rfl, by decide, rfl, by decide⟩
theorem poolV_110 : VOK (12, 84, 128529) := Or.inr (Or.inl ⟨rfl, mt_7 (List.mem_of_getElem? (i := 61) rfl), rfl⟩)
theorem poolV_111 : VOK (12, 92, 128658) := Or.inr (Or.inr ⟨rfl, mt_7 (List.mem_of_getElem? (i := 62) rfl), rfl⟩)
theorem poolV_112 : VOK (12, 102, 27282) := Or.inl ⟨by decide, Or.inl (mt_7 (List.mem_of_getElem? (i := 34) rfl)), rfl, by decide, rfl, by decide⟩
theorem poolV_113 : VOK (12, 132, 27777) := Or.inl ⟨by decide, Or.inl (mt_7 (List.mem_of_getElem? (i := 30) rfl)), rfl, by decide, rfl, by decide⟩
theorem poolV_114 : VOK (12, 135, 28066) := Or.inl ⟨by decide, Or.inl (mt_7 (List.mem_of_getElem? (i := 54) rfl)), rfl, by decide, rfl, by decide⟩
theorem poolV_115 : VOK (12, 139, 27906) := Or.inl ⟨by decide, Or.inl (mt_7 (List.mem_of_getElem? (i := 67) rfl)), rfl, by decide, rfl, by decide⟩
theorem poolV_116 : VOK (12, 147, 28290) := Or.inl ⟨by decide, Or.inl (mt_7 (List.mem_of_getElem? (i := 76) rfl)), rfl, by decide, rfl, by decide⟩
theorem poolV_117 : VOK (12, 151, 28435) := Or.inl ⟨by decide, Or.inl (mt_7 (List.mem_of_getElem? (i := 80) rfl)), rfl, by decide, rfl, by decide⟩
theorem poolV_118 : VOK (12, 180, 28705) := Or.inl ⟨by decide, Or.inl (mt_7 (List.mem_of_getElem? (i := 102) rfl)), rfl, by decide, rfl, by decide⟩
theorem poolV_119 : VOK (12, 184, 25106) := Or.inl ⟨by decide, Or.inl (mt_7 (List.mem_of_getElem? (i := 112) rfl)), rfl, by decide, rfl, by decide⟩
theorem poolV_120 : VOK (12, 200, 29201) := Or.inl ⟨by decide, Or.inl (mt_7 (List.mem_of_getElem? (i := 143) rfl)), rfl, by decide, rfl, by decide⟩
theorem poolV_121 : VOK (12, 206, 29569) := Or.inl ⟨by decide, Or.inl (mt_7 (List.mem_of_getElem? (i := 49) rfl)), rfl, by decide, rfl, by decide⟩
theorem poolV_122 : VOK (12, 209, 28193) := Or.inl ⟨by decide, Or.inl (mt_7 (List.mem_of_getElem? (i := 165) rfl)), rfl, by decide, rfl, by decide⟩
theorem poolV_123 : VOK (12, 218, 29697) := Or.inl ⟨by decide, Or.inl (mt_7 (List.mem_of_getElem? (i := 63) rfl)), rfl, by decide, rfl, by decide⟩
theorem poolV_124 : VOK (12, 221, 29825) := Or.inl ⟨by decide, Or.inl (mt_7 (List.mem_of_getElem? (i := 90) rfl)), rfl, by decide, rfl, by decide⟩
theorem poolV_125 : VOK (12, 224, 29953) := Or.inl ⟨by decide, Or.inl (mt_7 (List.mem_of_getElem? (i := 128) rfl)), rfl, by decide, rfl, by decide⟩
theorem poolV_126 : VOK (12, 227, 30081) := Or.inl ⟨by decide, Or.inl (mt_7 (List.mem_of_getElem? (i := 135) rfl)), rfl, by decide, rfl, by decide⟩
theorem poolV_127 : VOK (12, 230, 30210) := Or.inl ⟨by decide, Or.inl (mt_7 (List.mem_of_getElem? (i := 147) rfl)), rfl, by decide, rfl, by decide⟩
theorem poolV_128 : VOK (12, 234, 30337) := Or.inl ⟨by decide, Or.inl (mt_7 (List.mem_of_getElem? (i := 151) rfl)), rfl, by decide, rfl, by decide⟩
theorem poolV_129 : VOK (12, 237, 30465) := Or.inl ⟨by decide, Or.inl (mt_7 (List.mem_of_getElem? (i := 159) rfl)), rfl, by decide, rfl, by decide⟩
theorem poolV_130 : VOK (12, 241, 28564) := Or.inl ⟨by decide, Or.inl (mt_7 (List.mem_of_getElem? (i := 72) rfl)), rfl, by decide, rfl, by decide⟩
theorem poolV_131 : VOK (12, 253, 28803) := Or.inl ⟨by decide, Or.inl (mt_7 (List.mem_of_getElem? (i := 94) rfl)), rfl, by decide, rfl, by decide⟩
theorem poolV_132 : VOK (12, 257, 28977) := Or.inl ⟨by decide, Or.inl (mt_7 (List.mem_of_getElem? (i := 98) rfl)), rfl, by decide, rfl, by decide⟩
theorem poolV_133 : VOK (12, 268, 25250) := Or.inl ⟨by decide, Or.inl (mt_7 (List.mem_of_getElem? (i := 120) rfl)), rfl, by decide, rfl, by decide⟩
theorem poolV_134 : VOK (12, 271, 29060) := Or.inl ⟨by decide, Or.inl (mt_7 (List.mem_of_getElem? (i := 124) rfl)), rfl, by decide, rfl, by decide⟩
theorem poolV_135 : VOK (12, 288, 29329) := Or.inl ⟨by decide, Or.inl (mt_7 (List.mem_of_getElem? (i := 139) rfl)), rfl, by decide, rfl, by decide⟩
theorem poolV_136 : VOK (12, 308, 25378) := Or.inl ⟨by decide, Or.inl (mt_7 (List.mem_of_getElem? (i := 155) rfl)), rfl, by decide, rfl, by decide⟩
theorem poolV_137 : VOK (12, 334, 29441) := Or.inl ⟨by decide, Or.inl (mt_7 (List.mem_of_getElem? (i := 45) rfl)), rfl, by decide, rfl, by decide⟩
theorem poolV_138 : VOK (12, 345, 32258) := Or.inl ⟨by decide, Or.inl (mt_7 (List.mem_of_getElem? (i := 169) rfl)), rfl, by decide, rfl, by decide⟩
theorem poolV_139 : VOK (12, 348, 31138) := Or.inl ⟨by decide, Or.inl (mt_7 (List.mem_of_getElem? (i := 201) rfl)), rfl, by decide, rfl, by decide⟩
theorem poolV_140 : VOK (12, 354, 31889) := Or.inl ⟨by decide, Or.inl (mt_7 (List.mem_of_getElem? (i := 173) rfl)), rfl, by decide, rfl, by decide⟩
theorem poolV_141 : VOK (12, 357, 32132) := Or.inl ⟨by decide, Or.inl (mt_7 (List.mem_of_getElem? (i := 177) rfl)), rfl, by decide, rfl, by decide⟩
theorem poolV_142 : VOK (12, 361, 31763) := Or.inl ⟨by decide, Or.inl (mt_7 (List.mem_of_getElem? (i := 181) rfl)), rfl, by decide, rfl, by decide⟩
theorem poolV_143 : VOK (12, 364, 32403) := Or.inl ⟨by decide, Or.inl (mt_8 (List.mem_of_getElem? (i := 126) rfl)), rfl, by decide, rfl, by decide⟩
theorem poolV_144 : VOK (12, 367, 32657) := Or.inl ⟨by decide, Or.inl (mt_8 (List.mem_of_getElem? (i := 78) rfl)), rfl, by decide, rfl, by decide⟩
theorem poolV_145 : VOK (12, 373, 31617) := Or.inl ⟨by decide, Or.inl (mt_7 (List.mem_of_getElem? (i := 205) rfl)), rfl, by decide, rfl, by decide⟩
theorem poolV_146 : VOK (12, 376, 33170) := Or.inl ⟨by decide, Or.inl (mt_7 (List.mem_of_getElem? (i := 209) rfl)), rfl, by decide, rfl, by decide⟩
theorem poolV_147 : VOK (12, 379, 31266) := Or.inl ⟨by decide, Or.inl (mt_7 (List.mem_of_getElem? (i := 220) rfl)), rfl, by decide, rfl, by decide⟩
theorem poolV_148 : VOK (12, 382, 33426) := Or.inl ⟨by decide, Or.inl (mt_7 (List.mem_of_getElem? (i := 224) rfl)), rfl, by decide, rfl, by decide⟩
theorem poolV_149 : VOK (12, 385, 31394) := Or.inl ⟨by decide, Or.inl (mt_7 (List.mem_of_getElem? (i := 232) rfl)), rfl, by decide, rfl, by decide⟩
theorem poolV_150 : VOK (12, 391, 33809) := Or.inl ⟨by decide, Or.inl (mt_8 (List.mem_of_getElem? (i := 0) rfl)), rfl, by decide, rfl, by decide⟩
theorem poolV_151 : VOK (12, 394, 34065) := Or.inl ⟨by decide, Or.inl (mt_8 (List.mem_of_getElem? (i := 11) rfl)), rfl, by decide, rfl, by decide⟩
theorem poolV_152 : VOK (12, 397, 34321) := Or.inl ⟨by decide, Or.inl (mt_8 (List.mem_of_getElem? (i := 23) rfl)), rfl, by decide, rfl, by decide⟩
theorem poolV_153 : VOK (12, 400, 34466) := Or.inl ⟨by decide, Or.inl (mt_8 (List.mem_of_getElem? (i := 19) rfl)), rfl, by decide, rfl, by decide⟩
theorem poolV_154 : VOK (12, 403, 34578) := Or.inl ⟨by decide, Or.inl (mt_8 (List.mem_of_getElem? (i := 27) rfl)), rfl, by decide, rfl, by decide⟩
theorem poolV_155 : VOK (12, 406, 31523) := Or.inl ⟨by decide, Or.inl (mt_8 (List.mem_of_getElem? (i := 47) rfl)), rfl, by decide, rfl, by decide⟩
theorem poolV_156 : VOK (12, 409, 35475) := Or.inl ⟨by decide, Or.inl (mt_8 (List.mem_of_getElem? (i := 59) rfl)), rfl, by decide, rfl, by decide⟩
theorem poolV_157 : VOK (12, 412, 32801) := Or.inl ⟨by decide, Or.inl (mt_8 (List.mem_of_getElem? (i := 74) rfl)), rfl, by decide, rfl, by decide⟩
theorem poolV_158 : VOK (12, 415, 32913) := Or.inl ⟨by decide, Or.inl (mt_8 (List.mem_of_getElem? (i := 86) rfl)), rfl, by decide, rfl, by decide⟩
theorem poolV_159 : VOK (12, 418, 36131) := Or.inl ⟨by decide, Or.inl (mt_8 (List.mem_of_getElem? (i := 94) rfl)), rfl, by decide, rfl, by decide⟩
theorem poolV_160 : VOK (12, 421, 36353) := Or.inl ⟨by decide, Or.inl (mt_8 (List.mem_of_getElem? (i := 102) rfl)), rfl, by decide, rfl, by decide⟩
theorem poolV_161 : VOK (12, 424, 32002) := Or.inl ⟨by decide, Or.inl (mt_8 (List.mem_of_getElem? (i := 118) rfl)), rfl, by decide, rfl, by decide⟩
theorem poolV_162 : VOK (12, 427, 32514) := Or.inl ⟨by decide, Or.inl (mt_8 (List.mem_of_getElem? (i := 154) rfl)), rfl, by decide, rfl, by decide⟩
theorem poolV_163 : VOK (12, 430, 37538) := Or.inl ⟨by decide, Or.inl (mt_8 (List.mem_of_getElem? (i := 158) rfl)), rfl, by decide, rfl, by decide⟩
theorem poolV_164 : VOK (12, 434, 37650) := Or.inl ⟨by decide, Or.inl (mt_8 (List.mem_of_getElem? (i := 150) rfl)), rfl, by decide, rfl, by decide⟩
theorem poolV_165 : VOK (12, 438, 37778) := Or.inl ⟨by decide, Or.inl (mt_8 (List.mem_of_getElem? (i := 146) rfl)), rfl, by decide, rfl, by decide⟩
theorem poolV_166 : VOK (12, 441, 37907) := Or.inl ⟨by decide, Or.inl (mt_8 (List.mem_of_getElem? (i := 166) rfl)), rfl, by decide, rfl, by decide⟩
theorem poolV_167 : VOK (12, 449, 38930) := Or.inl ⟨by decide, Or.inl (mt_8 (List.mem_of_getElem? (i := 190) rfl)), rfl, by decide, rfl, by decide⟩
theorem poolV_168 : VOK (12, 452, 38834) := Or.inl ⟨by decide, Or.inl (mt_8 (List.mem_of_getElem? (i := 194) rfl)), rfl, by decide, rfl, by decide⟩
theorem poolV_169 : VOK (12, 456, 26290) := Or.inl ⟨by decide, Or.inl (mt_8 (List.mem_of_getElem? (i := 201) rfl)), rfl, by decide, rfl, by decide⟩
theorem poolV_170 : VOK (12, 460, 39443) := Or.inl ⟨by decide, Or.inl (mt_8 (List.mem_of_getElem? (i := 213) rfl)), rfl, by decide, rfl, by decide⟩
theorem poolV_171 : VOK (12, 476, 39810) := Or.inl ⟨by decide, Or.inl (mt_8 (List.mem_of_getElem? (i := 232) rfl)), rfl, by decide, rfl, by decide⟩
theorem poolV_172 : VOK (12, 479, 39969) := Or.inl ⟨by decide, Or.inl (mt_8 (List.mem_of_getElem? (i := 236) rfl)), rfl, by decide, rfl, by decide⟩
theorem poolV_173 : VOK (12, 482, 40081) := Or.inl ⟨by decide, Or.inl (mt_9 (List.mem_of_getElem? (i := 0) rfl)), rfl, by decide, rfl, by decide⟩
theorem poolV_174 : VOK (12, 485, 40210) := Or.inl ⟨by decide, Or.inl (mt_8 (List.mem_of_getElem? (i := 228) rfl)), rfl, by decide, rfl, by decide⟩
theorem poolV_175 : VOK (12, 491, 40849) := Or.inl ⟨by decide, Or.inl (mt_9 (List.mem_of_getElem? (i := 20) rfl)), rfl, by decide, rfl, by decide⟩
theorem poolV_176 : VOK (12, 494, 41361) := Or.inl ⟨by decide, Or.inl (mt_9 (List.mem_of_getElem? (i := 44) rfl)), rfl, by decide, rfl, by decide⟩
theorem poolV_177 : VOK (12, 497, 41619) := Or.inl ⟨by decide, Or.inl (mt_9 (List.mem_of_getElem? (i := 48) rfl)), rfl, by decide, rfl, by decide⟩
theorem poolV_178 : VOK (12, 501, 41749) := Or.inl ⟨by decide, Or.inl (mt_9 (List.mem_of_getElem? (i := 36) rfl)), rfl, by decide, rfl, by decide⟩
theorem poolV_179 : VOK (12, 505, 41476) := Or.inl ⟨by decide, Or.inl (mt_9 (List.mem_of_getElem? (i := 40) rfl)), rfl, by decide, rfl, by decide⟩
theorem poolV_180 : VOK (12, 508, 42386) := Or.inl ⟨by decide, Or.inl (mt_9 (List.mem_of_getElem? (i := 60) rfl)), rfl, by decide, rfl, by decide⟩
theorem poolV_181 : VOK (12, 511, 25874) := Or.inl ⟨by decide, Or.inl (mt_9 (List.mem_of_getElem? (i := 64) rfl)), rfl, by decide, rfl, by decide⟩
theorem poolV_182 : VOK (12, 529, 43138) := Or.inl ⟨by decide, Or.inl (mt_9 (List.mem_of_getElem? (i := 98) rfl)), rfl, by decide, rfl, by decide⟩
theorem poolV_183 : VOK (12, 532, 43283) := Or.inl ⟨by decide, Or.inl (mt_9 (List.mem_of_getElem? (i := 89) rfl)), rfl, by decide, rfl, by decide⟩
theorem poolV_184 : VOK (12, 535, 43010) := Or.inl ⟨by decide, Or.inl (mt_9 (List.mem_of_getElem? (i := 93) rfl)), rfl, by decide, rfl, by decide⟩
theorem poolV_185 : VOK (12, 538, 27060) := Or.inl ⟨by decide, Or.inl (mt_9 (List.mem_of_getElem? (i := 102) rfl)), rfl, by decide, rfl, by decide⟩
theorem poolV_186 : VOK (12, 552, 43924) := Or.inl ⟨by decide, Or.inl (mt_9 (List.mem_of_getElem? (i := 118) rfl)), rfl, by decide, rfl, by decide⟩
theorem poolV_187 : VOK (12, 556, 43777) := Or.inl ⟨by decide, Or.inl (mt_9 (List.mem_of_getElem? (i := 123) rfl)), rfl, by decide, rfl, by decide⟩
theorem poolV_188 : VOK (12, 559, 44289) := Or.inl ⟨by decide, Or.inl (mt_9 (List.mem_of_getElem? (i := 146) rfl)), rfl, by decide, rfl, by decide⟩
theorem poolV_189 : VOK (12, 562, 44546) := Or.inl ⟨by decide, Or.inl (mt_9 (List.mem_of_getElem? (i := 138) rfl)), rfl, by decide, rfl, by decide⟩
theorem poolV_190 : VOK (12, 565, 44433) := Or.inl ⟨by decide, Or.inl (mt_9 (List.mem_of_getElem? (i := 142) rfl)), rfl, by decide, rfl, by decide⟩
theorem poolV_191 : VOK (12, 568, 26018) := Or.inl ⟨by decide, Or.inl (mt_9 (List.mem_of_getElem? (i := 162) rfl)), rfl, by decide, rfl, by decide⟩
theorem poolV_192 : VOK (12, 571, 26401) := Or.inl ⟨by decide, Or.inl (mt_9 (List.mem_of_getElem? (i := 166) rfl)), rfl, by decide, rfl, by decide⟩
theorem poolV_193 : VOK (15, 19, 13078) := Or.inl ⟨by decide, Or.inl (mt_2 (List.mem_of_getElem? (i := 119) rfl)), rfl, by decide, rfl, by decide⟩
theorem poolV_194 : VOK (15, 23, 30614) := Or.inl ⟨by decide, Or.inl (mt_6 (List.mem_of_getElem? (i := 160) rfl)), rfl, by decide, rfl, by decide⟩
theorem poolV_195 : VOK (15, 24, 13202) := Or.inl ⟨by decide, Or.inl (mt_2 (List.mem_of_getElem? (i := 127) rfl)), rfl, by decide, rfl, by decide⟩
theorem poolV_196 : VOK (15, 27, 30738) := Or.inl ⟨by decide, Or.inl (mt_6 (List.mem_of_getElem? (i := 164) rfl)), rfl, by decide, rfl, by decide⟩
theorem poolV_197 : VOK (15, 28, 13329) := Or.inl ⟨by decide, Or.inl (mt_3 (List.mem_of_getElem? (i := 65) rfl)), rfl, by decide, rfl, by decide⟩
theorem poolV_198 : VOK (15, 32, 30865) := Or.inl ⟨by decide, Or.inl (mt_7 (List.mem_of_getElem? (i := 189) rfl)), rfl, by decide, rfl, by decide⟩
theorem poolV_199 : VOK (15, 33, 13457) := Or.inl ⟨by decide, Or.inl (mt_3 (List.mem_of_getElem? (i := 69) rfl)), rfl, by decide, rfl, by decide⟩
theorem poolV_200 : VOK (15, 36, 30993) := Or.inl ⟨by decide, Or.inl (mt_7 (List.mem_of_getElem? (i := 193) rfl)), rfl, by decide, rfl, by decide⟩
theorem poolV_201 : VOK (15, 37, 13587) := Or.inl ⟨by decide, Or.inl (mt_3 (List.mem_of_getElem? (i := 73) rfl)), rfl, by decide, rfl, by decide⟩
theorem poolV_202 : VOK (15, 41, 33299) := Or.inl ⟨by decide, Or.inl (mt_7 (List.mem_of_getElem? (i := 197) rfl)), rfl, by decide, rfl, by decide⟩
theorem poolV_203 : VOK (15, 42, 13714) := Or.inl ⟨by decide, Or.inl (mt_3 (List.mem_of_getElem? (i := 96) rfl)), rfl, by decide, rfl, by decide⟩
theorem poolV_204 : VOK (15, 45, 33554) := Or.inl ⟨by decide, Or.inl (mt_7 (List.mem_of_getElem? (i := 216) rfl)), rfl, by decide, rfl, by decide⟩
theorem poolV_205 : VOK (15, 46, 13843) := Or.inl ⟨by decide, Or.inl (mt_3 (List.mem_of_getElem? (i := 108) rfl)), rfl, by decide, rfl, by decide⟩
theorem poolV_206 : VOK (15, 49, 33683) := Or.inl ⟨by decide, Or.inl (mt_7 (List.mem_of_getElem? (i := 228) rfl)), rfl, by decide, rfl, by decide⟩
theorem poolV_207 : VOK (15, 50, 13969) := Or.inl ⟨by decide, Or.inl (mt_3 (List.mem_of_getElem? (i := 116) rfl)), rfl, by decide, rfl, by decide⟩
theorem poolV_208 : VOK (15, 53, 33937) := Or.inl ⟨by decide, Or.inl (mt_7 (List.mem_of_getElem? (i := 236) rfl)), rfl, by decide, rfl, by decide⟩
theorem poolV_209 : VOK (15, 54, 14097) := Or.inl ⟨by decide, Or.inl (mt_3 (List.mem_of_getElem? (i := 140) rfl)), rfl, by decide, rfl, by decide⟩
theorem poolV_210 : VOK (15, 57, 34193) := Or.inl ⟨by decide, Or.inl (mt_8 (List.mem_of_getElem? (i := 7) rfl)), rfl, by decide, rfl, by decide⟩
theorem poolV_211 : VOK (15, 58, 14226) := Or.inl ⟨by decide, Or.inl (mt_3 (List.mem_of_getElem? (i := 144) rfl)), rfl, by decide, rfl, by decide⟩
theorem poolV_212 : VOK (15, 61, 34706) := Or.inl ⟨by decide, Or.inl (mt_8 (List.mem_of_getElem? (i := 15) rfl)), rfl, by decide, rfl, by decide⟩
theorem poolV_213 : VOK (15, 62, 14354) := Or.inl ⟨by decide, Or.inl (mt_3 (List.mem_of_getElem? (i := 164) rfl)), rfl, by decide, rfl, by decide⟩
theorem poolV_214 : VOK (15, 65, 34834) := Or.inl ⟨by decide, Or.inl (mt_8 (List.mem_of_getElem? (i := 31) rfl)), rfl, by decide, rfl, by decide⟩
theorem poolV_215 : VOK (15, 66, 14483) := Or.inl ⟨by decide, Or.inl (mt_3 (List.mem_of_getElem? (i := 168) rfl)), rfl, by decide, rfl, by decide⟩
theorem poolV_216 : VOK (15, 69, 34963) := Or.inl ⟨by decide, Or.inl (mt_8 (List.mem_of_getElem? (i := 35) rfl)), rfl, by decide, rfl, by decide⟩
theorem poolV_217 : VOK (15, 70, 14609) := Or.inl ⟨by decide, Or.inl (mt_3 (List.mem_of_getElem? (i := 176) rfl)), rfl, by decide, rfl, by decide⟩
theorem poolV_218 : VOK (15, 73, 35089) := Or.inl ⟨by decide, Or.inl (mt_8 (List.mem_of_getElem? (i := 39) rfl)), rfl, by decide, rfl, by decide⟩
theorem poolV_219 : VOK (15, 74, 14739) := Or.inl ⟨by decide, Or.inl (mt_3 (List.mem_of_getElem? (i := 180) rfl)), rfl, by decide, rfl, by decide⟩
theorem poolV_220 : VOK (15, 77, 35219) := Or.inl ⟨by decide, Or.inl (mt_8 (List.mem_of_getElem? (i := 43) rfl)), rfl, by decide, rfl, by decide⟩
theorem poolV_221 : VOK (15, 78, 14866) := Or.inl ⟨by decide, Or.inl (mt_3 (List.mem_of_getElem? (i := 192) rfl)), rfl, by decide, rfl, by decide⟩
theorem poolV_222 : VOK (15, 81, 35346) := Or.inl ⟨by decide, Or.inl (mt_8 (List.mem_of_getElem? (i := 51) rfl)), rfl, by decide, rfl, by decide⟩
theorem poolV_223 : VOK (15, 82, 14996) := Or.inl ⟨by decide, Or.inl (mt_3 (List.mem_of_getElem? (i := 196) rfl)), rfl, by decide, rfl, by decide⟩
theorem poolV_224 : VOK (15, 86, 35604) := Or.inl ⟨by decide, Or.inl (mt_8 (List.mem_of_getElem? (i := 55) rfl)), rfl, by decide, rfl, by decide⟩
theorem poolV_225 : VOK (15, 87, 15123) := Or.inl ⟨by decide, Or.inl (mt_3 (List.mem_of_getElem? (i := 212) rfl)), rfl, by decide, rfl, by decide⟩
theorem poolV_226 : VOK (15, 90, 35731) := Or.inl ⟨by decide, Or.inl (mt_8 (List.mem_of_getElem? (i := 63) rfl)), rfl, by decide, rfl, by decide⟩
theorem poolV_227 : VOK (15, 91, 15251) := Or.inl ⟨by decide, Or.inl (mt_3 (List.mem_of_getElem? (i := 221) rfl)), rfl, by decide, rfl, by decide⟩
theorem poolV_228 : VOK (15, 94, 35859) := Or.inl ⟨by decide, Or.inl (mt_8 (List.mem_of_getElem? (i := 70) rfl)), rfl, by decide, rfl, by decide⟩
theorem poolV_229 : VOK (15, 95, 15379) := Or.inl ⟨by decide, Or.inl (mt_3 (List.mem_of_getElem? (i := 231) rfl)), rfl, by decide, rfl, by decide⟩
theorem poolV_230 : VOK (15, 98, 35987) := Or.inl ⟨by decide, Or.inl (mt_8 (List.mem_of_getElem? (i := 82) rfl)), rfl, by decide, rfl, by decide⟩
theorem poolV_231 : VOK (15, 99, 15507) := Or.inl ⟨by decide, Or.inl (mt_3 (List.mem_of_getElem? (i := 238) rfl)), rfl, by decide, rfl, by decide⟩
theorem poolV_232 : VOK (15, 102, 36243) := Or.inl ⟨by decide, Or.inl (mt_8 (List.mem_of_getElem? (i := 90) rfl)), rfl, by decide, rfl, by decide⟩
theorem poolV_233 : VOK (15, 103, 15635) := Or.inl ⟨by decide, Or.inl (mt_4 (List.mem_of_getElem? (i := 5) rfl)), rfl, by decide, rfl, by decide⟩
theorem poolV_234 : VOK (15, 106, 36499) := Or.inl ⟨by decide, Or.inl (mt_8 (List.mem_of_getElem? (i := 98) rfl)), rfl, by decide, rfl, by decide⟩
theorem poolV_235 : VOK (15, 107, 15761) := Or.inl ⟨by decide, Or.inl (mt_4 (List.mem_of_getElem? (i := 38) rfl)), rfl, by decide, rfl, by decide⟩
theorem poolV_236 : VOK (15, 110, 36625) := Or.inl ⟨by decide, Or.inl (mt_8 (List.mem_of_getElem? (i := 106) rfl)), rfl, by decide, rfl, by decide⟩
theorem poolV_237 : VOK (15, 111, 15889) := Or.inl ⟨by decide, Or.inl (mt_4 (List.mem_of_getElem? (i := 42) rfl)), rfl, by decide, rfl, by decide⟩
theorem poolV_238 : VOK (15, 114, 36753) := Or.inl ⟨by decide, Or.inl (mt_8 (List.mem_of_getElem? (i := 110) rfl)), rfl, by decide, rfl, by decide⟩
theorem poolV_239 : VOK (15, 115, 16017) := Or.inl ⟨by decide, Or.inl (mt_4 (List.mem_of_getElem? (i := 50) rfl)), rfl, by decide, rfl, by decide⟩
theorem poolV_240 : VOK (15, 118, 36881) := Or.inl ⟨by decide, Or.inl (mt_8 (List.mem_of_getElem? (i := 114) rfl)), rfl, by decide, rfl, by decide⟩
theorem poolV_241 : VOK (15, 119, 16146) := Or.inl ⟨by decide, Or.inl (mt_4 (List.mem_of_getElem? (i := 59) rfl)), rfl, by decide, rfl, by decide⟩
theorem poolV_242 : VOK (15, 122, 37010) := Or.inl ⟨by decide, Or.inl (mt_8 (List.mem_of_getElem? (i := 122) rfl)), rfl, by decide, rfl, by decide⟩
theorem poolV_243 : VOK (15, 123, 16274) := Or.inl ⟨by decide, Or.inl (mt_4 (List.mem_of_getElem? (i := 68) rfl)), rfl, by decide, rfl, by decide⟩
theorem poolV_244 : VOK (15, 126, 37138) := Or.inl ⟨by decide, Or.inl (mt_8 (List.mem_of_getElem? (i := 130) rfl)), rfl, by decide, rfl, by decide⟩
theorem poolV_245 : VOK (15, 127, 16401) := Or.inl ⟨by decide, Or.inl (mt_4 (List.mem_of_getElem? (i := 76) rfl)), rfl, by decide, rfl, by decide⟩
theorem poolV_246 : VOK (15, 130, 37265) := Or.inl ⟨by decide, Or.inl (mt_8 (List.mem_of_getElem? (i := 134) rfl)), rfl, by decide, rfl, by decide⟩
theorem poolV_247 : VOK (15, 131, 16529) := Or.inl ⟨by decide, Or.inl (mt_4 (List.mem_of_getElem? (i := 92) rfl)), rfl, by decide, rfl, by decide⟩
theorem poolV_248 : VOK (15, 134, 37393) := Or.inl ⟨by decide, Or.inl (mt_8 (List.mem_of_getElem? (i := 138) rfl)), rfl, by decide, rfl, by decide⟩
theorem poolV_249 : VOK (15, 135, 16657) := Or.inl ⟨by decide, Or.inl (mt_4 (List.mem_of_getElem? (i := 101) rfl)), rfl, by decide, rfl, by decide⟩
theorem poolV_250 : VOK (15, 138, 38033) := Or.inl ⟨by decide, Or.inl (mt_8 (List.mem_of_getElem? (i := 142) rfl)), rfl, by decide, rfl, by decide⟩
theorem poolV_251 : VOK (15, 139, 16786) := Or.inl ⟨by decide, Or.inl (mt_4 (List.mem_of_getElem? (i := 126) rfl)), rfl, by decide, rfl, by decide⟩
theorem poolV_252 : VOK (15, 142, 38162) := Or.inl ⟨by decide, Or.inl (mt_8 (List.mem_of_getElem? (i := 162) rfl)), rfl, by decide, rfl, by decide⟩
theorem poolV_253 : VOK (15, 143, 16913) := Or.inl ⟨by decide, Or.inl (mt_4 (List.mem_of_getElem? (i := 138) rfl)), rfl, by decide, rfl, by decide⟩
theorem poolV_254 : VOK (15, 146, 38289) := Or.inl ⟨by decide, Or.inl (mt_8 (List.mem_of_getElem? (i := 170) rfl)), rfl, by decide, rfl, by decide⟩
theorem poolV_255 : VOK (15, 147, 17042) := Or.inl ⟨by decide, Or.inl (mt_4 (List.mem_of_getElem? (i := 146) rfl)), rfl, by decide, rfl, by decide⟩
theorem poolV_256 : VOK (15, 150, 38418) := Or.inl ⟨by decide, Or.inl (mt_8 (List.mem_of_getElem? (i := 174) rfl)), rfl, by decide, rfl, by decide⟩
theorem poolV_257 : VOK (15, 151, 17171) := Or.inl ⟨by decide, Or.inl (mt_4 (List.mem_of_getElem? (i := 150) rfl)), rfl, by decide, rfl, by decide⟩
theorem poolV_258 : VOK (15, 154, 38547) := Or.inl ⟨by decide, Or.inl (mt_8 (List.mem_of_getElem? (i := 178) rfl)), rfl, by decide, rfl, by decide⟩
theorem poolV_259 : VOK (15, 155, 17297) := Or.inl ⟨by decide, Or.inl (mt_4 (List.mem_of_getElem? (i := 158) rfl)), rfl, by decide, rfl, by decide⟩
theorem poolV_260 : VOK (15, 158, 38673) := Or.inl ⟨by decide, Or.inl (mt_8 (List.mem_of_getElem? (i := 182) rfl)), rfl, by decide, rfl, by decide⟩
theorem poolV_261 : VOK (15, 159, 17458) := Or.inl ⟨by decide, Or.inl (mt_4 (List.mem_of_getElem? (i := 163) rfl)), rfl, by decide, rfl, by decide⟩
theorem poolV_262 : VOK (15, 163, 39090) := Or.inl ⟨by decide, Or.inl (mt_8 (List.mem_of_getElem? (i := 186) rfl)), rfl, by decide, rfl, by decide⟩
theorem poolV_263 : VOK (15, 164, 17586) := Or.inl ⟨by decide, Or.inl (mt_4 (List.mem_of_getElem? (i := 178) rfl)), rfl, by decide, rfl, by decide⟩
theorem poolV_264 : VOK (15, 167, 39218) := Or.inl ⟨by decide, Or.inl (mt_8 (List.mem_of_getElem? (i := 205) rfl)), rfl, by decide, rfl, by decide⟩
theorem poolV_265 : VOK (15, 168, 17715) := Or.inl ⟨by decide, Or.inl (mt_4 (List.mem_of_getElem? (i := 182) rfl)), rfl, by decide, rfl, by decide⟩
theorem poolV_266 : VOK (15, 172, 39603) := Or.inl ⟨by decide, Or.inl (mt_8 (List.mem_of_getElem? (i := 209) rfl)), rfl, by decide, rfl, by decide⟩
theorem poolV_267 : VOK (15, 173, 17843) := Or.inl ⟨by decide, Or.inl (mt_4 (List.mem_of_getElem? (i := 198) rfl)), rfl, by decide, rfl, by decide⟩
theorem poolV_268 : VOK (15, 176, 39731) := Or.inl ⟨by decide, Or.inl (mt_8 (List.mem_of_getElem? (i := 220) rfl)), rfl, by decide, rfl, by decide⟩
theorem poolV_269 : VOK (15, 177, 17937) := Or.inl ⟨by decide, Or.inl (mt_4 (List.mem_of_getElem? (i := 205) rfl)), rfl, by decide, rfl, by decide⟩
theorem poolV_270 : VOK (15, 180, 40337) := Or.inl ⟨by decide, Or.inl (mt_8 (List.mem_of_getElem? (i := 224) rfl)), rfl, by decide, rfl, by decide⟩
theorem poolV_271 : VOK (15, 181, 18066) := Or.inl ⟨by decide, Or.inl (mt_4 (List.mem_of_getElem? (i := 231) rfl)), rfl, by decide, rfl, by decide⟩
theorem poolV_272 : VOK (15, 184, 40466) := Or.inl ⟨by decide, Or.inl (mt_9 (List.mem_of_getElem? (i := 4) rfl)), rfl, by decide, rfl, by decide⟩
theorem poolV_273 : VOK (15, 185, 18193) := Or.inl ⟨by decide, Or.inl (mt_4 (List.mem_of_getElem? (i := 236) rfl)), rfl, by decide, rfl, by decide⟩
theorem poolV_274 : VOK (15, 188, 40593) := Or.inl ⟨by decide, Or.inl (mt_9 (List.mem_of_getElem? (i := 8) rfl)), rfl, by decide, rfl, by decide⟩
theorem poolV_275 : VOK (15, 189, 18321) := Or.inl ⟨by decide, Or.inl (mt_5 (List.mem_of_getElem? (i := 0) rfl)), rfl, by decide, rfl, by decide⟩
theorem poolV_276 : VOK (15, 192, 40721) := Or.inl ⟨by decide, Or.inl (mt_9 (List.mem_of_getElem? (i := 12) rfl)), rfl, by decide, rfl, by decide⟩
theorem poolV_277 : VOK (15, 193, 18449) := Or.inl ⟨by decide, Or.inl (mt_5 (List.mem_of_getElem? (i := 4) rfl)), rfl, by decide, rfl, by decide⟩
theorem poolV_278 : VOK (15, 196, 40977) := Or.inl ⟨by decide, Or.inl (mt_9 (List.mem_of_getElem? (i := 16) rfl)), rfl, by decide, rfl, by decide⟩
theorem poolV_279 : VOK (15, 197, 18577) := Or.inl ⟨by decide, Or.inl (mt_5 (List.mem_of_getElem? (i := 17) rfl)), rfl, by decide, rfl, by decide⟩
theorem poolV_280 : VOK (15, 200, 41105) := Or.inl ⟨by decide, Or.inl (mt_9 (List.mem_of_getElem? (i := 24) rfl)), rfl, by decide, rfl, by decide⟩
theorem poolV_281 : VOK (15, 201, 18705) := Or.inl ⟨by decide, Or.inl (mt_5 (List.mem_of_getElem? (i := 21) rfl)), rfl, by decide, rfl, by decide⟩
theorem poolV_282 : VOK (15, 204, 41233) := Or.inl ⟨by decide, Or.inl (mt_9 (List.mem_of_getElem? (i := 28) rfl)), rfl, by decide, rfl, by decide⟩
theorem poolV_283 : VOK (15, 205, 18836) := Or.inl ⟨by decide, Or.inl (mt_5 (List.mem_of_getElem? (i := 30) rfl)), rfl, by decide, rfl, by decide⟩
theorem poolV_284 : VOK (15, 208, 41876) := Or.inl ⟨by decide, Or.inl (mt_9 (List.mem_of_getElem? (i := 32) rfl)), rfl, by decide, rfl, by decide⟩
theorem poolV_285 : VOK (15, 209, 18964) := Or.inl ⟨by decide, Or.inl (mt_5 (List.mem_of_getElem? (i := 40) rfl)), rfl, by decide, rfl, by decide⟩
theorem poolV_286 : VOK (15, 212, 42004) := Or.inl ⟨by decide, Or.inl (mt_9 (List.mem_of_getElem? (i := 52) rfl)), rfl, by decide, rfl, by decide⟩
theorem poolV_287 : VOK (15, 213, 19093) := Or.inl ⟨by decide, Or.inl (mt_5 (List.mem_of_getElem? (i := 47) rfl)), rfl, by decide, rfl, by decide⟩
theorem poolV_288 : VOK (15, 217, 42517) := Or.inl ⟨by decide, Or.inl (mt_9 (List.mem_of_getElem? (i := 56) rfl)), rfl, by decide, rfl, by decide⟩
theorem poolV_289 : VOK (15, 218, 19218) := Or.inl ⟨by decide, Or.inl (mt_5 (List.mem_of_getElem? (i := 60) rfl)), rfl, by decide, rfl, by decide⟩
theorem poolV_290 : VOK (15, 221, 42770) := Or.inl ⟨by decide, Or.inl (mt_9 (List.mem_of_getElem? (i := 74) rfl)), rfl, by decide, rfl, by decide⟩
theorem poolV_291 : VOK (15, 222, 19346) := Or.inl ⟨by decide, Or.inl (mt_5 (List.mem_of_getElem? (i := 75) rfl)), rfl, by decide, rfl, by decide⟩
theorem poolV_292 : VOK (15, 225, 42898) := Or.inl ⟨by decide, Or.inl (mt_9 (List.mem_of_getElem? (i := 81) rfl)), rfl, by decide, rfl, by decide⟩
theorem poolV_293 : VOK (15, 226, 19509) := Or.inl ⟨by decide, Or.inl (mt_5 (List.mem_of_getElem? (i := 81) rfl)), rfl, by decide, rfl, by decide⟩
theorem poolV_294 : VOK (15, 230, 43445) := Or.inl ⟨by decide, Or.inl (mt_9 (List.mem_of_getElem? (i := 85) rfl)), rfl, by decide, rfl, by decide⟩
theorem poolV_295 : VOK (15, 231, 19637) := Or.inl ⟨by decide, Or.inl (mt_5 (List.mem_of_getElem? (i := 111) rfl)), rfl, by decide, rfl, by decide⟩
theorem poolV_296 : VOK (15, 234, 43573) := Or.inl ⟨by decide, Or.inl (mt_9 (List.mem_of_getElem? (i := 106) rfl)), rfl, by decide, rfl, by decide⟩
theorem poolV_297 : VOK (15, 235, 19763) := Or.inl ⟨by decide, Or.inl (mt_5 (List.mem_of_getElem? (i := 119) rfl)), rfl, by decide, rfl, by decide⟩
theorem poolV_298 : VOK (15, 239, 43699) := Or.inl ⟨by decide, Or.inl (mt_9 (List.mem_of_getElem? (i := 110) rfl)), rfl, by decide, rfl, by decide⟩
theorem poolV_299 : VOK (15, 240, 19860) := Or.inl ⟨by decide, Or.inl (mt_5 (List.mem_of_getElem? (i := 123) rfl)), rfl, by decide, rfl, by decide⟩
theorem poolV_300 : VOK (15, 243, 44052) := Or.inl ⟨by decide, Or.inl (mt_9 (List.mem_of_getElem? (i := 114) rfl)), rfl, by decide, rfl, by decide⟩
theorem poolV_301 : VOK (15, 244, 19987) := Or.inl ⟨by decide, Or.inl (mt_5 (List.mem_of_getElem? (i := 141) rfl)), rfl, by decide, rfl, by decide⟩
theorem poolV_302 : VOK (15, 247, 44179) := Or.inl ⟨by decide, Or.inl (mt_9 (List.mem_of_getElem? (i := 130) rfl)), rfl, by decide, rfl, by decide⟩
theorem poolV_303 : VOK (15, 248, 20114) := Or.inl ⟨by decide, Or.inl (mt_5 (List.mem_of_getElem? (i := 145) rfl)), rfl, by decide, rfl, by decide⟩
theorem poolV_304 : VOK (15, 251, 44690) := Or.inl ⟨by decide, Or.inl (mt_9 (List.mem_of_getElem? (i := 134) rfl)), rfl, by decide, rfl, by decide⟩
theorem poolV_305 : VOK (15, 252, 20242) := Or.inl ⟨by decide, Or.inl (mt_5 (List.mem_of_getElem? (i := 159) rfl)), rfl, by decide, rfl, by decide⟩
theorem poolV_306 : VOK (15, 255, 44818) := Or.inl ⟨by decide, Or.inl (mt_9 (List.mem_of_getElem? (i := 150) rfl)), rfl, by decide, rfl, by decide⟩
theorem poolV_307 : VOK (15, 256, 20371) := Or.inl ⟨by decide, Or.inl (mt_5 (List.mem_of_getElem? (i := 163) rfl)), rfl, by decide, rfl, by decide⟩
theorem poolV_308 : VOK (15, 259, 44947) := Or.inl ⟨by decide, Or.inl (mt_9 (List.mem_of_getElem? (i := 154) rfl)), rfl, by decide, rfl, by decide⟩
theorem poolV_309 : VOK (15, 260, 20513) := Or.inl ⟨by decide, Or.inl (mt_5 (List.mem_of_getElem? (i := 168) rfl)), rfl, by decide, rfl, by decide⟩
theorem poolV_310 : VOK (15, 264, 45089) := Or.inl ⟨by decide, Or.inl (mt_9 (List.mem_of_getElem? (i := 158) rfl)), rfl, by decide, rfl, by decide⟩
theorem poolV_311 : VOK (15, 265, 20625) := Or.inl ⟨by decide, Or.inl (mt_5 (List.mem_of_getElem? (i := 176) rfl)), rfl, by decide, rfl, by decide⟩
theorem poolV_312 : VOK (15, 268, 45201) := Or.inl ⟨by decide, Or.inl (mt_9 (List.mem_of_getElem? (i := 170) rfl)), rfl, by decide, rfl, by decide⟩
theorem poolV_313 : VOK (15, 269, 20770) := Or.inl ⟨by decide, Or.inl (mt_5 (List.mem_of_getElem? (i := 184) rfl)), rfl, by decide, rfl, by decide⟩
theorem poolV_314 : VOK (15, 273, 45346) := Or.inl ⟨by decide, Or.inl (mt_9 (List.mem_of_getElem? (i := 174) rfl)), rfl, by decide, rfl, by decide⟩
theorem poolV_315 : VOK (15, 279, 45458) := Or.inl ⟨by decide, Or.inl (mt_9 (List.mem_of_getElem? (i := 178) rfl)), rfl, by decide, rfl, by decide⟩
theorem poolV_316 : VOK (15, 280, 25617) := Or.inl ⟨by decide, Or.inl (mt_6 (List.mem_of_getElem? (i := 156) rfl)), rfl, by decide, rfl, by decide⟩
theorem poolV_317 : VOK (15, 283, 21010) := Or.inl ⟨by decide, Or.inl (mt_5 (List.mem_of_getElem? (i := 192) rfl)), rfl, by decide, rfl, by decide⟩
theorem poolV_318 : VOK (15, 286, 45586) := Or.inl ⟨by decide, Or.inl (mt_9 (List.mem_of_getElem? (i := 182) rfl)), rfl, by decide, rfl, by decide⟩
theorem poolV_319 : VOK (15, 287, 21137) := Or.inl ⟨by decide, Or.inl (mt_5 (List.mem_of_getElem? (i := 196) rfl)), rfl, by decide, rfl, by decide⟩
theorem poolV_320 : VOK (15, 290, 45713) := Or.inl ⟨by decide, Or.inl (mt_9 (List.mem_of_getElem? (i := 186) rfl)), rfl, by decide, rfl, by decide⟩
set_option maxRecDepth 100000 in
theorem poolV_ok : ∀ x ∈ poolV, VOK x := List.forall_mem_cons.mpr ⟨poolV_0, List.forall_mem_cons.mpr ⟨poolV_1, List.forall_mem_cons.mpr ⟨poolV_2, List.forall_mem_cons.mpr ⟨poolV_3, List.forall_mem_cons.mpr ⟨poolV_4, List.forall_mem_cons.mpr ⟨poolV_5, List.forall_mem_cons.mpr ⟨poolV_6, List.forall_mem_cons.mpr ⟨poolV_7, List.forall_mem_cons.mpr ⟨poolV_8, List.forall_mem_cons.mpr ⟨poolV_9, List.forall_mem_cons.mpr ⟨poolV_10, List.forall_mem_cons.mpr ⟨poolV_11, List.forall_mem_cons.mpr ⟨poolV_12, List.forall_mem_cons.mpr ⟨poolV_13, List.forall_mem_cons.mpr ⟨poolV_14, List.forall_mem_cons.mpr ⟨poolV_15, List.forall_mem_cons.mpr ⟨poolV_16, List.forall_mem_cons.mpr ⟨poolV_17, List.forall_mem_cons.mpr ⟨poolV_18, List.forall_mem_cons.mpr ⟨poolV_19, List.forall_mem_cons.mpr ⟨poolV_20, List.forall_mem_cons.mpr ⟨poolV_21, List.forall_mem_cons.mpr ⟨poolV_22, List.forall_mem_cons.mpr ⟨poolV_23, List.forall_mem_cons.mpr ⟨poolV_24, List.forall_mem_cons.mpr ⟨poolV_25, List.forall_mem_cons.mpr ⟨poolV_26, List.forall_mem_cons.mpr ⟨poolV_27, List.forall_mem_cons.mpr ⟨poolV_28, List.forall_mem_cons.mpr ⟨poolV_29, List.forall_mem_cons.mpr ⟨poolV_30, List.forall_mem_cons.mpr ⟨poolV_31, List.forall_mem_cons.mpr ⟨poolV_32, List.forall_mem_cons.mpr ⟨poolV_33, List.forall_mem_cons.mpr ⟨poolV_34, List.forall_mem_cons.mpr ⟨poolV_35, List.forall_mem_cons.mpr ⟨poolV_36, List.forall_mem_cons.mpr ⟨poolV_37, List.forall_mem_cons.mpr ⟨poolV_38, List.forall_mem_cons.mpr ⟨poolV_39, List.forall_mem_cons.mpr ⟨poolV_40, List.forall_mem_cons.mpr ⟨poolV_41, List.forall_mem_cons.mpr ⟨poolV_42, List.forall_mem_cons.mpr ⟨poolV_43, List.forall_mem_cons.mpr ⟨poolV_44, List.forall_mem_cons.mpr ⟨poolV_45, List.forall_mem_cons.mpr ⟨poolV_46, List.forall_mem_cons.mpr ⟨poolV_47, List.forall_mem_cons.mpr ⟨poolV_48, List.forall_mem_cons.mpr ⟨poolV_49, List.forall_mem_cons.mpr ⟨poolV_50, List.forall_mem_cons.mpr ⟨poolV_51, List.forall_mem_cons.mpr ⟨poolV_52, List.forall_mem_cons.mpr ⟨poolV_53, List.forall_mem_cons.mpr ⟨poolV_54, List.forall_mem_cons.mpr ⟨poolV_55, List.forall_mem_cons.mpr ⟨poolV_56, List.forall_mem_cons.mpr ⟨poolV_57, List.forall_mem_cons.mpr ⟨poolV_58, List.forall_mem_cons.mpr ⟨poolV_59, List.forall_mem_cons.mpr ⟨poolV_60, List.forall_mem_cons.mpr ⟨poolV_61, List.forall_mem_cons.mpr ⟨poolV_62, List.forall_mem_cons.mpr ⟨poolV_63, List.forall_mem_cons.mpr ⟨poolV_64, List.forall_mem_cons.mpr ⟨poolV_65, List.forall_mem_cons.mpr ⟨poolV_66, List.forall_mem_cons.mpr ⟨poolV_67, List.forall_mem_cons.mpr ⟨poolV_68, List.forall_mem_cons.mpr ⟨poolV_69, List.forall_mem_cons.mpr ⟨poolV_70, List.forall_mem_cons.mpr ⟨poolV_71, List.forall_mem_cons.mpr ⟨poolV_72, List.forall_mem_cons.mpr ⟨poolV_73, List.forall_mem_cons.mpr ⟨poolV_74, List.forall_mem_cons.mpr ⟨poolV_75, List.forall_mem_cons.mpr ⟨poolV_76, List.forall_mem_cons.mpr ⟨poolV_77, List.forall_mem_cons.mpr ⟨poolV_78, List.forall_mem_cons.mpr ⟨poolV_79, List.forall_mem_cons.mpr ⟨poolV_80, List.forall_mem_cons.mpr ⟨poolV_81, List.forall_mem_cons.mpr ⟨poolV_82, List.forall_mem_cons.mpr ⟨poolV_83, List.forall_mem_cons.mpr ⟨poolV_84, List.forall_mem_cons.mpr ⟨poolV_85, List.forall_mem_cons.mpr ⟨poolV_86, List.forall_mem_cons.mpr ⟨poolV_87, List.forall_mem_cons.mpr ⟨poolV_88, List.forall_mem_cons.mpr ⟨poolV_89, List.forall_mem_cons.mpr ⟨poolV_90, List.forall_mem_cons.mpr ⟨poolV_91, List.forall_mem_cons.mpr ⟨poolV_92, List.forall_mem_cons.mpr ⟨poolV_93, List.forall_mem_cons.mpr ⟨poolV_94, List.forall_mem_cons.mpr ⟨poolV_95, List.forall_mem_cons.mpr ⟨poolV_96, List.forall_mem_cons.mpr ⟨poolV_97, List.forall_mem_cons.mpr ⟨poolV_98, List.forall_mem_cons.mpr ⟨poolV_99, List.forall_mem_cons.mpr ⟨poolV_100, List.forall_mem_cons.mpr ⟨poolV_101, List.forall_mem_cons.mpr ⟨poolV_102, List.forall_mem_cons.mpr ⟨poolV_103, List.forall_mem_cons.mpr ⟨poolV_104, List.forall_mem_cons.mpr ⟨poolV_105, List.forall_mem_cons.mpr ⟨poolV_106, List.forall_mem_cons.mpr ⟨poolV_107, List.forall_mem_cons.mpr ⟨poolV_108, List.forall_mem_cons.mpr ⟨poolV_109, List.forall_mem_cons.mpr ⟨poolV_110, List.forall_mem_cons.mpr ⟨poolV_111, List.forall_mem_cons.mpr ⟨poolV_112, List.forall_mem_cons.mpr ⟨poolV_113, List.forall_mem_cons.mpr ⟨poolV_114, List.forall_mem_cons.mpr ⟨poolV_115, List.forall_mem_cons.mpr ⟨poolV_116, List.forall_mem_cons.mpr ⟨poolV_117, List.forall_mem_cons.mpr ⟨poolV_118, List.forall_mem_cons.mpr ⟨poolV_119, List.forall_mem_cons.mpr ⟨poolV_120, List.forall_mem_cons.mpr ⟨poolV_121, List.forall_mem_cons.mpr ⟨poolV_122, List.forall_mem_cons.mpr ⟨poolV_123, List.forall_mem_cons.mpr ⟨poolV_124, List.forall_mem_cons.mpr ⟨poolV_125, List.forall_mem_cons.mpr ⟨poolV_126, List.forall_mem_cons.mpr ⟨poolV_127, List.forall_mem_cons.mpr ⟨poolV_128, List.forall_mem_cons.mpr ⟨poolV_129, List.forall_mem_cons.mpr ⟨poolV_130, List.forall_mem_cons.mpr ⟨poolV_131, List.forall_mem_cons.mpr ⟨poolV_132, List.forall_mem_cons.mpr ⟨poolV_133, List.forall_mem_cons.mpr ⟨poolV_134, List.forall_mem_cons.mpr ⟨poolV_135, List.forall_mem_cons.mpr ⟨poolV_136, List.forall_mem_cons.mpr ⟨poolV_137, List.forall_mem_cons.mpr ⟨poolV_138, List.forall_mem_cons.mpr ⟨poolV_139, List.forall_mem_cons.mpr ⟨poolV_140, List.forall_mem_cons.mpr ⟨poolV_141, List.forall_mem_cons.mpr ⟨poolV_142, List.forall_mem_cons.mpr ⟨poolV_143, List.forall_mem_cons.mpr ⟨poolV_144, List.forall_mem_cons.mpr ⟨poolV_145, List.forall_mem_cons.mpr ⟨poolV_146, List.forall_mem_cons.mpr ⟨poolV_147, List.forall_mem_cons.mpr ⟨poolV_148, List.forall_mem_cons.mpr ⟨poolV_149, List.forall_mem_cons.mpr ⟨poolV_150, List.forall_mem_cons.mpr ⟨poolV_151, List.forall_mem_cons.mpr ⟨poolV_152, List.forall_mem_cons.mpr ⟨poolV_153, List.forall_mem_cons.mpr ⟨poolV_154, List.forall_mem_cons.mpr ⟨poolV_155, List.forall_mem_cons.mpr ⟨poolV_156, List.forall_mem_cons.mpr ⟨poolV_157, List.forall_mem_cons.mpr ⟨poolV_158, List.forall_mem_cons.mpr ⟨poolV_159, List.forall_mem_cons.mpr ⟨poolV_160, List.forall_mem_cons.mpr ⟨poolV_161, List.forall_mem_cons.mpr ⟨poolV_162, List.forall_mem_cons.mpr ⟨poolV_163, List.forall_mem_cons.mpr ⟨poolV_164, List.forall_mem_cons.mpr ⟨poolV_165, List.forall_mem_cons.mpr ⟨poolV_166, List.forall_mem_cons.mpr ⟨poolV_167, List.forall_mem_cons.mpr ⟨poolV_168, List.forall_mem_cons.mpr ⟨poolV_169, List.forall_mem_cons.mpr ⟨poolV_170, List.forall_mem_cons.mpr ⟨poolV_171, List.forall_mem_cons.mpr ⟨poolV_172, List.forall_mem_cons.mpr ⟨poolV_173, List.forall_mem_cons.mpr ⟨poolV_174, List.forall_mem_cons.mpr ⟨poolV_175, List.forall_mem_cons.mpr ⟨poolV_176, List.forall_mem_cons.mpr ⟨poolV_177, List.forall_mem_cons.mpr ⟨poolV_178, List.forall_mem_cons.mpr ⟨poolV_179, List.forall_mem_cons.mpr ⟨poolV_180, List.forall_mem_cons.mpr ⟨poolV_181, List.forall_mem_cons.mpr ⟨poolV_182, List.forall_mem_cons.mpr ⟨poolV_183, List.forall_mem_cons.mpr ⟨poolV_184, List.forall_mem_cons.mpr ⟨poolV_185, List.forall_mem_cons.mpr ⟨poolV_186, List.forall_mem_cons.mpr ⟨poolV_187, List.forall_mem_cons.mpr ⟨poolV_188, List.forall_mem_cons.mpr ⟨poolV_189, List.forall_mem_cons.mpr ⟨poolV_190, List.forall_mem_cons.mpr ⟨poolV_191, List.forall_mem_cons.mpr ⟨poolV_192, List.forall_mem_cons.mpr ⟨poolV_193, List.forall_mem_cons.mpr ⟨poolV_194, List.forall_mem_cons.mpr ⟨poolV_195, List.forall_mem_cons.mpr ⟨poolV_196, List.forall_mem_cons.mpr ⟨poolV_197, List.forall_mem_cons.mpr ⟨poolV_198, List.forall_mem_cons.mpr ⟨poolV_199, List.forall_mem_cons.mpr ⟨poolV_200, List.forall_mem_cons.mpr ⟨poolV_201, List.forall_mem_cons.mpr ⟨poolV_202, List.forall_mem_cons.mpr ⟨poolV_203, List.forall_mem_cons.mpr ⟨poolV_204, List.forall_mem_cons.mpr ⟨poolV_205, List.forall_mem_cons.mpr ⟨poolV_206, List.forall_mem_cons.mpr ⟨poolV_207, List.forall_mem_cons.mpr ⟨poolV_208, List.forall_mem_cons.mpr ⟨poolV_209, List.forall_mem_cons.mpr ⟨poolV_210, List.forall_mem_cons.mpr ⟨poolV_211, List.forall_mem_cons.mpr ⟨poolV_212, List.forall_mem_cons.mpr ⟨poolV_213, List.forall_mem_cons.mpr ⟨poolV_214, List.forall_mem_cons.mpr ⟨poolV_215, List.forall_mem_cons.mpr ⟨poolV_216, List.forall_mem_cons.mpr ⟨poolV_217, List.forall_mem_cons.mpr ⟨poolV_218, List.forall_mem_cons.mpr ⟨poolV_219, List.forall_mem_cons.mpr ⟨poolV_220, List.forall_mem_cons.mpr ⟨poolV_221, List.forall_mem_cons.mpr ⟨poolV_222, List.forall_mem_cons.mpr ⟨poolV_223, List.forall_mem_cons.mpr ⟨poolV_224, List.forall_mem_cons.mpr ⟨poolV_225, List.forall_mem_cons.mpr ⟨poolV_226, List.forall_mem_cons.mpr ⟨poolV_227, List.forall_mem_cons.mpr ⟨poolV_228, List.forall_mem_cons.mpr ⟨poolV_229, List.forall_mem_cons.mpr ⟨poolV_230, List.forall_mem_cons.mpr ⟨poolV_231, List.forall_mem_cons.mpr ⟨poolV_232, List.forall_mem_cons.mpr ⟨poolV_233, List.forall_mem_cons.mpr ⟨poolV_234, List.forall_mem_cons.mpr ⟨poolV_235, List.forall_mem_cons.mpr ⟨poolV_236, List.forall_mem_cons.mpr ⟨poolV_237, List.forall_mem_cons.mpr ⟨poolV_238, List.forall_mem_cons.mpr ⟨poolV_239, List.forall_mem_cons.mpr ⟨poolV_240, List.forall_mem_cons.mpr ⟨poolV_241, List.forall_mem_cons.mpr ⟨poolV_242, List.forall_mem_cons.mpr ⟨poolV_243, List.forall_mem_cons.mpr ⟨poolV_244, List.forall_mem_cons.mpr ⟨poolV_245, List.forall_mem_cons.mpr ⟨poolV_246, List.forall_mem_cons.mpr ⟨poolV_247, List.forall_mem_cons.mpr ⟨poolV_248, List.forall_mem_cons.mpr ⟨poolV_249, List.forall_mem_cons.mpr ⟨poolV_250, List.forall_mem_cons.mpr ⟨poolV_251, List.forall_mem_cons.mpr ⟨poolV_252, List.forall_mem_cons.mpr ⟨poolV_253, List.forall_mem_cons.mpr ⟨poolV_254, List.forall_mem_cons.mpr ⟨poolV_255, List.forall_mem_cons.mpr ⟨poolV_256, List.forall_mem_cons.mpr ⟨poolV_257, List.forall_mem_cons.mpr ⟨poolV_258, List.forall_mem_cons.mpr ⟨poolV_259, List.forall_mem_cons.mpr ⟨poolV_260, List.forall_mem_cons.mpr ⟨poolV_261, List.forall_mem_cons.mpr ⟨poolV_262, List.forall_mem_cons.mpr ⟨poolV_263, List.forall_mem_cons.mpr ⟨poolV_264, List.forall_mem_cons.mpr ⟨poolV_265, List.forall_mem_cons.mpr ⟨poolV_266, List.forall_mem_cons.mpr ⟨poolV_267, List.forall_mem_cons.mpr ⟨poolV_268, List.forall_mem_cons.mpr ⟨poolV_269, List.forall_mem_cons.mpr ⟨poolV_270, List.forall_mem_cons.mpr ⟨poolV_271, List.forall_mem_cons.mpr ⟨poolV_272, List.forall_mem_cons.mpr ⟨poolV_273, List.forall_mem_cons.mpr ⟨poolV_274, List.forall_mem_cons.mpr ⟨poolV_275, List.forall_mem_cons.mpr ⟨poolV_276, List.forall_mem_cons.mpr ⟨poolV_277, List.forall_mem_cons.mpr ⟨poolV_278, List.forall_mem_cons.mpr ⟨poolV_279, List.forall_mem_cons.mpr ⟨poolV_280, List.forall_mem_cons.mpr ⟨poolV_281, List.forall_mem_cons.mpr ⟨poolV_282, List.forall_mem_cons.mpr ⟨poolV_283, List.forall_mem_cons.mpr ⟨poolV_284, List.forall_mem_cons.mpr ⟨poolV_285, List.forall_mem_cons.mpr ⟨poolV_286, List.forall_mem_cons.mpr ⟨poolV_287, List.forall_mem_cons.mpr ⟨poolV_288, List.forall_mem_cons.mpr ⟨poolV_289, List.forall_mem_cons.mpr ⟨poolV_290, List.forall_mem_cons.mpr ⟨poolV_291, List.forall_mem_cons.mpr ⟨poolV_292, List.forall_mem_cons.mpr ⟨poolV_293, List.forall_mem_cons.mpr ⟨poolV_294, List.forall_mem_cons.mpr ⟨poolV_295, List.forall_mem_cons.mpr ⟨poolV_296, List.forall_mem_cons.mpr ⟨poolV_297, List.forall_mem_cons.mpr ⟨poolV_298, List.forall_mem_cons.mpr ⟨poolV_299, List.forall_mem_cons.mpr ⟨poolV_300, List.forall_mem_cons.mpr ⟨poolV_301, List.forall_mem_cons.mpr ⟨poolV_302, List.forall_mem_cons.mpr ⟨poolV_303, List.forall_mem_cons.mpr ⟨poolV_304, List.forall_mem_cons.mpr ⟨poolV_305, List.forall_mem_cons.mpr ⟨poolV_306, List.forall_mem_cons.mpr ⟨poolV_307, List.forall_mem_cons.mpr ⟨poolV_308, List.forall_mem_cons.mpr ⟨poolV_309, List.forall_mem_cons.mpr ⟨poolV_310, List.forall_mem_cons.mpr ⟨poolV_311, List.forall_mem_cons.mpr ⟨poolV_312, List.forall_mem_cons.mpr ⟨poolV_313, List.forall_mem_cons.mpr ⟨poolV_314, List.forall_mem_cons.mpr ⟨poolV_315, List.forall_mem_cons.mpr ⟨poolV_316, List.forall_mem_cons.mpr ⟨poolV_317, List.forall_mem_cons.mpr ⟨poolV_318, List.forall_mem_cons.mpr ⟨poolV_319, List.forall_mem_cons.mpr ⟨poolV_320, List.forall_mem_nil _⟩⟩⟩⟩⟩⟩⟩⟩⟩⟩⟩⟩⟩⟩⟩⟩⟩⟩⟩⟩⟩⟩⟩⟩⟩⟩⟩⟩⟩⟩⟩⟩⟩⟩⟩⟩⟩⟩⟩⟩⟩⟩⟩⟩⟩⟩⟩⟩⟩⟩⟩⟩⟩⟩⟩⟩⟩⟩⟩⟩⟩⟩⟩⟩⟩⟩⟩⟩⟩⟩⟩⟩⟩⟩⟩⟩⟩⟩⟩⟩⟩⟩⟩⟩⟩⟩⟩⟩⟩⟩⟩⟩⟩⟩⟩⟩⟩⟩⟩⟩⟩⟩⟩⟩⟩⟩⟩⟩⟩⟩⟩⟩⟩⟩⟩⟩⟩⟩⟩⟩⟩⟩⟩⟩⟩⟩⟩⟩⟩⟩⟩⟩⟩⟩⟩⟩⟩⟩⟩⟩⟩⟩⟩⟩⟩⟩⟩⟩⟩⟩⟩⟩⟩⟩⟩⟩⟩⟩⟩⟩⟩⟩⟩⟩⟩⟩⟩⟩⟩⟩⟩⟩⟩⟩⟩⟩⟩⟩⟩⟩⟩⟩⟩⟩⟩⟩⟩⟩⟩⟩⟩⟩⟩⟩⟩⟩⟩⟩⟩⟩⟩⟩⟩⟩⟩⟩⟩⟩⟩⟩⟩⟩⟩⟩⟩⟩⟩⟩⟩⟩⟩⟩⟩⟩⟩⟩⟩⟩⟩⟩⟩⟩⟩⟩⟩⟩⟩⟩⟩⟩⟩⟩⟩⟩⟩⟩⟩⟩⟩⟩⟩⟩⟩⟩⟩⟩⟩⟩⟩⟩⟩⟩⟩⟩⟩⟩⟩⟩⟩⟩⟩⟩⟩⟩⟩⟩⟩⟩⟩⟩⟩⟩⟩⟩⟩⟩⟩⟩⟩⟩⟩⟩⟩⟩⟩⟩⟩⟩⟩⟩⟩⟩⟩⟩⟩⟩⟩⟩⟩⟩⟩⟩⟩⟩⟩⟩⟩⟩⟩⟩⟩
theorem poolT_0 : TOK (0, 7, 274) := Or.inl ⟨by decide, Or.inl (mt_4 (List.mem_of_getElem? (i := 192) rfl)), rfl, rfl, by decide⟩
theorem poolT_1 : TOK (0, 13, 50) := Or.inl ⟨by decide, Or.inl (mt_4 (List.mem_of_getElem? (i := 195) rfl)), rfl, rfl, by decide⟩
theorem poolT_2 : TOK (1, 7, 545) := Or.inl ⟨by decide, Or.inl (mt_5 (List.mem_of_getElem? (i := 67) rfl)), rfl, rfl, by decide⟩
theorem poolT_3 : TOK (1, 13, 673) := Or.inl ⟨by decide, Or.inl (mt_5 (List.mem_of_getElem? (i := 70) rfl)), rfl, rfl, by decide⟩
theorem poolT_4 : TOK (1, 16, 787) := Or.inl ⟨by decide, Or.inl (mt_5 (List.mem_of_getElem? (i := 73) rfl)), rfl, rfl, by decide⟩
theorem poolT_5 : TOK (1, 20, 915) := Or.inl ⟨by decide, Or.inl (mt_5 (List.mem_of_getElem? (i := 74) rfl)), rfl, rfl, by decide⟩
theorem poolT_6 : TOK (2, 9, 9250) := Or.inl ⟨by decide, Or.inl (mt_5 (List.mem_of_getElem? (i := 37) rfl)), rfl, rfl, by decide⟩
theorem poolT_7 : TOK (2, 15, 1189) := Or.inl ⟨by decide, Or.inl (mt_5 (List.mem_of_getElem? (i := 38) rfl)), rfl, rfl, by decide⟩
theorem poolT_8 : TOK (2, 31, 8978) := Or.inl ⟨by decide, Or.inl (mt_5 (List.mem_of_getElem? (i := 39) rfl)), rfl, rfl, by decide⟩
theorem poolT_9 : TOK (3, 30, 8978) := Or.inl ⟨by decide, Or.inl (mt_3 (List.mem_of_getElem? (i := 132) rfl)), rfl, rfl, by decide⟩
theorem poolT_10 : TOK (3, 36, 9250) := Or.inl ⟨by decide, Or.inl (mt_3 (List.mem_of_getElem? (i := 133) rfl)), rfl, rfl, by decide⟩
theorem poolT_11 : TOK (4, 44, 9361) := Or.inl ⟨by decide, Or.inl (mt_4 (List.mem_of_getElem? (i := 17) rfl)), rfl, rfl, by decide⟩
theorem poolT_12 : TOK (4, 54, 9489) := Or.inl ⟨by decide, Or.inl (mt_4 (List.mem_of_getElem? (i := 27) rfl)), rfl, rfl, by decide⟩
theorem poolT_13 : TOK (4, 63, 9619) := Or.inl ⟨by decide, Or.inl (mt_4 (List.mem_of_getElem? (i := 30) rfl)), rfl, rfl, by decide⟩
theorem poolT_14 : TOK (4, 67, 10514) := Or.inl ⟨by decide, Or.inl (mt_4 (List.mem_of_getElem? (i := 22) rfl)), rfl, rfl, by decide⟩
theorem poolT_15 : TOK (4, 71, 10130) := Or.inl ⟨by decide, Or.inl (mt_4 (List.mem_of_getElem? (i := 26) rfl)), rfl, rfl, by decide⟩
theorem poolT_16 : TOK (4, 74, 10274) := Or.inl ⟨by decide, Or.inl (mt_4 (List.mem_of_getElem? (i := 58) rfl)), rfl, rfl, by decide⟩
theorem poolT_17 : TOK (4, 78, 8978) := Or.inl ⟨by decide, Or.inl (mt_4 (List.mem_of_getElem? (i := 67) rfl)), rfl, rfl, by decide⟩
theorem poolT_18 : TOK (4, 85, 46738) := Or.inr (Or.inr (Or.inr (Or.inr (Or.inr ⟨rfl, mt_4 (List.mem_of_getElem? (i := 88) rfl), rfl⟩))))
theorem poolT_19 : TOK (4, 90, 46610) := Or.inr (Or.inr (Or.inr (Or.inr (Or.inl ⟨rfl, mt_4 (List.mem_of_getElem? (i := 89) rfl), rfl⟩))))
theorem poolT_20 : TOK (4, 93, 9891) := Or.inl ⟨by decide, Or.inl (mt_4 (List.mem_of_getElem? (i := 100) rfl)), rfl, rfl, by decide⟩
theorem poolT_21 : TOK (5, 11, 5297) := Or.inl ⟨by decide, Or.inl (mt_1 (List.mem_of_getElem? (i := 145) rfl)), rfl, rfl, by decide⟩
theorem poolT_22 : TOK (5, 82, 46738) := Or.inr (Or.inr (Or.inr (Or.inr (Or.inr ⟨rfl, mt_2 (List.mem_of_getElem? (i := 139) rfl), rfl⟩))))
theorem poolT_23 : TOK (5, 221, 9107) := Or.inl ⟨by decide, Or.inl (mt_2 (List.mem_of_getElem? (i := 231) rfl)), rfl, rfl, by decide⟩
theorem poolT_24 : TOK (6, 28, 8210) := Or.inl ⟨by decide, Or.inl (mt_5 (List.mem_of_getElem? (i := 89) rfl)), rfl, rfl, by decide⟩
theorem poolT_25 : TOK (6, 46, 8978) := Or.inl ⟨by decide, Or.inl (mt_5 (List.mem_of_getElem? (i := 96) rfl)), rfl, rfl, by decide⟩
theorem poolT_26 : TOK (6, 51, 128261) := Or.inr (Or.inl ⟨rfl, mt_5 (List.mem_of_getElem? (i := 97) rfl)⟩)
theorem poolT_27 : TOK (6, 65, 9619) := Or.inl ⟨by decide, Or.inl (mt_5 (List.mem_of_getElem? (i := 140) rfl)), rfl, rfl, by decide⟩
theorem poolT_28 : TOK (7, 10, 8978) := Or.inl ⟨by decide, Or.inl (mt_3 (List.mem_of_getElem? (i := 211) rfl)), rfl, rfl, by decide⟩
theorem poolT_29 : TOK (7, 14, 9619) := Or.inl ⟨by decide, Or.inl (mt_3 (List.mem_of_getElem? (i := 220) rfl)), rfl, rfl, by decide⟩
theorem poolT_30 : TOK (7, 20, 9361) := Or.inl ⟨by decide, Or.inl (mt_3 (List.mem_of_getElem? (i := 219) rfl)), rfl, rfl, by decide⟩
theorem poolT_31 : TOK (7, 24, 45841) := Or.inl ⟨by decide, Or.inl (mt_4 (List.mem_of_getElem? (i := 25) rfl)), rfl, rfl, by decide⟩
theorem poolT_32 : TOK (8, 28, 128261) := Or.inr (Or.inl ⟨rfl, mt_5 (List.mem_of_getElem? (i := 158) rfl)⟩)
theorem poolT_33 : TOK (9, 64, 9361) := Or.inl ⟨by decide, Or.inl (mt_3 (List.mem_of_getElem? (i := 204) rfl)), rfl, rfl, by decide⟩
theorem poolT_34 : TOK (9, 70, 9619) := Or.inl ⟨by decide, Or.inl (mt_3 (List.mem_of_getElem? (i := 208) rfl)), rfl, rfl, by decide⟩
theorem poolT_35 : TOK (9, 94, 9107) := Or.inl ⟨by decide, Or.inl (mt_4 (List.mem_of_getElem? (i := 222) rfl)), rfl, rfl, by decide⟩
theorem poolT_36 : TOK (9, 97, 8978) := Or.inl ⟨by decide, Or.inl (mt_4 (List.mem_of_getElem? (i := 227) rfl)), rfl, rfl, by decide⟩
theorem poolT_37 : TOK (9, 101, 45841) := Or.inl ⟨by decide, Or.inl (mt_4 (List.mem_of_getElem? (i := 228) rfl)), rfl, rfl, by decide⟩
theorem poolT_38 : TOK (9, 106, 46610) := Or.inr (Or.inr (Or.inr (Or.inr (Or.inl ⟨rfl, mt_5 (List.mem_of_getElem? (i := 16) rfl), rfl⟩))))
theorem poolT_39 : TOK (10, 130, 8978) := Or.inl ⟨by decide, Or.inl (mt_3 (List.mem_of_getElem? (i := 85) rfl)), rfl, rfl, by decide⟩
theorem poolT_40 : TOK (10, 171, 46481) := Or.inr (Or.inr (Or.inr (Or.inl ⟨rfl, mt_3 (List.mem_of_getElem? (i := 188) rfl), rfl⟩)))
theorem poolT_41 : TOK (10, 176, 46738) := Or.inr (Or.inr (Or.inr (Or.inr (Or.inr ⟨rfl, mt_3 (List.mem_of_getElem? (i := 191) rfl), rfl⟩))))
theorem poolT_42 : TOK (10, 185, 10386) := Or.inl ⟨by decide, Or.inl (mt_3 (List.mem_of_getElem? (i := 216) rfl)), rfl, rfl, by decide⟩
theorem poolT_43 : TOK (10, 188, 10130) := Or.inl ⟨by decide, Or.inl (mt_3 (List.mem_of_getElem? (i := 225) rfl)), rfl, rfl, by decide⟩
theorem poolT_44 : TOK (10, 191, 10274) := Or.inl ⟨by decide, Or.inl (mt_3 (List.mem_of_getElem? (i := 228) rfl)), rfl, rfl, by decide⟩
theorem poolT_45 : TOK (10, 194, 10002) := Or.inl ⟨by decide, Or.inl (mt_3 (List.mem_of_getElem? (i := 235) rfl)), rfl, rfl, by decide⟩
theorem poolT_46 : TOK (10, 197, 9891) := Or.inl ⟨by decide, Or.inl (mt_4 (List.mem_of_getElem? (i := 2) rfl)), rfl, rfl, by decide⟩
theorem poolT_47 : TOK (10, 205, 9746) := Or.inl ⟨by decide, Or.inl (mt_4 (List.mem_of_getElem? (i := 31) rfl)), rfl, rfl, by decide⟩
theorem poolT_48 : TOK (10, 252, 22433) := Or.inl ⟨by decide, Or.inl (mt_4 (List.mem_of_getElem? (i := 167) rfl)), rfl, rfl, by decide⟩
theorem poolT_49 : TOK (10, 267, 22561) := Or.inl ⟨by decide, Or.inl (mt_4 (List.mem_of_getElem? (i := 186) rfl)), rfl, rfl, by decide⟩
theorem poolT_50 : TOK (10, 270, 178) := Or.inl ⟨by decide, Or.inl (mt_4 (List.mem_of_getElem? (i := 189) rfl)), rfl, rfl, by decide⟩
theorem poolT_51 : TOK (10, 276, 434) := Or.inl ⟨by decide, Or.inl (mt_4 (List.mem_of_getElem? (i := 202) rfl)), rfl, rfl, by decide⟩
theorem poolT_52 : TOK (10, 282, 45841) := Or.inl ⟨by decide, Or.inl (mt_3 (List.mem_of_getElem? (i := 134) rfl)), rfl, rfl, by decide⟩
theorem poolT_53 : TOK (10, 302, 1189) := Or.inl ⟨by decide, Or.inr ⟨_, mt_5 (List.mem_of_getElem? (i := 34) rfl)⟩, rfl, rfl, by decide⟩
theorem poolT_54 : TOK (10, 308, 1300) := Or.inl ⟨by decide, Or.inl (mt_5 (List.mem_of_getElem? (i := 44) rfl)), rfl, rfl, by decide⟩
theorem poolT_55 : TOK (10, 312, 22689) := Or.inl ⟨by decide, Or.inl (mt_5 (List.mem_of_getElem? (i := 51) rfl)), rfl, rfl, by decide⟩
theorem poolT_56 : TOK (10, 315, 915) := Or.inl ⟨by decide, Or.inl (mt_5 (List.mem_of_getElem? (i := 54) rfl)), rfl, rfl, by decide⟩
theorem poolT_57 : TOK (10, 321, 787) := Or.inl ⟨by decide, Or.inl (mt_5 (List.mem_of_getElem? (i := 57) rfl)), rfl, rfl, by decide⟩
theorem poolT_58 : TOK (10, 324, 1058) := Or.inl ⟨by decide, Or.inl (mt_5 (List.mem_of_getElem? (i := 64) rfl)), rfl, rfl, by decide⟩
theorem poolT_59 : TOK (10, 327, 545) := Or.inl ⟨by decide, Or.inl (mt_5 (List.mem_of_getElem? (i := 79) rfl)), rfl, rfl, by decide⟩
theorem poolT_60 : TOK (10, 330, 673) := Or.inl ⟨by decide, Or.inl (mt_5 (List.mem_of_getElem? (i := 80) rfl)), rfl, rfl, by decide⟩
theorem poolT_61 : TOK (10, 344, 24883) := Or.inl ⟨by decide, Or.inl (mt_5 (List.mem_of_getElem? (i := 108) rfl)), rfl, rfl, by decide⟩
theorem poolT_62 : TOK (10, 358, 22817) := Or.inl ⟨by decide, Or.inl (mt_5 (List.mem_of_getElem? (i := 127) rfl)), rfl, rfl, by decide⟩
theorem poolT_63 : TOK (10, 371, 9107) := Or.inl ⟨by decide, Or.inl (mt_5 (List.mem_of_getElem? (i := 167) rfl)), rfl, rfl, by decide⟩
theorem poolT_64 : TOK (10, 408, 9250) := Or.inl ⟨by decide, Or.inl (mt_3 (List.mem_of_getElem? (i := 92) rfl)), rfl, rfl, by decide⟩
theorem poolT_65 : TOK (10, 424, 9619) := Or.inl ⟨by decide, Or.inl (mt_5 (List.mem_of_getElem? (i := 153) rfl)), rfl, rfl, by decide⟩
theorem poolT_66 : TOK (12, 77, 26930) := Or.inl ⟨by decide, Or.inl (mt_8 (List.mem_of_getElem? (i := 67) rfl)), rfl, rfl, by decide⟩
theorem poolT_67 : TOK (12, 108, 27425) := Or.inl ⟨by decide, Or.inl (mt_7 (List.mem_of_getElem? (i := 38) rfl)), rfl, rfl, by decide⟩
theorem poolT_68 : TOK (12, 116, 27553) := Or.inl ⟨by decide, Or.inl (mt_7 (List.mem_of_getElem? (i := 42) rfl)), rfl, rfl, by decide⟩
theorem poolT_69 : TOK (12, 128, 27697) := Or.inl ⟨by decide, Or.inl (mt_7 (List.mem_of_getElem? (i := 58) rfl)), rfl, rfl, by decide⟩
theorem poolT_70 : TOK (12, 143, 26531) := Or.inl ⟨by decide, Or.inl (mt_7 (List.mem_of_getElem? (i := 84) rfl)), rfl, rfl, by decide⟩
theorem poolT_71 : TOK (12, 278, 26658) := Or.inl ⟨by decide, Or.inl (mt_7 (List.mem_of_getElem? (i := 132) rfl)), rfl, rfl, by decide⟩
theorem poolT_72 : TOK (12, 370, 33058) := Or.inl ⟨by decide, Or.inl (mt_7 (List.mem_of_getElem? (i := 213) rfl)), rfl, rfl, by decide⟩
theorem poolT_73 : TOK (12, 388, 26769) := Or.inl ⟨by decide, Or.inl (mt_8 (List.mem_of_getElem? (i := 4) rfl)), rfl, rfl, by decide⟩
theorem poolT_74 : TOK (12, 445, 27186) := Or.inl ⟨by decide, Or.inl (mt_8 (List.mem_of_getElem? (i := 198) rfl)), rfl, rfl, by decide⟩
theorem poolT_75 : TOK (12, 463, 39346) := Or.inl ⟨by decide, Or.inl (mt_8 (List.mem_of_getElem? (i := 217) rfl)), rfl, rfl, by decide⟩
theorem poolT_76 : TOK (12, 514, 42259) := Or.inl ⟨by decide, Or.inl (mt_9 (List.mem_of_getElem? (i := 68) rfl)), rfl, rfl, by decide⟩
theorem poolT_77 : TOK (12, 518, 42131) := Or.inl ⟨by decide, Or.inl (mt_9 (List.mem_of_getElem? (i := 71) rfl)), rfl, rfl, by decide⟩
theorem poolT_78 : TOK (12, 521, 42658) := Or.inl ⟨by decide, Or.inl (mt_9 (List.mem_of_getElem? (i := 78) rfl)), rfl, rfl, by decide⟩
theorem poolT_79 : TOK (15, 274, 128787) := Or.inr (Or.inr (Or.inl ⟨rfl, mt_5 (List.mem_of_getElem? (i := 200) rfl), rfl⟩))
set_option maxRecDepth 100000 in
theorem poolT_ok : ∀ x ∈ poolT, TOK x := List.forall_mem_cons.mpr ⟨poolT_0, List.forall_mem_cons.mpr ⟨poolT_1, List.forall_mem_cons.mpr ⟨poolT_2, List.forall_mem_cons.mpr ⟨poolT_3, List.forall_mem_cons.mpr ⟨poolT_4, List.forall_mem_cons.mpr ⟨poolT_5, List.forall_mem_cons.mpr ⟨poolT_6, List.forall_mem_cons.mpr ⟨poolT_7, List.forall_mem_cons.mpr ⟨poolT_8, List.forall_mem_cons.mpr ⟨poolT_9, List.forall_mem_cons.mpr ⟨poolT_10, List.forall_mem_cons.mpr ⟨poolT_11, List.forall_mem_cons.mpr ⟨poolT_12, List.forall_mem_cons.mpr ⟨poolT_13, List.forall_mem_cons.mpr ⟨poolT_14, List.forall_mem_cons.mpr ⟨poolT_15, List.forall_mem_cons.mpr ⟨poolT_16, List.forall_mem_cons.mpr ⟨poolT_17, List.forall_mem_cons.mpr ⟨poolT_18, List.forall_mem_cons.mpr ⟨poolT_19, List.forall_mem_cons.mpr ⟨poolT_20, List.forall_mem_cons.mpr ⟨poolT_21, List.forall_mem_cons.mpr ⟨poolT_22, List.forall_mem_cons.mpr ⟨poolT_23, List.forall_mem_cons.mpr ⟨poolT_24, List.forall_mem_cons.mpr ⟨poolT_25, List.forall_mem_cons.mpr ⟨poolT_26, List.forall_mem_cons.mpr ⟨poolT_27, List.forall_mem_cons.mpr ⟨poolT_28, List.forall_mem_cons.mpr ⟨poolT_29, List.forall_mem_cons.mpr ⟨poolT_30, List.forall_mem_cons.mpr ⟨poolT_31, List.forall_mem_cons.mpr ⟨poolT_32, List.forall_mem_cons.mpr ⟨poolT_33, List.forall_mem_cons.mpr ⟨poolT_34, List.forall_mem_cons.mpr ⟨poolT_35, List.forall_mem_cons.mpr ⟨poolT_36, List.forall_mem_cons.mpr ⟨poolT_37, List.forall_mem_cons.mpr ⟨poolT_38, List.forall_mem_cons.mpr ⟨poolT_39, List.forall_mem_cons.mpr ⟨poolT_40, List.forall_mem_cons.mpr ⟨poolT_41, List.forall_mem_cons.mpr ⟨poolT_42, List.forall_mem_cons.mpr ⟨poolT_43, List.forall_mem_cons.mpr ⟨poolT_44, List.forall_mem_cons.mpr ⟨poolT_45, List.forall_mem_cons.mpr ⟨poolT_46, List.forall_mem_cons.mpr ⟨poolT_47, List.forall_mem_cons.mpr ⟨poolT_48, List.forall_mem_cons.mpr ⟨poolT_49, List.forall_mem_cons.mpr ⟨poolT_50, List.forall_mem_cons.mpr ⟨poolT_51, List.forall_mem_cons.mpr ⟨poolT_52, List.forall_mem_cons.mpr ⟨poolT_53, List.forall_mem_cons.mpr ⟨poolT_54, List.forall_mem_cons.mpr ⟨poolT_55, List.forall_mem_cons.mpr ⟨poolT_56, List.forall_mem_cons.mpr ⟨poolT_57, List.forall_mem_cons.mpr ⟨poolT_58, List.forall_mem_cons.mpr ⟨poolT_59, List.forall_mem_cons.mpr ⟨poolT_60, List.forall_mem_cons.mpr ⟨poolT_61, List.forall_mem_cons.mpr ⟨poolT_62, List.forall_mem_cons.mpr ⟨poolT_63, List.forall_mem_cons.mpr ⟨poolT_64, List.forall_mem_cons.mpr ⟨poolT_65, List.forall_mem_cons.mpr ⟨poolT_66, List.forall_mem_cons.mpr ⟨poolT_67, List.forall_mem_cons.mpr ⟨poolT_68, List.forall_mem_cons.mpr ⟨poolT_69, List.forall_mem_cons.mpr ⟨poolT_70, List.forall_mem_cons.mpr ⟨poolT_71, List.forall_mem_cons.mpr ⟨poolT_72, List.forall_mem_cons.mpr ⟨poolT_73, List.forall_mem_cons.mpr ⟨poolT_74, List.forall_mem_cons.mpr ⟨poolT_75, List.forall_mem_cons.mpr ⟨poolT_76, List.forall_mem_cons.mpr ⟨poolT_77, List.forall_mem_cons.mpr ⟨poolT_78, List.forall_mem_cons.mpr ⟨poolT_79, List.forall_mem_nil _⟩⟩⟩⟩⟩⟩⟩⟩⟩⟩⟩⟩⟩⟩⟩⟩⟩⟩⟩⟩⟩⟩⟩⟩⟩⟩⟩⟩⟩⟩⟩⟩⟩⟩⟩⟩⟩⟩⟩⟩⟩⟩⟩⟩⟩⟩⟩⟩⟩⟩⟩⟩⟩⟩⟩⟩⟩⟩⟩⟩⟩⟩⟩⟩⟩⟩⟩⟩⟩⟩⟩⟩⟩⟩⟩⟩⟩⟩⟩⟩
theorem poolI_0 : IOK (3, 3, 128385) := Or.inr ⟨rfl, mt_1 (List.mem_of_getElem? (i := 44) rfl)⟩
theorem poolI_1 : IOK (4, 3, 128385) := Or.inr ⟨rfl, mt_2 (List.mem_of_getElem? (i := 45) rfl)⟩
theorem poolI_2 : IOK (5, 3, 128385) := Or.inr ⟨rfl, mt_1 (List.mem_of_getElem? (i := 143) rfl)⟩
theorem poolI_3 : IOK (5, 71, 11393) := Or.inl ⟨by decide, Or.inr ⟨_, mt_1 (List.mem_of_getElem? (i := 206) rfl)⟩, rfl, by decide, rfl, by decide⟩
theorem poolI_4 : IOK (6, 3, 128385) := Or.inr ⟨rfl, mt_2 (List.mem_of_getElem? (i := 82) rfl)⟩
theorem poolI_5 : IOK (8, 3, 128385) := Or.inr ⟨rfl, mt_2 (List.mem_of_getElem? (i := 20) rfl)⟩
theorem poolI_6 : IOK (9, 3, 128385) := Or.inr ⟨rfl, mt_1 (List.mem_of_getElem? (i := 38) rfl)⟩
theorem poolI_7 : IOK (9, 48, 1410) := Or.inl ⟨by decide, Or.inl (mt_1 (List.mem_of_getElem? (i := 41) rfl)), rfl, by decide, rfl, by decide⟩
theorem poolI_8 : IOK (10, 1, 128385) := Or.inr ⟨rfl, mt_1 (List.mem_of_getElem? (i := 30) rfl)⟩
theorem poolI_9 : IOK (10, 9, 11393) := Or.inl ⟨by decide, Or.inr ⟨_, mt_1 (List.mem_of_getElem? (i := 35) rfl)⟩, rfl, by decide, rfl, by decide⟩
theorem poolI_10 : IOK (10, 18, 4353) := Or.inl ⟨by decide, Or.inr ⟨_, mt_1 (List.mem_of_getElem? (i := 140) rfl)⟩, rfl, by decide, rfl, by decide⟩
theorem poolI_11 : IOK (10, 25, 10625) := Or.inl ⟨by decide, Or.inr ⟨_, mt_2 (List.mem_of_getElem? (i := 17) rfl)⟩, rfl, by decide, rfl, by decide⟩
theorem poolI_12 : IOK (10, 32, 2305) := Or.inl ⟨by decide, Or.inr ⟨_, mt_2 (List.mem_of_getElem? (i := 42) rfl)⟩, rfl, by decide, rfl, by decide⟩
theorem poolI_13 : IOK (10, 42, 7937) := Or.inl ⟨by decide, Or.inr ⟨_, mt_2 (List.mem_of_getElem? (i := 79) rfl)⟩, rfl, by decide, rfl, by decide⟩
theorem poolI_14 : IOK (11, 3, 128385) := Or.inr ⟨rfl, mt_6 (List.mem_of_getElem? (i := 177) rfl)⟩
theorem poolI_15 : IOK (12, 3, 128385) := Or.inr ⟨rfl, mt_6 (List.mem_of_getElem? (i := 34) rfl)⟩
theorem poolI_16 : IOK (12, 333, 24961) := Or.inl ⟨by decide, Or.inr ⟨_, mt_6 (List.mem_of_getElem? (i := 174) rfl)⟩, rfl, by decide, rfl, by decide⟩
theorem poolI_17 : IOK (15, 15, 12929) := Or.inl ⟨by decide, Or.inl (mt_1 (List.mem_of_getElem? (i := 27) rfl)), rfl, by decide, rfl, by decide⟩
theorem poolI_18 : IOK (15, 18, 25473) := Or.inl ⟨by decide, Or.inl (mt_6 (List.mem_of_getElem? (i := 31) rfl)), rfl, by decide, rfl, by decide⟩
set_option maxRecDepth 100000 in
theorem poolI_ok : ∀ x ∈ poolI, IOK x := List.forall_mem_cons.mpr ⟨poolI_0, List.forall_mem_cons.mpr ⟨poolI_1, List.forall_mem_cons.mpr ⟨poolI_2, List.forall_mem_cons.mpr ⟨poolI_3, List.forall_mem_cons.mpr ⟨poolI_4, List.forall_mem_cons.mpr ⟨poolI_5, List.forall_mem_cons.mpr ⟨poolI_6, List.forall_mem_cons.mpr ⟨poolI_7, List.forall_mem_cons.mpr ⟨poolI_8, List.forall_mem_cons.mpr ⟨poolI_9, List.forall_mem_cons.mpr ⟨poolI_10, List.forall_mem_cons.mpr ⟨poolI_11, List.forall_mem_cons.mpr ⟨poolI_12, List.forall_mem_cons.mpr ⟨poolI_13, List.forall_mem_cons.mpr ⟨poolI_14, List.forall_mem_cons.mpr ⟨poolI_15, List.forall_mem_cons.mpr ⟨poolI_16, List.forall_mem_cons.mpr ⟨poolI_17, List.forall_mem_cons.mpr ⟨poolI_18, List.forall_mem_nil _⟩⟩⟩⟩⟩⟩⟩⟩⟩⟩⟩⟩⟩⟩⟩⟩⟩⟩⟩
theorem wd_abs1 : Cond.static Lib.Math.abs.name ∈ lw_tbl := mt_3 (List.mem_of_getElem? (i := 189) rfl)
theorem wd_abs2 : Cond.code Lib.Math.abs.name Lib.Math.abs.code 1 (some .int) ∈ lw_tbl := mt_3 (List.mem_of_getElem? (i := 190) rfl)
theorem wd_max1 : Cond.static Lib.Math.max.name ∈ lw_tbl := mt_4 (List.mem_of_getElem? (i := 90) rfl)
theorem wd_max2 : Cond.code Lib.Math.max.name Lib.Math.max.code 2 (some .int) ∈ lw_tbl := mt_4 (List.mem_of_getElem? (i := 91) rfl)
theorem wd_min1 : Cond.static Lib.Math.min.name ∈ lw_tbl := mt_2 (List.mem_of_getElem? (i := 140) rfl)
theorem wd_min2 : Cond.code Lib.Math.min.name Lib.Math.min.code 2 (some .int) ∈ lw_tbl := mt_2 (List.mem_of_getElem? (i := 141) rfl)
theorem wd_math : Cond.initialized "java/lang/Math" ∈ lw_tbl := mt_1 (List.mem_of_getElem? (i := 13) rfl)
def poolK_P (x : Nat × Nat × Nat) : Prop := ∃ v, v = Int32.ofInt ((x.2.2 : Nat) : Int) ∧ Cond.constant (own x.1) x.2.1 v ∈ lw_tbl
theorem poolK_0 : poolK_P (6, 57, 65537) := ⟨(65537 : Int32), by decide +kernel, mt_5 (List.mem_of_getElem? (i := 139) rfl)⟩
theorem poolK_1 : poolK_P (7, 9, 181896) := ⟨(181896 : Int32), by decide +kernel, mt_3 (List.mem_of_getElem? (i := 207) rfl)⟩
theorem poolK_2 : poolK_P (10, 407, 65537) := ⟨(65537 : Int32), by decide +kernel, mt_5 (List.mem_of_getElem? (i := 130) rfl)⟩
theorem poolK_3 : poolK_P (12, 551, 65536) := ⟨(65536 : Int32), by decide +kernel, mt_9 (List.mem_of_getElem? (i := 122) rfl)⟩
theorem poolK_4 : poolK_P (13, 265, 1431655765) := ⟨(1431655765 : Int32), by decide +kernel, mt_3 (List.mem_of_getElem? (i := 137) rfl)⟩
theorem poolK_5 : poolK_P (13, 266, 858993459) := ⟨(858993459 : Int32), by decide +kernel, mt_3 (List.mem_of_getElem? (i := 138) rfl)⟩
theorem poolK_6 : poolK_P (13, 267, 252645135) := ⟨(252645135 : Int32), by decide +kernel, mt_3 (List.mem_of_getElem? (i := 139) rfl)⟩
theorem poolK_ok : ∀ x ∈ poolK, poolK_P x := List.forall_mem_cons.mpr ⟨poolK_0, List.forall_mem_cons.mpr ⟨poolK_1, List.forall_mem_cons.mpr ⟨poolK_2, List.forall_mem_cons.mpr ⟨poolK_3, List.forall_mem_cons.mpr ⟨poolK_4, List.forall_mem_cons.mpr ⟨poolK_5, List.forall_mem_cons.mpr ⟨poolK_6, List.forall_mem_nil _⟩⟩⟩⟩⟩⟩⟩
def poolL_P (x : Nat × Nat × Nat) : Prop := ∃ v, v = Int64.ofInt ((x.2.2 : Nat) : Int) ∧ Cond.constantLong (own x.1) x.2.1 v ∈ lw_tbl
theorem poolL_0 : poolL_P (5, 107, 27) := ⟨(27 : Int64), by decide +kernel, mt_1 (List.mem_of_getElem? (i := 158) rfl)⟩
theorem poolL_1 : poolL_P (5, 109, 97) := ⟨(97 : Int64), by decide +kernel, mt_1 (List.mem_of_getElem? (i := 197) rfl)⟩
theorem poolL_2 : poolL_P (5, 111, 10) := ⟨(10 : Int64), by decide +kernel, mt_2 (List.mem_of_getElem? (i := 158) rfl)⟩
theorem poolL_3 : poolL_P (5, 113, 48) := ⟨(48 : Int64), by decide +kernel, mt_2 (List.mem_of_getElem? (i := 159) rfl)⟩
theorem poolL_4 : poolL_P (12, 90, 32) := ⟨(32 : Int64), by decide +kernel, mt_7 (List.mem_of_getElem? (i := 41) rfl)⟩
theorem poolL_5 : poolL_P (12, 527, 100) := ⟨(100 : Int64), by decide +kernel, mt_9 (List.mem_of_getElem? (i := 97) rfl)⟩
theorem poolL_6 : poolL_P (12, 542, 75) := ⟨(75 : Int64), by decide +kernel, mt_9 (List.mem_of_getElem? (i := 127) rfl)⟩
theorem poolL_7 : poolL_P (12, 547, 74) := ⟨(74 : Int64), by decide +kernel, mt_9 (List.mem_of_getElem? (i := 128) rfl)⟩
theorem poolL_8 : poolL_P (12, 549, 65537) := ⟨(65537 : Int64), by decide +kernel, mt_9 (List.mem_of_getElem? (i := 129) rfl)⟩
theorem poolL_ok : ∀ x ∈ poolL, poolL_P x := List.forall_mem_cons.mpr ⟨poolL_0, List.forall_mem_cons.mpr ⟨poolL_1, List.forall_mem_cons.mpr ⟨poolL_2, List.forall_mem_cons.mpr ⟨poolL_3, List.forall_mem_cons.mpr ⟨poolL_4, List.forall_mem_cons.mpr ⟨poolL_5, List.forall_mem_cons.mpr ⟨poolL_6, List.forall_mem_cons.mpr ⟨poolL_7, List.forall_mem_cons.mpr ⟨poolL_8, List.forall_mem_nil _⟩⟩⟩⟩⟩⟩⟩⟩⟩
def poolS_P (x : Nat × Nat × Nat) : Prop := ∃ tx, (own x.1, x.2.1, tx, x.2.2) ∈ jsR
theorem poolS_0 : poolS_P (5, 9, 0) := ⟨_, List.mem_of_getElem? (i := 0) rfl⟩
theorem poolS_1 : poolS_P (5, 17, 1) := ⟨_, List.mem_of_getElem? (i := 1) rfl⟩
theorem poolS_2 : poolS_P (5, 19, 2) := ⟨_, List.mem_of_getElem? (i := 2) rfl⟩
theorem poolS_3 : poolS_P (5, 21, 3) := ⟨_, List.mem_of_getElem? (i := 3) rfl⟩
theorem poolS_4 : poolS_P (5, 23, 4) := ⟨_, List.mem_of_getElem? (i := 4) rfl⟩
theorem poolS_5 : poolS_P (5, 25, 5) := ⟨_, List.mem_of_getElem? (i := 5) rfl⟩
theorem poolS_6 : poolS_P (5, 27, 6) := ⟨_, List.mem_of_getElem? (i := 6) rfl⟩
theorem poolS_7 : poolS_P (5, 29, 7) := ⟨_, List.mem_of_getElem? (i := 7) rfl⟩
theorem poolS_8 : poolS_P (5, 181, 8) := ⟨_, List.mem_of_getElem? (i := 8) rfl⟩
theorem poolS_9 : poolS_P (5, 190, 9) := ⟨_, List.mem_of_getElem? (i := 9) rfl⟩
theorem poolS_10 : poolS_P (5, 191, 10) := ⟨_, List.mem_of_getElem? (i := 10) rfl⟩
theorem poolS_11 : poolS_P (5, 200, 11) := ⟨_, List.mem_of_getElem? (i := 11) rfl⟩
theorem poolS_12 : poolS_P (5, 205, 12) := ⟨_, List.mem_of_getElem? (i := 12) rfl⟩
theorem poolS_13 : poolS_P (5, 207, 13) := ⟨_, List.mem_of_getElem? (i := 13) rfl⟩
theorem poolS_14 : poolS_P (5, 209, 14) := ⟨_, List.mem_of_getElem? (i := 14) rfl⟩
theorem poolS_15 : poolS_P (5, 254, 15) := ⟨_, List.mem_of_getElem? (i := 15) rfl⟩
theorem poolS_16 : poolS_P (5, 256, 16) := ⟨_, List.mem_of_getElem? (i := 16) rfl⟩
theorem poolS_17 : poolS_P (12, 155, 0) := ⟨_, List.mem_of_getElem? (i := 17) rfl⟩
theorem poolS_18 : poolS_P (12, 157, 1) := ⟨_, List.mem_of_getElem? (i := 18) rfl⟩
theorem poolS_19 : poolS_P (12, 159, 2) := ⟨_, List.mem_of_getElem? (i := 19) rfl⟩
theorem poolS_20 : poolS_P (12, 161, 3) := ⟨_, List.mem_of_getElem? (i := 20) rfl⟩
theorem poolS_21 : poolS_P (12, 163, 4) := ⟨_, List.mem_of_getElem? (i := 21) rfl⟩
theorem poolS_22 : poolS_P (12, 165, 5) := ⟨_, List.mem_of_getElem? (i := 22) rfl⟩
theorem poolS_23 : poolS_P (12, 167, 6) := ⟨_, List.mem_of_getElem? (i := 23) rfl⟩
theorem poolS_24 : poolS_P (12, 169, 7) := ⟨_, List.mem_of_getElem? (i := 24) rfl⟩
theorem poolS_25 : poolS_P (12, 240, 8) := ⟨_, List.mem_of_getElem? (i := 25) rfl⟩
theorem poolS_26 : poolS_P (12, 245, 9) := ⟨_, List.mem_of_getElem? (i := 26) rfl⟩
theorem poolS_27 : poolS_P (12, 247, 10) := ⟨_, List.mem_of_getElem? (i := 27) rfl⟩
theorem poolS_28 : poolS_P (12, 261, 11) := ⟨_, List.mem_of_getElem? (i := 28) rfl⟩
theorem poolS_29 : poolS_P (12, 263, 12) := ⟨_, List.mem_of_getElem? (i := 29) rfl⟩
theorem poolS_30 : poolS_P (12, 265, 13) := ⟨_, List.mem_of_getElem? (i := 30) rfl⟩
theorem poolS_31 : poolS_P (12, 267, 14) := ⟨_, List.mem_of_getElem? (i := 31) rfl⟩
theorem poolS_32 : poolS_P (12, 319, 15) := ⟨_, List.mem_of_getElem? (i := 32) rfl⟩
theorem poolS_33 : poolS_P (12, 321, 16) := ⟨_, List.mem_of_getElem? (i := 33) rfl⟩
theorem poolS_ok : ∀ x ∈ poolS, poolS_P x := List.forall_mem_cons.mpr ⟨poolS_0, List.forall_mem_cons.mpr ⟨poolS_1, List.forall_mem_cons.mpr ⟨poolS_2, List.forall_mem_cons.mpr ⟨poolS_3, List.forall_mem_cons.mpr ⟨poolS_4, List.forall_mem_cons.mpr ⟨poolS_5, List.forall_mem_cons.mpr ⟨poolS_6, List.forall_mem_cons.mpr ⟨poolS_7, List.forall_mem_cons.mpr ⟨poolS_8, List.forall_mem_cons.mpr ⟨poolS_9, List.forall_mem_cons.mpr ⟨poolS_10, List.forall_mem_cons.mpr ⟨poolS_11, List.forall_mem_cons.mpr ⟨poolS_12, List.forall_mem_cons.mpr ⟨poolS_13, List.forall_mem_cons.mpr ⟨poolS_14, List.forall_mem_cons.mpr ⟨poolS_15, List.forall_mem_cons.mpr ⟨poolS_16, List.forall_mem_cons.mpr ⟨poolS_17, List.forall_mem_cons.mpr ⟨poolS_18, List.forall_mem_cons.mpr ⟨poolS_19, List.forall_mem_cons.mpr ⟨poolS_20, List.forall_mem_cons.mpr ⟨poolS_21, List.forall_mem_cons.mpr ⟨poolS_22, List.forall_mem_cons.mpr ⟨poolS_23, List.forall_mem_cons.mpr ⟨poolS_24, List.forall_mem_cons.mpr ⟨poolS_25, List.forall_mem_cons.mpr ⟨poolS_26, List.forall_mem_cons.mpr ⟨poolS_27, List.forall_mem_cons.mpr ⟨poolS_28, List.forall_mem_cons.mpr ⟨poolS_29, List.forall_mem_cons.mpr ⟨poolS_30, List.forall_mem_cons.mpr ⟨poolS_31, List.forall_mem_cons.mpr ⟨poolS_32, List.forall_mem_cons.mpr ⟨poolS_33, List.forall_mem_nil _⟩⟩⟩⟩⟩⟩⟩⟩⟩⟩⟩⟩⟩⟩⟩⟩⟩⟩⟩⟩⟩⟩⟩⟩⟩⟩⟩⟩⟩⟩⟩⟩⟩⟩
def poolN_P (x : Nat × Nat × Nat) : Prop := x.2.2 = 99 ∧ Cond.classLink (own x.1) x.2.1 "java/util/NoSuchElementException" ∈ lw_tbl ∨ 10 ≤ x.2.2 ∧ x.2.2 < 19 ∧ ∃ C T N, vwCl[x.2.2 - 10]? = some (C, T, N) ∧ Cond.classLink (own x.1) x.2.1 C ∈ lw_tbl
theorem poolN_0 : poolN_P (5, 69, 15) := Or.inr ⟨by decide, by decide, _, _, _, rfl, mt_1 (List.mem_of_getElem? (i := 205) rfl)⟩
theorem poolN_1 : poolN_P (9, 46, 10) := Or.inr ⟨by decide, by decide, _, _, _, rfl, mt_1 (List.mem_of_getElem? (i := 39) rfl)⟩
theorem poolN_2 : poolN_P (10, 7, 15) := Or.inr ⟨by decide, by decide, _, _, _, rfl, mt_1 (List.mem_of_getElem? (i := 33) rfl)⟩
theorem poolN_3 : poolN_P (10, 16, 12) := Or.inr ⟨by decide, by decide, _, _, _, rfl, mt_1 (List.mem_of_getElem? (i := 138) rfl)⟩
theorem poolN_4 : poolN_P (10, 23, 14) := Or.inr ⟨by decide, by decide, _, _, _, rfl, mt_2 (List.mem_of_getElem? (i := 15) rfl)⟩
theorem poolN_5 : poolN_P (10, 30, 11) := Or.inr ⟨by decide, by decide, _, _, _, rfl, mt_2 (List.mem_of_getElem? (i := 40) rfl)⟩
theorem poolN_6 : poolN_P (10, 40, 13) := Or.inr ⟨by decide, by decide, _, _, _, rfl, mt_2 (List.mem_of_getElem? (i := 77) rfl)⟩
theorem poolN_7 : poolN_P (10, 392, 99) := Or.inl ⟨rfl, mt_5 (List.mem_of_getElem? (i := 208) rfl)⟩
theorem poolN_8 : poolN_P (12, 176, 17) := Or.inr ⟨by decide, by decide, _, _, _, rfl, mt_6 (List.mem_of_getElem? (i := 172) rfl)⟩
theorem poolN_9 : poolN_P (15, 8, 16) := Or.inr ⟨by decide, by decide, _, _, _, rfl, mt_1 (List.mem_of_getElem? (i := 25) rfl)⟩
theorem poolN_10 : poolN_P (15, 16, 18) := Or.inr ⟨by decide, by decide, _, _, _, rfl, mt_6 (List.mem_of_getElem? (i := 29) rfl)⟩
theorem poolN_ok : ∀ x ∈ poolN, poolN_P x := List.forall_mem_cons.mpr ⟨poolN_0, List.forall_mem_cons.mpr ⟨poolN_1, List.forall_mem_cons.mpr ⟨poolN_2, List.forall_mem_cons.mpr ⟨poolN_3, List.forall_mem_cons.mpr ⟨poolN_4, List.forall_mem_cons.mpr ⟨poolN_5, List.forall_mem_cons.mpr ⟨poolN_6, List.forall_mem_cons.mpr ⟨poolN_7, List.forall_mem_cons.mpr ⟨poolN_8, List.forall_mem_cons.mpr ⟨poolN_9, List.forall_mem_cons.mpr ⟨poolN_10, List.forall_mem_nil _⟩⟩⟩⟩⟩⟩⟩⟩⟩⟩⟩
