theorem mt_s {w : Cond} (h : w ∈ k2_sels lw_privs) : w ∈ lw_tbl := List.mem_append_left _ h
theorem mt_1 {w : Cond} (h : w ∈ tables_1_1) : w ∈ lw_tbl := List.mem_append_right _ (by unfold tables_1; exact List.mem_append_left _ h)
theorem mt_2 {w : Cond} (h : w ∈ tables_1_2) : w ∈ lw_tbl := List.mem_append_right _ (by unfold tables_1; exact List.mem_append_right _ (List.mem_append_left _ h))
theorem mt_3 {w : Cond} (h : w ∈ tables_1_3) : w ∈ lw_tbl := List.mem_append_right _ (by unfold tables_1; exact List.mem_append_right _ (List.mem_append_right _ (List.mem_append_left _ h)))
theorem mt_4 {w : Cond} (h : w ∈ tables_1_4) : w ∈ lw_tbl := List.mem_append_right _ (by unfold tables_1; exact List.mem_append_right _ (List.mem_append_right _ (List.mem_append_right _ (List.mem_append_left _ h))))
theorem mt_5 {w : Cond} (h : w ∈ tables_1_5) : w ∈ lw_tbl := List.mem_append_right _ (by unfold tables_1; exact List.mem_append_right _ (List.mem_append_right _ (List.mem_append_right _ (List.mem_append_right _ (List.mem_append_left _ h)))))
theorem mt_6 {w : Cond} (h : w ∈ tables_1_6) : w ∈ lw_tbl := List.mem_append_right _ (by unfold tables_1; exact List.mem_append_right _ (List.mem_append_right _ (List.mem_append_right _ (List.mem_append_right _ (List.mem_append_right _ (List.mem_append_left _ h))))))
theorem mt_7 {w : Cond} (h : w ∈ tables_1_7) : w ∈ lw_tbl := List.mem_append_right _ (by unfold tables_1; exact List.mem_append_right _ (List.mem_append_right _ (List.mem_append_right _ (List.mem_append_right _ (List.mem_append_right _ (List.mem_append_right _ (List.mem_append_left _ h)))))))
theorem mt_8 {w : Cond} (h : w ∈ tables_1_8) : w ∈ lw_tbl := List.mem_append_right _ (by unfold tables_1; exact List.mem_append_right _ (List.mem_append_right _ (List.mem_append_right _ (List.mem_append_right _ (List.mem_append_right _ (List.mem_append_right _ (List.mem_append_right _ (List.mem_append_left _ h))))))))
theorem mt_9 {w : Cond} (h : w ∈ tables_1_9) : w ∈ lw_tbl := List.mem_append_right _ (by unfold tables_1; exact List.mem_append_right _ (List.mem_append_right _ (List.mem_append_right _ (List.mem_append_right _ (List.mem_append_right _ (List.mem_append_right _ (List.mem_append_right _ (List.mem_append_right _ (h)))))))))
def ownS : List String := [RX0, RX1, RX2, RX3, RX4, RX5, RX6, RX7, RX8, RX9, RX10, RX11, RX12, RJ6, RJ9, RL]
def own (o : Nat) : String := ownS.getD o ""
def ftR (ty : FieldType) (f : Nat) : Prop := match f with
  | 0 => ty = .int
  | 1 => ty = .long
  | 2 => ty = .boolean
  | 3 => False
  | _ + 4 => (∃ n, ty = .object n) ∨ ∃ t, ty = .array t
def ClsOK (t : Nat) : Prop := ∃ (C : String) (T : u_T) (N : Nat) (tf : Nat → FieldType), vwCl[t - 10]? = some (C, T, N) ∧ N = (fty t).length ∧ (∀ w ∈ u_ws C T N, w ∈ lw_tbl) ∧ (∀ w ∈ u_ws C T N, cw w = true ∧ w.onTables = true) ∧ (∀ k, k < N → parseFieldDescriptor (T k).2.2.1 = some (tf k)) ∧ (∀ a, a < N → ∀ b, b < N → a ≠ b → (T a).2.1 ≠ (T b).2.1) ∧ (∀ j, j < N → ftR (tf j) ((fty t).getD j 0)) ∧ Cond.initialized C ∈ lw_tbl ∧ Cond.instantiable C N ∈ lw_tbl ∧ (∀ j, j < N → (finE.contains (t * 64 + j) = (T j).2.2.2))
set_option maxRecDepth 100000 in
theorem ci_10 : ∀ w ∈ u_ws RX3 TX3 4, w ∈ lw_tbl := List.forall_mem_cons.mpr ⟨mt_1 (List.mem_of_getElem? (i := 53) rfl), List.forall_mem_cons.mpr ⟨mt_1 (List.mem_of_getElem? (i := 55) rfl), List.forall_mem_cons.mpr ⟨mt_1 (List.mem_of_getElem? (i := 57) rfl), List.forall_mem_cons.mpr ⟨mt_1 (List.mem_of_getElem? (i := 59) rfl), List.forall_mem_nil _⟩⟩⟩⟩
set_option maxRecDepth 100000 in
theorem ck_10 : ∀ w ∈ u_ws RX3 TX3 4, cw w = true ∧ w.onTables = true := by
  intro w hw
  obtain ⟨j, hj, rfl⟩ := List.mem_map.mp hw
  unfold u_lay
  split <;> exact ⟨rfl, rfl⟩
theorem cs_10 : ∀ j, j < 4 → ftR (tyX3 j) ((fty 10).getD j 0)
  | 0, _ => Or.inr ⟨_, rfl⟩
  | 1, _ => Or.inr ⟨_, rfl⟩
  | 2, _ => Or.inr ⟨_, rfl⟩
  | 3, _ => rfl
  | j + 4, h => absurd h (by omega)
set_option maxRecDepth 100000 in
theorem cls_10 : ClsOK 10 := ⟨RX3, TX3, 4, tyX3, rfl, rfl, ci_10, ck_10, tyX3_ok, nmX3, cs_10, mt_1 (List.mem_of_getElem? (i := 3) rfl), mt_1 (List.mem_of_getElem? (i := 40) rfl), by decide +kernel⟩
set_option maxRecDepth 100000 in
theorem ci_11 : ∀ w ∈ u_ws RX4 TX4 9, w ∈ lw_tbl := List.forall_mem_cons.mpr ⟨mt_2 (List.mem_of_getElem? (i := 58) rfl), List.forall_mem_cons.mpr ⟨mt_2 (List.mem_of_getElem? (i := 60) rfl), List.forall_mem_cons.mpr ⟨mt_2 (List.mem_of_getElem? (i := 62) rfl), List.forall_mem_cons.mpr ⟨mt_2 (List.mem_of_getElem? (i := 64) rfl), List.forall_mem_cons.mpr ⟨mt_2 (List.mem_of_getElem? (i := 66) rfl), List.forall_mem_cons.mpr ⟨mt_2 (List.mem_of_getElem? (i := 68) rfl), List.forall_mem_cons.mpr ⟨mt_2 (List.mem_of_getElem? (i := 70) rfl), List.forall_mem_cons.mpr ⟨mt_2 (List.mem_of_getElem? (i := 72) rfl), List.forall_mem_cons.mpr ⟨mt_2 (List.mem_of_getElem? (i := 74) rfl), List.forall_mem_nil _⟩⟩⟩⟩⟩⟩⟩⟩⟩
set_option maxRecDepth 100000 in
theorem ck_11 : ∀ w ∈ u_ws RX4 TX4 9, cw w = true ∧ w.onTables = true := by
  intro w hw
  obtain ⟨j, hj, rfl⟩ := List.mem_map.mp hw
  unfold u_lay
  split <;> exact ⟨rfl, rfl⟩
theorem cs_11 : ∀ j, j < 9 → ftR (tyX4 j) ((fty 11).getD j 0)
  | 0, _ => rfl
  | 1, _ => rfl
  | 2, _ => rfl
  | 3, _ => Or.inr ⟨_, rfl⟩
  | 4, _ => Or.inr ⟨_, rfl⟩
  | 5, _ => Or.inr ⟨_, rfl⟩
  | 6, _ => Or.inr ⟨_, rfl⟩
  | 7, _ => Or.inr ⟨_, rfl⟩
  | 8, _ => Or.inr ⟨_, rfl⟩
  | j + 9, h => absurd h (by omega)
set_option maxRecDepth 100000 in
theorem cls_11 : ClsOK 11 := ⟨RX4, TX4, 9, tyX4, rfl, rfl, ci_11, ck_11, tyX4_ok, nmX4, cs_11, mt_1 (List.mem_of_getElem? (i := 10) rfl), mt_2 (List.mem_of_getElem? (i := 41) rfl), by decide +kernel⟩
set_option maxRecDepth 100000 in
theorem ci_12 : ∀ w ∈ u_ws RX5 TX5 14, w ∈ lw_tbl := List.forall_mem_cons.mpr ⟨mt_1 (List.mem_of_getElem? (i := 224) rfl), List.forall_mem_cons.mpr ⟨mt_1 (List.mem_of_getElem? (i := 226) rfl), List.forall_mem_cons.mpr ⟨mt_1 (List.mem_of_getElem? (i := 228) rfl), List.forall_mem_cons.mpr ⟨mt_1 (List.mem_of_getElem? (i := 230) rfl), List.forall_mem_cons.mpr ⟨mt_1 (List.mem_of_getElem? (i := 232) rfl), List.forall_mem_cons.mpr ⟨mt_1 (List.mem_of_getElem? (i := 234) rfl), List.forall_mem_cons.mpr ⟨mt_1 (List.mem_of_getElem? (i := 236) rfl), List.forall_mem_cons.mpr ⟨mt_1 (List.mem_of_getElem? (i := 238) rfl), List.forall_mem_cons.mpr ⟨mt_2 (List.mem_of_getElem? (i := 0) rfl), List.forall_mem_cons.mpr ⟨mt_2 (List.mem_of_getElem? (i := 2) rfl), List.forall_mem_cons.mpr ⟨mt_2 (List.mem_of_getElem? (i := 4) rfl), List.forall_mem_cons.mpr ⟨mt_2 (List.mem_of_getElem? (i := 6) rfl), List.forall_mem_cons.mpr ⟨mt_2 (List.mem_of_getElem? (i := 8) rfl), List.forall_mem_cons.mpr ⟨mt_2 (List.mem_of_getElem? (i := 10) rfl), List.forall_mem_nil _⟩⟩⟩⟩⟩⟩⟩⟩⟩⟩⟩⟩⟩⟩
set_option maxRecDepth 100000 in
theorem ck_12 : ∀ w ∈ u_ws RX5 TX5 14, cw w = true ∧ w.onTables = true := by
  intro w hw
  obtain ⟨j, hj, rfl⟩ := List.mem_map.mp hw
  unfold u_lay
  split <;> exact ⟨rfl, rfl⟩
theorem cs_12 : ∀ j, j < 14 → ftR (tyX5 j) ((fty 12).getD j 0)
  | 0, _ => Or.inr ⟨_, rfl⟩
  | 1, _ => Or.inr ⟨_, rfl⟩
  | 2, _ => rfl
  | 3, _ => rfl
  | 4, _ => rfl
  | 5, _ => rfl
  | 6, _ => rfl
  | 7, _ => rfl
  | 8, _ => Or.inr ⟨_, rfl⟩
  | 9, _ => Or.inr ⟨_, rfl⟩
  | 10, _ => rfl
  | 11, _ => Or.inl ⟨_, rfl⟩
  | 12, _ => rfl
  | 13, _ => rfl
  | j + 14, h => absurd h (by omega)
set_option maxRecDepth 100000 in
theorem cls_12 : ClsOK 12 := ⟨RX5, TX5, 14, tyX5, rfl, rfl, ci_12, ck_12, tyX5_ok, nmX5, cs_12, mt_1 (List.mem_of_getElem? (i := 4) rfl), mt_1 (List.mem_of_getElem? (i := 139) rfl), by decide +kernel⟩
set_option maxRecDepth 100000 in
theorem ci_13 : ∀ w ∈ u_ws RX6 TX6 4, w ∈ lw_tbl := List.forall_mem_cons.mpr ⟨mt_2 (List.mem_of_getElem? (i := 88) rfl), List.forall_mem_cons.mpr ⟨mt_2 (List.mem_of_getElem? (i := 90) rfl), List.forall_mem_cons.mpr ⟨mt_2 (List.mem_of_getElem? (i := 92) rfl), List.forall_mem_cons.mpr ⟨mt_2 (List.mem_of_getElem? (i := 94) rfl), List.forall_mem_nil _⟩⟩⟩⟩
set_option maxRecDepth 100000 in
theorem ck_13 : ∀ w ∈ u_ws RX6 TX6 4, cw w = true ∧ w.onTables = true := by
  intro w hw
  obtain ⟨j, hj, rfl⟩ := List.mem_map.mp hw
  unfold u_lay
  split <;> exact ⟨rfl, rfl⟩
theorem cs_13 : ∀ j, j < 4 → ftR (tyX6 j) ((fty 13).getD j 0)
  | 0, _ => Or.inr ⟨_, rfl⟩
  | 1, _ => Or.inr ⟨_, rfl⟩
  | 2, _ => rfl
  | 3, _ => rfl
  | j + 4, h => absurd h (by omega)
set_option maxRecDepth 100000 in
theorem cls_13 : ClsOK 13 := ⟨RX6, TX6, 4, tyX6, rfl, rfl, ci_13, ck_13, tyX6_ok, nmX6, cs_13, mt_1 (List.mem_of_getElem? (i := 11) rfl), mt_2 (List.mem_of_getElem? (i := 78) rfl), by decide +kernel⟩
set_option maxRecDepth 100000 in
theorem ci_14 : ∀ w ∈ u_ws RX8 TX8 5, w ∈ lw_tbl := List.forall_mem_cons.mpr ⟨mt_2 (List.mem_of_getElem? (i := 29) rfl), List.forall_mem_cons.mpr ⟨mt_2 (List.mem_of_getElem? (i := 31) rfl), List.forall_mem_cons.mpr ⟨mt_2 (List.mem_of_getElem? (i := 33) rfl), List.forall_mem_cons.mpr ⟨mt_2 (List.mem_of_getElem? (i := 35) rfl), List.forall_mem_cons.mpr ⟨mt_2 (List.mem_of_getElem? (i := 37) rfl), List.forall_mem_nil _⟩⟩⟩⟩⟩
set_option maxRecDepth 100000 in
theorem ck_14 : ∀ w ∈ u_ws RX8 TX8 5, cw w = true ∧ w.onTables = true := by
  intro w hw
  obtain ⟨j, hj, rfl⟩ := List.mem_map.mp hw
  unfold u_lay
  split <;> exact ⟨rfl, rfl⟩
theorem cs_14 : ∀ j, j < 5 → ftR (tyX8 j) ((fty 14).getD j 0)
  | 0, _ => rfl
  | 1, _ => Or.inr ⟨_, rfl⟩
  | 2, _ => rfl
  | 3, _ => Or.inr ⟨_, rfl⟩
  | 4, _ => rfl
  | j + 5, h => absurd h (by omega)
set_option maxRecDepth 100000 in
theorem cls_14 : ClsOK 14 := ⟨RX8, TX8, 5, tyX8, rfl, rfl, ci_14, ck_14, tyX8_ok, nmX8, cs_14, mt_1 (List.mem_of_getElem? (i := 9) rfl), mt_2 (List.mem_of_getElem? (i := 16) rfl), by decide +kernel⟩
set_option maxRecDepth 100000 in
theorem ci_15 : ∀ w ∈ u_ws RX9 TX9 14, w ∈ lw_tbl := List.forall_mem_cons.mpr ⟨mt_1 (List.mem_of_getElem? (i := 109) rfl), List.forall_mem_cons.mpr ⟨mt_1 (List.mem_of_getElem? (i := 111) rfl), List.forall_mem_cons.mpr ⟨mt_1 (List.mem_of_getElem? (i := 113) rfl), List.forall_mem_cons.mpr ⟨mt_1 (List.mem_of_getElem? (i := 115) rfl), List.forall_mem_cons.mpr ⟨mt_1 (List.mem_of_getElem? (i := 117) rfl), List.forall_mem_cons.mpr ⟨mt_1 (List.mem_of_getElem? (i := 119) rfl), List.forall_mem_cons.mpr ⟨mt_1 (List.mem_of_getElem? (i := 121) rfl), List.forall_mem_cons.mpr ⟨mt_1 (List.mem_of_getElem? (i := 123) rfl), List.forall_mem_cons.mpr ⟨mt_1 (List.mem_of_getElem? (i := 125) rfl), List.forall_mem_cons.mpr ⟨mt_1 (List.mem_of_getElem? (i := 127) rfl), List.forall_mem_cons.mpr ⟨mt_1 (List.mem_of_getElem? (i := 129) rfl), List.forall_mem_cons.mpr ⟨mt_1 (List.mem_of_getElem? (i := 131) rfl), List.forall_mem_cons.mpr ⟨mt_1 (List.mem_of_getElem? (i := 133) rfl), List.forall_mem_cons.mpr ⟨mt_1 (List.mem_of_getElem? (i := 135) rfl), List.forall_mem_nil _⟩⟩⟩⟩⟩⟩⟩⟩⟩⟩⟩⟩⟩⟩
set_option maxRecDepth 100000 in
theorem ck_15 : ∀ w ∈ u_ws RX9 TX9 14, cw w = true ∧ w.onTables = true := by
  intro w hw
  obtain ⟨j, hj, rfl⟩ := List.mem_map.mp hw
  unfold u_lay
  split <;> exact ⟨rfl, rfl⟩
theorem cs_15 : ∀ j, j < 14 → ftR (tyX9 j) ((fty 15).getD j 0)
  | 0, _ => rfl
  | 1, _ => rfl
  | 2, _ => rfl
  | 3, _ => rfl
  | 4, _ => rfl
  | 5, _ => rfl
  | 6, _ => Or.inr ⟨_, rfl⟩
  | 7, _ => Or.inr ⟨_, rfl⟩
  | 8, _ => Or.inr ⟨_, rfl⟩
  | 9, _ => Or.inr ⟨_, rfl⟩
  | 10, _ => Or.inr ⟨_, rfl⟩
  | 11, _ => Or.inl ⟨_, rfl⟩
  | 12, _ => Or.inl ⟨_, rfl⟩
  | 13, _ => Or.inl ⟨_, rfl⟩
  | j + 14, h => absurd h (by omega)
set_option maxRecDepth 100000 in
theorem cls_15 : ClsOK 15 := ⟨RX9, TX9, 14, tyX9, rfl, rfl, ci_15, ck_15, tyX9_ok, nmX9, cs_15, mt_1 (List.mem_of_getElem? (i := 2) rfl), mt_1 (List.mem_of_getElem? (i := 34) rfl), by decide +kernel⟩
set_option maxRecDepth 100000 in
theorem ci_16 : ∀ w ∈ u_ws RX10 TX10 7, w ∈ lw_tbl := List.forall_mem_cons.mpr ⟨mt_2 (List.mem_of_getElem? (i := 104) rfl), List.forall_mem_cons.mpr ⟨mt_2 (List.mem_of_getElem? (i := 106) rfl), List.forall_mem_cons.mpr ⟨mt_2 (List.mem_of_getElem? (i := 108) rfl), List.forall_mem_cons.mpr ⟨mt_2 (List.mem_of_getElem? (i := 110) rfl), List.forall_mem_cons.mpr ⟨mt_2 (List.mem_of_getElem? (i := 112) rfl), List.forall_mem_cons.mpr ⟨mt_2 (List.mem_of_getElem? (i := 114) rfl), List.forall_mem_cons.mpr ⟨mt_2 (List.mem_of_getElem? (i := 116) rfl), List.forall_mem_nil _⟩⟩⟩⟩⟩⟩⟩
set_option maxRecDepth 100000 in
theorem ck_16 : ∀ w ∈ u_ws RX10 TX10 7, cw w = true ∧ w.onTables = true := by
  intro w hw
  obtain ⟨j, hj, rfl⟩ := List.mem_map.mp hw
  unfold u_lay
  split <;> exact ⟨rfl, rfl⟩
theorem cs_16 : ∀ j, j < 7 → ftR (tyX10 j) ((fty 16).getD j 0)
  | 0, _ => Or.inl ⟨_, rfl⟩
  | 1, _ => Or.inl ⟨_, rfl⟩
  | 2, _ => Or.inl ⟨_, rfl⟩
  | 3, _ => Or.inl ⟨_, rfl⟩
  | 4, _ => Or.inl ⟨_, rfl⟩
  | 5, _ => Or.inl ⟨_, rfl⟩
  | 6, _ => rfl
  | j + 7, h => absurd h (by omega)
set_option maxRecDepth 100000 in
theorem cls_16 : ClsOK 16 := ⟨RX10, TX10, 7, tyX10, rfl, rfl, ci_16, ck_16, tyX10_ok, nmX10, cs_16, mt_1 (List.mem_of_getElem? (i := 1) rfl), mt_1 (List.mem_of_getElem? (i := 26) rfl), by decide +kernel⟩
set_option maxRecDepth 100000 in
theorem ci_17 : ∀ w ∈ u_ws RX11 TX11 25, w ∈ lw_tbl := List.forall_mem_cons.mpr ⟨mt_6 (List.mem_of_getElem? (i := 219) rfl), List.forall_mem_cons.mpr ⟨mt_6 (List.mem_of_getElem? (i := 221) rfl), List.forall_mem_cons.mpr ⟨mt_6 (List.mem_of_getElem? (i := 223) rfl), List.forall_mem_cons.mpr ⟨mt_6 (List.mem_of_getElem? (i := 225) rfl), List.forall_mem_cons.mpr ⟨mt_6 (List.mem_of_getElem? (i := 227) rfl), List.forall_mem_cons.mpr ⟨mt_6 (List.mem_of_getElem? (i := 229) rfl), List.forall_mem_cons.mpr ⟨mt_6 (List.mem_of_getElem? (i := 231) rfl), List.forall_mem_cons.mpr ⟨mt_6 (List.mem_of_getElem? (i := 233) rfl), List.forall_mem_cons.mpr ⟨mt_6 (List.mem_of_getElem? (i := 235) rfl), List.forall_mem_cons.mpr ⟨mt_6 (List.mem_of_getElem? (i := 237) rfl), List.forall_mem_cons.mpr ⟨mt_6 (List.mem_of_getElem? (i := 239) rfl), List.forall_mem_cons.mpr ⟨mt_7 (List.mem_of_getElem? (i := 1) rfl), List.forall_mem_cons.mpr ⟨mt_7 (List.mem_of_getElem? (i := 3) rfl), List.forall_mem_cons.mpr ⟨mt_7 (List.mem_of_getElem? (i := 5) rfl), List.forall_mem_cons.mpr ⟨mt_7 (List.mem_of_getElem? (i := 7) rfl), List.forall_mem_cons.mpr ⟨mt_7 (List.mem_of_getElem? (i := 9) rfl), List.forall_mem_cons.mpr ⟨mt_7 (List.mem_of_getElem? (i := 11) rfl), List.forall_mem_cons.mpr ⟨mt_7 (List.mem_of_getElem? (i := 13) rfl), List.forall_mem_cons.mpr ⟨mt_7 (List.mem_of_getElem? (i := 15) rfl), List.forall_mem_cons.mpr ⟨mt_7 (List.mem_of_getElem? (i := 17) rfl), List.forall_mem_cons.mpr ⟨mt_7 (List.mem_of_getElem? (i := 19) rfl), List.forall_mem_cons.mpr ⟨mt_7 (List.mem_of_getElem? (i := 21) rfl), List.forall_mem_cons.mpr ⟨mt_7 (List.mem_of_getElem? (i := 23) rfl), List.forall_mem_cons.mpr ⟨mt_7 (List.mem_of_getElem? (i := 25) rfl), List.forall_mem_cons.mpr ⟨mt_7 (List.mem_of_getElem? (i := 27) rfl), List.forall_mem_nil _⟩⟩⟩⟩⟩⟩⟩⟩⟩⟩⟩⟩⟩⟩⟩⟩⟩⟩⟩⟩⟩⟩⟩⟩⟩
set_option maxRecDepth 100000 in
theorem ck_17 : ∀ w ∈ u_ws RX11 TX11 25, cw w = true ∧ w.onTables = true := by
  intro w hw
  obtain ⟨j, hj, rfl⟩ := List.mem_map.mp hw
  unfold u_lay
  split <;> exact ⟨rfl, rfl⟩
theorem cs_17 : ∀ j, j < 25 → ftR (tyX11 j) ((fty 17).getD j 0)
  | 0, _ => rfl
  | 1, _ => rfl
  | 2, _ => rfl
  | 3, _ => rfl
  | 4, _ => rfl
  | 5, _ => rfl
  | 6, _ => rfl
  | 7, _ => rfl
  | 8, _ => rfl
  | 9, _ => rfl
  | 10, _ => Or.inr ⟨_, rfl⟩
  | 11, _ => Or.inr ⟨_, rfl⟩
  | 12, _ => Or.inr ⟨_, rfl⟩
  | 13, _ => Or.inr ⟨_, rfl⟩
  | 14, _ => Or.inr ⟨_, rfl⟩
  | 15, _ => Or.inr ⟨_, rfl⟩
  | 16, _ => rfl
  | 17, _ => rfl
  | 18, _ => Or.inr ⟨_, rfl⟩
  | 19, _ => Or.inr ⟨_, rfl⟩
  | 20, _ => Or.inr ⟨_, rfl⟩
  | 21, _ => Or.inr ⟨_, rfl⟩
  | 22, _ => Or.inr ⟨_, rfl⟩
  | 23, _ => Or.inr ⟨_, rfl⟩
  | 24, _ => Or.inr ⟨_, rfl⟩
  | j + 25, h => absurd h (by omega)
set_option maxRecDepth 100000 in
theorem cls_17 : ClsOK 17 := ⟨RX11, TX11, 25, tyX11, rfl, rfl, ci_17, ck_17, tyX11_ok, nmX11, cs_17, mt_1 (List.mem_of_getElem? (i := 15) rfl), mt_6 (List.mem_of_getElem? (i := 173) rfl), by decide +kernel⟩
set_option maxRecDepth 100000 in
theorem ci_18 : ∀ w ∈ u_ws RX12 TX12 40, w ∈ lw_tbl := List.forall_mem_cons.mpr ⟨mt_6 (List.mem_of_getElem? (i := 75) rfl), List.forall_mem_cons.mpr ⟨mt_6 (List.mem_of_getElem? (i := 77) rfl), List.forall_mem_cons.mpr ⟨mt_6 (List.mem_of_getElem? (i := 79) rfl), List.forall_mem_cons.mpr ⟨mt_6 (List.mem_of_getElem? (i := 81) rfl), List.forall_mem_cons.mpr ⟨mt_6 (List.mem_of_getElem? (i := 83) rfl), List.forall_mem_cons.mpr ⟨mt_6 (List.mem_of_getElem? (i := 85) rfl), List.forall_mem_cons.mpr ⟨mt_6 (List.mem_of_getElem? (i := 87) rfl), List.forall_mem_cons.mpr ⟨mt_6 (List.mem_of_getElem? (i := 89) rfl), List.forall_mem_cons.mpr ⟨mt_6 (List.mem_of_getElem? (i := 91) rfl), List.forall_mem_cons.mpr ⟨mt_6 (List.mem_of_getElem? (i := 93) rfl), List.forall_mem_cons.mpr ⟨mt_6 (List.mem_of_getElem? (i := 95) rfl), List.forall_mem_cons.mpr ⟨mt_6 (List.mem_of_getElem? (i := 97) rfl), List.forall_mem_cons.mpr ⟨mt_6 (List.mem_of_getElem? (i := 99) rfl), List.forall_mem_cons.mpr ⟨mt_6 (List.mem_of_getElem? (i := 101) rfl), List.forall_mem_cons.mpr ⟨mt_6 (List.mem_of_getElem? (i := 103) rfl), List.forall_mem_cons.mpr ⟨mt_6 (List.mem_of_getElem? (i := 105) rfl), List.forall_mem_cons.mpr ⟨mt_6 (List.mem_of_getElem? (i := 107) rfl), List.forall_mem_cons.mpr ⟨mt_6 (List.mem_of_getElem? (i := 109) rfl), List.forall_mem_cons.mpr ⟨mt_6 (List.mem_of_getElem? (i := 111) rfl), List.forall_mem_cons.mpr ⟨mt_6 (List.mem_of_getElem? (i := 113) rfl), List.forall_mem_cons.mpr ⟨mt_6 (List.mem_of_getElem? (i := 115) rfl), List.forall_mem_cons.mpr ⟨mt_6 (List.mem_of_getElem? (i := 117) rfl), List.forall_mem_cons.mpr ⟨mt_6 (List.mem_of_getElem? (i := 119) rfl), List.forall_mem_cons.mpr ⟨mt_6 (List.mem_of_getElem? (i := 121) rfl), List.forall_mem_cons.mpr ⟨mt_6 (List.mem_of_getElem? (i := 123) rfl), List.forall_mem_cons.mpr ⟨mt_6 (List.mem_of_getElem? (i := 125) rfl), List.forall_mem_cons.mpr ⟨mt_6 (List.mem_of_getElem? (i := 127) rfl), List.forall_mem_cons.mpr ⟨mt_6 (List.mem_of_getElem? (i := 129) rfl), List.forall_mem_cons.mpr ⟨mt_6 (List.mem_of_getElem? (i := 131) rfl), List.forall_mem_cons.mpr ⟨mt_6 (List.mem_of_getElem? (i := 133) rfl), List.forall_mem_cons.mpr ⟨mt_6 (List.mem_of_getElem? (i := 135) rfl), List.forall_mem_cons.mpr ⟨mt_6 (List.mem_of_getElem? (i := 137) rfl), List.forall_mem_cons.mpr ⟨mt_6 (List.mem_of_getElem? (i := 139) rfl), List.forall_mem_cons.mpr ⟨mt_6 (List.mem_of_getElem? (i := 141) rfl), List.forall_mem_cons.mpr ⟨mt_6 (List.mem_of_getElem? (i := 143) rfl), List.forall_mem_cons.mpr ⟨mt_6 (List.mem_of_getElem? (i := 145) rfl), List.forall_mem_cons.mpr ⟨mt_6 (List.mem_of_getElem? (i := 147) rfl), List.forall_mem_cons.mpr ⟨mt_6 (List.mem_of_getElem? (i := 149) rfl), List.forall_mem_cons.mpr ⟨mt_6 (List.mem_of_getElem? (i := 151) rfl), List.forall_mem_cons.mpr ⟨mt_6 (List.mem_of_getElem? (i := 153) rfl), List.forall_mem_nil _⟩⟩⟩⟩⟩⟩⟩⟩⟩⟩⟩⟩⟩⟩⟩⟩⟩⟩⟩⟩⟩⟩⟩⟩⟩⟩⟩⟩⟩⟩⟩⟩⟩⟩⟩⟩⟩⟩⟩⟩
set_option maxRecDepth 100000 in
theorem ck_18 : ∀ w ∈ u_ws RX12 TX12 40, cw w = true ∧ w.onTables = true := by
  intro w hw
  obtain ⟨j, hj, rfl⟩ := List.mem_map.mp hw
  unfold u_lay
  split <;> exact ⟨rfl, rfl⟩
theorem cs_18 : ∀ j, j < 40 → ftR (tyX12 j) ((fty 18).getD j 0)
  | 0, _ => rfl
  | 1, _ => rfl
  | 2, _ => rfl
  | 3, _ => Or.inl ⟨_, rfl⟩
  | 4, _ => Or.inl ⟨_, rfl⟩
  | 5, _ => Or.inr ⟨_, rfl⟩
  | 6, _ => rfl
  | 7, _ => rfl
  | 8, _ => rfl
  | 9, _ => rfl
  | 10, _ => rfl
  | 11, _ => rfl
  | 12, _ => rfl
  | 13, _ => rfl
  | 14, _ => rfl
  | 15, _ => rfl
  | 16, _ => Or.inr ⟨_, rfl⟩
  | 17, _ => Or.inr ⟨_, rfl⟩
  | 18, _ => Or.inr ⟨_, rfl⟩
  | 19, _ => Or.inr ⟨_, rfl⟩
  | 20, _ => rfl
  | 21, _ => rfl
  | 22, _ => Or.inr ⟨_, rfl⟩
  | 23, _ => Or.inr ⟨_, rfl⟩
  | 24, _ => Or.inr ⟨_, rfl⟩
  | 25, _ => Or.inr ⟨_, rfl⟩
  | 26, _ => Or.inr ⟨_, rfl⟩
  | 27, _ => Or.inr ⟨_, rfl⟩
  | 28, _ => rfl
  | 29, _ => Or.inr ⟨_, rfl⟩
  | 30, _ => rfl
  | 31, _ => rfl
  | 32, _ => rfl
  | 33, _ => Or.inr ⟨_, rfl⟩
  | 34, _ => rfl
  | 35, _ => Or.inr ⟨_, rfl⟩
  | 36, _ => Or.inr ⟨_, rfl⟩
  | 37, _ => Or.inr ⟨_, rfl⟩
  | 38, _ => rfl
  | 39, _ => rfl
  | j + 40, h => absurd h (by omega)
set_option maxRecDepth 100000 in
theorem cls_18 : ClsOK 18 := ⟨RX12, TX12, 40, tyX12, rfl, rfl, ci_18, ck_18, tyX12_ok, nmX12, cs_18, mt_1 (List.mem_of_getElem? (i := 12) rfl), mt_6 (List.mem_of_getElem? (i := 30) rfl), by decide +kernel⟩
theorem cls_ok {t : Nat} (h : 10 ≤ t) (h2 : t < 19) : ClsOK t := by
  match t, h, h2 with
  | 10, _, _ => exact cls_10
  | 11, _, _ => exact cls_11
  | 12, _, _ => exact cls_12
  | 13, _, _ => exact cls_13
  | 14, _, _ => exact cls_14
  | 15, _, _ => exact cls_15
  | 16, _, _ => exact cls_16
  | 17, _, _ => exact cls_17
  | 18, _, _ => exact cls_18
  | t + 19, _, h2 => exact absurd h2 (by omega)
def FldOK (x : Nat × Nat × Nat) : Prop := 10 ≤ x.2.2 / 4096 ∧ x.2.2 / 4096 < 19 ∧ x.2.2 / 64 % 64 < (fty (x.2.2 / 4096)).length ∧ x.2.2 % 64 = (fty (x.2.2 / 4096)).getD (x.2.2 / 64 % 64) 0 ∧ ∃ (C : String) (T : u_T) (N : Nat), vwCl[x.2.2 / 4096 - 10]? = some (C, T, N) ∧
  (Cond.fieldLink (own x.1) x.2.1 (T (x.2.2 / 64 % 64)).1 (T (x.2.2 / 64 % 64)).2.1 (T (x.2.2 / 64 % 64)).2.2.1 ∈ lw_tbl ∨ ∃ host, Cond.fieldLinkNest (own x.1) x.2.1 (T (x.2.2 / 64 % 64)).1 (T (x.2.2 / 64 % 64)).2.1 (T (x.2.2 / 64 % 64)).2.2.1 host ∈ lw_tbl)
def FinOK (x : Nat × Nat × Nat) : Prop := ∃ (C : String) (T : u_T) (N : Nat), vwCl[x.2.2 / 4096 - 10]? = some (C, T, N) ∧ Cond.fieldLink (own x.1) x.2.1 (T (x.2.2 / 64 % 64)).1 (T (x.2.2 / 64 % 64)).2.1 (T (x.2.2 / 64 % 64)).2.2.1 ∈ lw_tbl ∧ (T (x.2.2 / 64 % 64)).1 = own x.1
theorem pf_0 : FldOK (2, 21, 61696) := ⟨by decide, by decide, by decide, rfl, RX9, TX9, 14, rfl, Or.inr ⟨_, mt_1 (List.mem_of_getElem? (i := 81) rfl)⟩⟩
theorem pf_1 : FldOK (2, 27, 61956) := ⟨by decide, by decide, by decide, rfl, RX9, TX9, 14, rfl, Or.inr ⟨_, mt_1 (List.mem_of_getElem? (i := 94) rfl)⟩⟩
theorem pf_2 : FldOK (3, 9, 41152) := ⟨by decide, by decide, by decide, rfl, RX3, TX3, 4, rfl, Or.inl (mt_1 (List.mem_of_getElem? (i := 50) rfl))⟩
theorem pf_3 : FldOK (3, 15, 40964) := ⟨by decide, by decide, by decide, rfl, RX3, TX3, 4, rfl, Or.inl (mt_1 (List.mem_of_getElem? (i := 45) rfl))⟩
theorem pff_3 : FinOK (3, 15, 40964) := ⟨RX3, TX3, 4, rfl, mt_1 (List.mem_of_getElem? (i := 45) rfl), rfl⟩
theorem pf_4 : FldOK (3, 19, 41028) := ⟨by decide, by decide, by decide, rfl, RX3, TX3, 4, rfl, Or.inl (mt_1 (List.mem_of_getElem? (i := 47) rfl))⟩
theorem pff_4 : FinOK (3, 19, 41028) := ⟨RX3, TX3, 4, rfl, mt_1 (List.mem_of_getElem? (i := 47) rfl), rfl⟩
theorem pf_5 : FldOK (3, 22, 41095) := ⟨by decide, by decide, by decide, rfl, RX3, TX3, 4, rfl, Or.inl (mt_1 (List.mem_of_getElem? (i := 49) rfl))⟩
theorem pff_5 : FinOK (3, 22, 41095) := ⟨RX3, TX3, 4, rfl, mt_1 (List.mem_of_getElem? (i := 49) rfl), rfl⟩
theorem pf_6 : FldOK (4, 9, 45058) := ⟨by decide, by decide, by decide, rfl, RX4, TX4, 9, rfl, Or.inl (mt_2 (List.mem_of_getElem? (i := 46) rfl))⟩
theorem pf_7 : FldOK (4, 15, 45120) := ⟨by decide, by decide, by decide, rfl, RX4, TX4, 9, rfl, Or.inl (mt_2 (List.mem_of_getElem? (i := 48) rfl))⟩
theorem pf_8 : FldOK (4, 19, 45184) := ⟨by decide, by decide, by decide, rfl, RX4, TX4, 9, rfl, Or.inl (mt_2 (List.mem_of_getElem? (i := 49) rfl))⟩
theorem pf_9 : FldOK (4, 22, 45252) := ⟨by decide, by decide, by decide, rfl, RX4, TX4, 9, rfl, Or.inl (mt_2 (List.mem_of_getElem? (i := 51) rfl))⟩
theorem pff_9 : FinOK (4, 22, 45252) := ⟨RX4, TX4, 9, rfl, mt_2 (List.mem_of_getElem? (i := 51) rfl), rfl⟩
theorem pf_10 : FldOK (4, 26, 45316) := ⟨by decide, by decide, by decide, rfl, RX4, TX4, 9, rfl, Or.inl (mt_2 (List.mem_of_getElem? (i := 52) rfl))⟩
theorem pff_10 : FinOK (4, 26, 45316) := ⟨RX4, TX4, 9, rfl, mt_2 (List.mem_of_getElem? (i := 52) rfl), rfl⟩
theorem pf_11 : FldOK (4, 29, 45380) := ⟨by decide, by decide, by decide, rfl, RX4, TX4, 9, rfl, Or.inl (mt_2 (List.mem_of_getElem? (i := 54) rfl))⟩
theorem pff_11 : FinOK (4, 29, 45380) := ⟨RX4, TX4, 9, rfl, mt_2 (List.mem_of_getElem? (i := 54) rfl), rfl⟩
theorem pf_12 : FldOK (4, 32, 45444) := ⟨by decide, by decide, by decide, rfl, RX4, TX4, 9, rfl, Or.inl (mt_2 (List.mem_of_getElem? (i := 55) rfl))⟩
theorem pff_12 : FinOK (4, 32, 45444) := ⟨RX4, TX4, 9, rfl, mt_2 (List.mem_of_getElem? (i := 55) rfl), rfl⟩
theorem pf_13 : FldOK (4, 35, 45508) := ⟨by decide, by decide, by decide, rfl, RX4, TX4, 9, rfl, Or.inl (mt_2 (List.mem_of_getElem? (i := 56) rfl))⟩
theorem pff_13 : FinOK (4, 35, 45508) := ⟨RX4, TX4, 9, rfl, mt_2 (List.mem_of_getElem? (i := 56) rfl), rfl⟩
theorem pf_14 : FldOK (4, 38, 45572) := ⟨by decide, by decide, by decide, rfl, RX4, TX4, 9, rfl, Or.inl (mt_2 (List.mem_of_getElem? (i := 57) rfl))⟩
theorem pff_14 : FinOK (4, 38, 45572) := ⟨RX4, TX4, 9, rfl, mt_2 (List.mem_of_getElem? (i := 57) rfl), rfl⟩
theorem pf_15 : FldOK (4, 41, 61504) := ⟨by decide, by decide, by decide, rfl, RX9, TX9, 14, rfl, Or.inr ⟨_, mt_1 (List.mem_of_getElem? (i := 68) rfl)⟩⟩
theorem pf_16 : FldOK (4, 57, 61696) := ⟨by decide, by decide, by decide, rfl, RX9, TX9, 14, rfl, Or.inr ⟨_, mt_1 (List.mem_of_getElem? (i := 82) rfl)⟩⟩
theorem pf_17 : FldOK (4, 60, 61956) := ⟨by decide, by decide, by decide, rfl, RX9, TX9, 14, rfl, Or.inr ⟨_, mt_1 (List.mem_of_getElem? (i := 95) rfl)⟩⟩
theorem pf_18 : FldOK (5, 31, 49157) := ⟨by decide, by decide, by decide, rfl, RX5, TX5, 14, rfl, Or.inl (mt_1 (List.mem_of_getElem? (i := 207) rfl))⟩
theorem pff_18 : FinOK (5, 31, 49157) := ⟨RX5, TX5, 14, rfl, mt_1 (List.mem_of_getElem? (i := 207) rfl), rfl⟩
theorem pf_19 : FldOK (5, 35, 49222) := ⟨by decide, by decide, by decide, rfl, RX5, TX5, 14, rfl, Or.inl (mt_1 (List.mem_of_getElem? (i := 208) rfl))⟩
theorem pff_19 : FinOK (5, 35, 49222) := ⟨RX5, TX5, 14, rfl, mt_1 (List.mem_of_getElem? (i := 208) rfl), rfl⟩
theorem pf_20 : FldOK (5, 39, 49280) := ⟨by decide, by decide, by decide, rfl, RX5, TX5, 14, rfl, Or.inl (mt_1 (List.mem_of_getElem? (i := 209) rfl))⟩
theorem pf_21 : FldOK (5, 43, 49344) := ⟨by decide, by decide, by decide, rfl, RX5, TX5, 14, rfl, Or.inl (mt_1 (List.mem_of_getElem? (i := 211) rfl))⟩
theorem pf_22 : FldOK (5, 46, 49408) := ⟨by decide, by decide, by decide, rfl, RX5, TX5, 14, rfl, Or.inl (mt_1 (List.mem_of_getElem? (i := 212) rfl))⟩
theorem pf_23 : FldOK (5, 49, 49472) := ⟨by decide, by decide, by decide, rfl, RX5, TX5, 14, rfl, Or.inl (mt_1 (List.mem_of_getElem? (i := 213) rfl))⟩
theorem pf_24 : FldOK (5, 52, 49536) := ⟨by decide, by decide, by decide, rfl, RX5, TX5, 14, rfl, Or.inl (mt_1 (List.mem_of_getElem? (i := 214) rfl))⟩
theorem pf_25 : FldOK (5, 55, 49601) := ⟨by decide, by decide, by decide, rfl, RX5, TX5, 14, rfl, Or.inl (mt_1 (List.mem_of_getElem? (i := 215) rfl))⟩
theorem pf_26 : FldOK (5, 59, 49669) := ⟨by decide, by decide, by decide, rfl, RX5, TX5, 14, rfl, Or.inl (mt_1 (List.mem_of_getElem? (i := 216) rfl))⟩
theorem pff_26 : FinOK (5, 59, 49669) := ⟨RX5, TX5, 14, rfl, mt_1 (List.mem_of_getElem? (i := 216) rfl), rfl⟩
theorem pf_27 : FldOK (5, 62, 49732) := ⟨by decide, by decide, by decide, rfl, RX5, TX5, 14, rfl, Or.inl (mt_1 (List.mem_of_getElem? (i := 217) rfl))⟩
theorem pff_27 : FinOK (5, 62, 49732) := ⟨RX5, TX5, 14, rfl, mt_1 (List.mem_of_getElem? (i := 217) rfl), rfl⟩
theorem pf_28 : FldOK (5, 66, 49792) := ⟨by decide, by decide, by decide, rfl, RX5, TX5, 14, rfl, Or.inl (mt_1 (List.mem_of_getElem? (i := 218) rfl))⟩
theorem pf_29 : FldOK (5, 72, 49871) := ⟨by decide, by decide, by decide, rfl, RX5, TX5, 14, rfl, Or.inl (mt_1 (List.mem_of_getElem? (i := 219) rfl))⟩
theorem pf_30 : FldOK (5, 76, 49920) := ⟨by decide, by decide, by decide, rfl, RX5, TX5, 14, rfl, Or.inl (mt_1 (List.mem_of_getElem? (i := 220) rfl))⟩
theorem pf_31 : FldOK (5, 79, 49984) := ⟨by decide, by decide, by decide, rfl, RX5, TX5, 14, rfl, Or.inl (mt_1 (List.mem_of_getElem? (i := 222) rfl))⟩
theorem pf_32 : FldOK (5, 132, 61504) := ⟨by decide, by decide, by decide, rfl, RX9, TX9, 14, rfl, Or.inr ⟨_, mt_1 (List.mem_of_getElem? (i := 70) rfl)⟩⟩
theorem pf_33 : FldOK (5, 160, 61632) := ⟨by decide, by decide, by decide, rfl, RX9, TX9, 14, rfl, Or.inr ⟨_, mt_1 (List.mem_of_getElem? (i := 79) rfl)⟩⟩
theorem pf_34 : FldOK (5, 163, 61696) := ⟨by decide, by decide, by decide, rfl, RX9, TX9, 14, rfl, Or.inr ⟨_, mt_1 (List.mem_of_getElem? (i := 84) rfl)⟩⟩
theorem pf_35 : FldOK (5, 166, 62154) := ⟨by decide, by decide, by decide, rfl, RX9, TX9, 14, rfl, Or.inr ⟨_, mt_1 (List.mem_of_getElem? (i := 102) rfl)⟩⟩
theorem pf_36 : FldOK (5, 174, 62218) := ⟨by decide, by decide, by decide, rfl, RX9, TX9, 14, rfl, Or.inr ⟨_, mt_1 (List.mem_of_getElem? (i := 105) rfl)⟩⟩
theorem pf_37 : FldOK (5, 177, 61760) := ⟨by decide, by decide, by decide, rfl, RX9, TX9, 14, rfl, Or.inr ⟨_, mt_1 (List.mem_of_getElem? (i := 87) rfl)⟩⟩
theorem pf_38 : FldOK (5, 179, 62282) := ⟨by decide, by decide, by decide, rfl, RX9, TX9, 14, rfl, Or.inr ⟨_, mt_1 (List.mem_of_getElem? (i := 107) rfl)⟩⟩
theorem pf_39 : FldOK (5, 193, 61440) := ⟨by decide, by decide, by decide, rfl, RX9, TX9, 14, rfl, Or.inr ⟨_, mt_1 (List.mem_of_getElem? (i := 65) rfl)⟩⟩
theorem pf_40 : FldOK (5, 195, 61568) := ⟨by decide, by decide, by decide, rfl, RX9, TX9, 14, rfl, Or.inr ⟨_, mt_1 (List.mem_of_getElem? (i := 74) rfl)⟩⟩
theorem pf_41 : FldOK (6, 11, 53253) := ⟨by decide, by decide, by decide, rfl, RX6, TX6, 4, rfl, Or.inl (mt_2 (List.mem_of_getElem? (i := 83) rfl))⟩
theorem pff_41 : FinOK (6, 11, 53253) := ⟨RX6, TX6, 4, rfl, mt_2 (List.mem_of_getElem? (i := 83) rfl), rfl⟩
theorem pf_42 : FldOK (6, 15, 53317) := ⟨by decide, by decide, by decide, rfl, RX6, TX6, 4, rfl, Or.inl (mt_2 (List.mem_of_getElem? (i := 84) rfl))⟩
theorem pff_42 : FinOK (6, 15, 53317) := ⟨RX6, TX6, 4, rfl, mt_2 (List.mem_of_getElem? (i := 84) rfl), rfl⟩
theorem pf_43 : FldOK (6, 18, 53376) := ⟨by decide, by decide, by decide, rfl, RX6, TX6, 4, rfl, Or.inl (mt_2 (List.mem_of_getElem? (i := 85) rfl))⟩
theorem pf_44 : FldOK (6, 22, 53440) := ⟨by decide, by decide, by decide, rfl, RX6, TX6, 4, rfl, Or.inl (mt_2 (List.mem_of_getElem? (i := 86) rfl))⟩
theorem pf_45 : FldOK (6, 25, 61504) := ⟨by decide, by decide, by decide, rfl, RX9, TX9, 14, rfl, Or.inr ⟨_, mt_1 (List.mem_of_getElem? (i := 69) rfl)⟩⟩
theorem pf_46 : FldOK (6, 36, 61568) := ⟨by decide, by decide, by decide, rfl, RX9, TX9, 14, rfl, Or.inr ⟨_, mt_1 (List.mem_of_getElem? (i := 73) rfl)⟩⟩
theorem pf_47 : FldOK (6, 39, 61696) := ⟨by decide, by decide, by decide, rfl, RX9, TX9, 14, rfl, Or.inr ⟨_, mt_1 (List.mem_of_getElem? (i := 83) rfl)⟩⟩
theorem pf_48 : FldOK (6, 42, 61956) := ⟨by decide, by decide, by decide, rfl, RX9, TX9, 14, rfl, Or.inr ⟨_, mt_1 (List.mem_of_getElem? (i := 96) rfl)⟩⟩
theorem pf_49 : FldOK (6, 62, 61632) := ⟨by decide, by decide, by decide, rfl, RX9, TX9, 14, rfl, Or.inr ⟨_, mt_1 (List.mem_of_getElem? (i := 78) rfl)⟩⟩
theorem pf_50 : FldOK (8, 9, 57344) := ⟨by decide, by decide, by decide, rfl, RX8, TX8, 5, rfl, Or.inl (mt_2 (List.mem_of_getElem? (i := 21) rfl))⟩
theorem pf_51 : FldOK (8, 15, 57412) := ⟨by decide, by decide, by decide, rfl, RX8, TX8, 5, rfl, Or.inl (mt_2 (List.mem_of_getElem? (i := 23) rfl))⟩
theorem pff_51 : FinOK (8, 15, 57412) := ⟨RX8, TX8, 5, rfl, mt_2 (List.mem_of_getElem? (i := 23) rfl), rfl⟩
theorem pf_52 : FldOK (8, 19, 57472) := ⟨by decide, by decide, by decide, rfl, RX8, TX8, 5, rfl, Or.inl (mt_2 (List.mem_of_getElem? (i := 24) rfl))⟩
theorem pf_53 : FldOK (8, 22, 57540) := ⟨by decide, by decide, by decide, rfl, RX8, TX8, 5, rfl, Or.inl (mt_2 (List.mem_of_getElem? (i := 26) rfl))⟩
theorem pff_53 : FinOK (8, 22, 57540) := ⟨RX8, TX8, 5, rfl, mt_2 (List.mem_of_getElem? (i := 26) rfl), rfl⟩
theorem pf_54 : FldOK (8, 25, 57600) := ⟨by decide, by decide, by decide, rfl, RX8, TX8, 5, rfl, Or.inl (mt_2 (List.mem_of_getElem? (i := 27) rfl))⟩
theorem pf_55 : FldOK (9, 9, 61440) := ⟨by decide, by decide, by decide, rfl, RX9, TX9, 14, rfl, Or.inl (mt_1 (List.mem_of_getElem? (i := 64) rfl))⟩
theorem pf_56 : FldOK (9, 15, 61504) := ⟨by decide, by decide, by decide, rfl, RX9, TX9, 14, rfl, Or.inl (mt_1 (List.mem_of_getElem? (i := 67) rfl))⟩
theorem pf_57 : FldOK (9, 18, 61568) := ⟨by decide, by decide, by decide, rfl, RX9, TX9, 14, rfl, Or.inl (mt_1 (List.mem_of_getElem? (i := 72) rfl))⟩
theorem pf_58 : FldOK (9, 21, 61632) := ⟨by decide, by decide, by decide, rfl, RX9, TX9, 14, rfl, Or.inl (mt_1 (List.mem_of_getElem? (i := 76) rfl))⟩
theorem pf_59 : FldOK (9, 24, 61696) := ⟨by decide, by decide, by decide, rfl, RX9, TX9, 14, rfl, Or.inl (mt_1 (List.mem_of_getElem? (i := 80) rfl))⟩
theorem pf_60 : FldOK (9, 27, 61760) := ⟨by decide, by decide, by decide, rfl, RX9, TX9, 14, rfl, Or.inl (mt_1 (List.mem_of_getElem? (i := 86) rfl))⟩
theorem pf_61 : FldOK (9, 30, 61828) := ⟨by decide, by decide, by decide, rfl, RX9, TX9, 14, rfl, Or.inl (mt_1 (List.mem_of_getElem? (i := 89) rfl))⟩
theorem pff_61 : FinOK (9, 30, 61828) := ⟨RX9, TX9, 14, rfl, mt_1 (List.mem_of_getElem? (i := 89) rfl), rfl⟩
theorem pf_62 : FldOK (9, 34, 61892) := ⟨by decide, by decide, by decide, rfl, RX9, TX9, 14, rfl, Or.inl (mt_1 (List.mem_of_getElem? (i := 91) rfl))⟩
theorem pff_62 : FinOK (9, 34, 61892) := ⟨RX9, TX9, 14, rfl, mt_1 (List.mem_of_getElem? (i := 91) rfl), rfl⟩
theorem pf_63 : FldOK (9, 37, 61956) := ⟨by decide, by decide, by decide, rfl, RX9, TX9, 14, rfl, Or.inl (mt_1 (List.mem_of_getElem? (i := 93) rfl))⟩
theorem pff_63 : FinOK (9, 37, 61956) := ⟨RX9, TX9, 14, rfl, mt_1 (List.mem_of_getElem? (i := 93) rfl), rfl⟩
theorem pf_64 : FldOK (9, 40, 62020) := ⟨by decide, by decide, by decide, rfl, RX9, TX9, 14, rfl, Or.inl (mt_1 (List.mem_of_getElem? (i := 98) rfl))⟩
theorem pff_64 : FinOK (9, 40, 62020) := ⟨RX9, TX9, 14, rfl, mt_1 (List.mem_of_getElem? (i := 98) rfl), rfl⟩
theorem pf_65 : FldOK (9, 43, 62084) := ⟨by decide, by decide, by decide, rfl, RX9, TX9, 14, rfl, Or.inl (mt_1 (List.mem_of_getElem? (i := 99) rfl))⟩
theorem pff_65 : FinOK (9, 43, 62084) := ⟨RX9, TX9, 14, rfl, mt_1 (List.mem_of_getElem? (i := 99) rfl), rfl⟩
theorem pf_66 : FldOK (9, 51, 62154) := ⟨by decide, by decide, by decide, rfl, RX9, TX9, 14, rfl, Or.inl (mt_1 (List.mem_of_getElem? (i := 100) rfl))⟩
theorem pff_66 : FinOK (9, 51, 62154) := ⟨RX9, TX9, 14, rfl, mt_1 (List.mem_of_getElem? (i := 100) rfl), rfl⟩
theorem pf_67 : FldOK (9, 55, 62218) := ⟨by decide, by decide, by decide, rfl, RX9, TX9, 14, rfl, Or.inl (mt_1 (List.mem_of_getElem? (i := 103) rfl))⟩
theorem pff_67 : FinOK (9, 55, 62218) := ⟨RX9, TX9, 14, rfl, mt_1 (List.mem_of_getElem? (i := 103) rfl), rfl⟩
theorem pf_68 : FldOK (9, 58, 62282) := ⟨by decide, by decide, by decide, rfl, RX9, TX9, 14, rfl, Or.inl (mt_1 (List.mem_of_getElem? (i := 106) rfl))⟩
theorem pff_68 : FinOK (9, 58, 62282) := ⟨RX9, TX9, 14, rfl, mt_1 (List.mem_of_getElem? (i := 106) rfl), rfl⟩
theorem pf_69 : FldOK (9, 61, 41152) := ⟨by decide, by decide, by decide, rfl, RX3, TX3, 4, rfl, Or.inr ⟨_, mt_1 (List.mem_of_getElem? (i := 51) rfl)⟩⟩
theorem pf_70 : FldOK (10, 10, 65551) := ⟨by decide, by decide, by decide, rfl, RX10, TX10, 7, rfl, Or.inl (mt_2 (List.mem_of_getElem? (i := 97) rfl))⟩
theorem pf_71 : FldOK (10, 19, 65612) := ⟨by decide, by decide, by decide, rfl, RX10, TX10, 7, rfl, Or.inl (mt_2 (List.mem_of_getElem? (i := 98) rfl))⟩
theorem pff_71 : FinOK (10, 19, 65612) := ⟨RX10, TX10, 7, rfl, mt_2 (List.mem_of_getElem? (i := 98) rfl), rfl⟩
theorem pf_72 : FldOK (10, 26, 65678) := ⟨by decide, by decide, by decide, rfl, RX10, TX10, 7, rfl, Or.inl (mt_2 (List.mem_of_getElem? (i := 99) rfl))⟩
theorem pff_72 : FinOK (10, 26, 65678) := ⟨RX10, TX10, 7, rfl, mt_2 (List.mem_of_getElem? (i := 99) rfl), rfl⟩
theorem pf_73 : FldOK (10, 33, 65739) := ⟨by decide, by decide, by decide, rfl, RX10, TX10, 7, rfl, Or.inl (mt_2 (List.mem_of_getElem? (i := 100) rfl))⟩
theorem pff_73 : FinOK (10, 33, 65739) := ⟨RX10, TX10, 7, rfl, mt_2 (List.mem_of_getElem? (i := 100) rfl), rfl⟩
theorem pf_74 : FldOK (10, 37, 65803) := ⟨by decide, by decide, by decide, rfl, RX10, TX10, 7, rfl, Or.inl (mt_2 (List.mem_of_getElem? (i := 101) rfl))⟩
theorem pff_74 : FinOK (10, 37, 65803) := ⟨RX10, TX10, 7, rfl, mt_2 (List.mem_of_getElem? (i := 101) rfl), rfl⟩
theorem pf_75 : FldOK (10, 43, 65869) := ⟨by decide, by decide, by decide, rfl, RX10, TX10, 7, rfl, Or.inl (mt_2 (List.mem_of_getElem? (i := 102) rfl))⟩
theorem pff_75 : FinOK (10, 43, 65869) := ⟨RX10, TX10, 7, rfl, mt_2 (List.mem_of_getElem? (i := 102) rfl), rfl⟩
theorem pf_76 : FldOK (10, 47, 65920) := ⟨by decide, by decide, by decide, rfl, RX10, TX10, 7, rfl, Or.inl (mt_2 (List.mem_of_getElem? (i := 103) rfl))⟩
theorem pf_77 : FldOK (10, 51, 49280) := ⟨by decide, by decide, by decide, rfl, RX5, TX5, 14, rfl, Or.inr ⟨_, mt_1 (List.mem_of_getElem? (i := 210) rfl)⟩⟩
theorem pf_78 : FldOK (10, 70, 45058) := ⟨by decide, by decide, by decide, rfl, RX4, TX4, 9, rfl, Or.inr ⟨_, mt_2 (List.mem_of_getElem? (i := 47) rfl)⟩⟩
theorem pf_79 : FldOK (10, 81, 61632) := ⟨by decide, by decide, by decide, rfl, RX9, TX9, 14, rfl, Or.inr ⟨_, mt_1 (List.mem_of_getElem? (i := 77) rfl)⟩⟩
theorem pf_80 : FldOK (10, 87, 49920) := ⟨by decide, by decide, by decide, rfl, RX5, TX5, 14, rfl, Or.inr ⟨_, mt_1 (List.mem_of_getElem? (i := 221) rfl)⟩⟩
theorem pf_81 : FldOK (10, 90, 49984) := ⟨by decide, by decide, by decide, rfl, RX5, TX5, 14, rfl, Or.inr ⟨_, mt_1 (List.mem_of_getElem? (i := 223) rfl)⟩⟩
theorem pf_82 : FldOK (10, 96, 61828) := ⟨by decide, by decide, by decide, rfl, RX9, TX9, 14, rfl, Or.inr ⟨_, mt_1 (List.mem_of_getElem? (i := 90) rfl)⟩⟩
theorem pf_83 : FldOK (10, 106, 62154) := ⟨by decide, by decide, by decide, rfl, RX9, TX9, 14, rfl, Or.inr ⟨_, mt_1 (List.mem_of_getElem? (i := 101) rfl)⟩⟩
theorem pf_84 : FldOK (10, 115, 61892) := ⟨by decide, by decide, by decide, rfl, RX9, TX9, 14, rfl, Or.inr ⟨_, mt_1 (List.mem_of_getElem? (i := 92) rfl)⟩⟩
theorem pf_85 : FldOK (10, 127, 61956) := ⟨by decide, by decide, by decide, rfl, RX9, TX9, 14, rfl, Or.inr ⟨_, mt_1 (List.mem_of_getElem? (i := 97) rfl)⟩⟩
theorem pf_86 : FldOK (10, 140, 57344) := ⟨by decide, by decide, by decide, rfl, RX8, TX8, 5, rfl, Or.inr ⟨_, mt_2 (List.mem_of_getElem? (i := 22) rfl)⟩⟩
theorem pf_87 : FldOK (10, 146, 62218) := ⟨by decide, by decide, by decide, rfl, RX9, TX9, 14, rfl, Or.inr ⟨_, mt_1 (List.mem_of_getElem? (i := 104) rfl)⟩⟩
theorem pf_88 : FldOK (10, 182, 61504) := ⟨by decide, by decide, by decide, rfl, RX9, TX9, 14, rfl, Or.inr ⟨_, mt_1 (List.mem_of_getElem? (i := 71) rfl)⟩⟩
theorem pf_89 : FldOK (10, 211, 45184) := ⟨by decide, by decide, by decide, rfl, RX4, TX4, 9, rfl, Or.inr ⟨_, mt_2 (List.mem_of_getElem? (i := 50) rfl)⟩⟩
theorem pf_90 : FldOK (10, 296, 62282) := ⟨by decide, by decide, by decide, rfl, RX9, TX9, 14, rfl, Or.inr ⟨_, mt_1 (List.mem_of_getElem? (i := 108) rfl)⟩⟩
theorem pf_91 : FldOK (10, 351, 41152) := ⟨by decide, by decide, by decide, rfl, RX3, TX3, 4, rfl, Or.inr ⟨_, mt_1 (List.mem_of_getElem? (i := 52) rfl)⟩⟩
theorem pf_92 : FldOK (10, 352, 40964) := ⟨by decide, by decide, by decide, rfl, RX3, TX3, 4, rfl, Or.inr ⟨_, mt_1 (List.mem_of_getElem? (i := 46) rfl)⟩⟩
theorem pf_93 : FldOK (10, 355, 41028) := ⟨by decide, by decide, by decide, rfl, RX3, TX3, 4, rfl, Or.inr ⟨_, mt_1 (List.mem_of_getElem? (i := 48) rfl)⟩⟩
theorem pf_94 : FldOK (10, 361, 53440) := ⟨by decide, by decide, by decide, rfl, RX6, TX6, 4, rfl, Or.inr ⟨_, mt_2 (List.mem_of_getElem? (i := 87) rfl)⟩⟩
theorem pf_95 : FldOK (10, 377, 57472) := ⟨by decide, by decide, by decide, rfl, RX8, TX8, 5, rfl, Or.inr ⟨_, mt_2 (List.mem_of_getElem? (i := 25) rfl)⟩⟩
theorem pf_96 : FldOK (10, 383, 57600) := ⟨by decide, by decide, by decide, rfl, RX8, TX8, 5, rfl, Or.inr ⟨_, mt_2 (List.mem_of_getElem? (i := 28) rfl)⟩⟩
theorem pf_97 : FldOK (10, 395, 61440) := ⟨by decide, by decide, by decide, rfl, RX9, TX9, 14, rfl, Or.inr ⟨_, mt_1 (List.mem_of_getElem? (i := 66) rfl)⟩⟩
theorem pf_98 : FldOK (10, 398, 61568) := ⟨by decide, by decide, by decide, rfl, RX9, TX9, 14, rfl, Or.inr ⟨_, mt_1 (List.mem_of_getElem? (i := 75) rfl)⟩⟩
theorem pf_99 : FldOK (10, 401, 61696) := ⟨by decide, by decide, by decide, rfl, RX9, TX9, 14, rfl, Or.inr ⟨_, mt_1 (List.mem_of_getElem? (i := 85) rfl)⟩⟩
theorem pf_100 : FldOK (10, 404, 61760) := ⟨by decide, by decide, by decide, rfl, RX9, TX9, 14, rfl, Or.inr ⟨_, mt_1 (List.mem_of_getElem? (i := 88) rfl)⟩⟩
theorem pf_101 : FldOK (10, 418, 45316) := ⟨by decide, by decide, by decide, rfl, RX4, TX4, 9, rfl, Or.inr ⟨_, mt_2 (List.mem_of_getElem? (i := 53) rfl)⟩⟩
theorem pf_102 : FldOK (11, 9, 70276) := ⟨by decide, by decide, by decide, rfl, RX11, TX11, 25, rfl, Or.inl (mt_6 (List.mem_of_getElem? (i := 191) rfl))⟩
theorem pff_102 : FinOK (11, 9, 70276) := ⟨RX11, TX11, 25, rfl, mt_6 (List.mem_of_getElem? (i := 191) rfl), rfl⟩
theorem pf_103 : FldOK (11, 15, 70340) := ⟨by decide, by decide, by decide, rfl, RX11, TX11, 25, rfl, Or.inl (mt_6 (List.mem_of_getElem? (i := 193) rfl))⟩
theorem pff_103 : FinOK (11, 15, 70340) := ⟨RX11, TX11, 25, rfl, mt_6 (List.mem_of_getElem? (i := 193) rfl), rfl⟩
theorem pf_104 : FldOK (11, 18, 70404) := ⟨by decide, by decide, by decide, rfl, RX11, TX11, 25, rfl, Or.inl (mt_6 (List.mem_of_getElem? (i := 195) rfl))⟩
theorem pff_104 : FinOK (11, 18, 70404) := ⟨RX11, TX11, 25, rfl, mt_6 (List.mem_of_getElem? (i := 195) rfl), rfl⟩
theorem pf_105 : FldOK (11, 21, 70468) := ⟨by decide, by decide, by decide, rfl, RX11, TX11, 25, rfl, Or.inl (mt_6 (List.mem_of_getElem? (i := 197) rfl))⟩
theorem pff_105 : FinOK (11, 21, 70468) := ⟨RX11, TX11, 25, rfl, mt_6 (List.mem_of_getElem? (i := 197) rfl), rfl⟩
theorem pf_106 : FldOK (11, 24, 70532) := ⟨by decide, by decide, by decide, rfl, RX11, TX11, 25, rfl, Or.inl (mt_6 (List.mem_of_getElem? (i := 199) rfl))⟩
theorem pff_106 : FinOK (11, 24, 70532) := ⟨RX11, TX11, 25, rfl, mt_6 (List.mem_of_getElem? (i := 199) rfl), rfl⟩
theorem pf_107 : FldOK (11, 27, 70596) := ⟨by decide, by decide, by decide, rfl, RX11, TX11, 25, rfl, Or.inl (mt_6 (List.mem_of_getElem? (i := 201) rfl))⟩
theorem pff_107 : FinOK (11, 27, 70596) := ⟨RX11, TX11, 25, rfl, mt_6 (List.mem_of_getElem? (i := 201) rfl), rfl⟩
theorem pf_108 : FldOK (11, 30, 70788) := ⟨by decide, by decide, by decide, rfl, RX11, TX11, 25, rfl, Or.inl (mt_6 (List.mem_of_getElem? (i := 205) rfl))⟩
theorem pff_108 : FinOK (11, 30, 70788) := ⟨RX11, TX11, 25, rfl, mt_6 (List.mem_of_getElem? (i := 205) rfl), rfl⟩
theorem pf_109 : FldOK (11, 33, 70852) := ⟨by decide, by decide, by decide, rfl, RX11, TX11, 25, rfl, Or.inl (mt_6 (List.mem_of_getElem? (i := 207) rfl))⟩
theorem pff_109 : FinOK (11, 33, 70852) := ⟨RX11, TX11, 25, rfl, mt_6 (List.mem_of_getElem? (i := 207) rfl), rfl⟩
theorem pf_110 : FldOK (11, 36, 70916) := ⟨by decide, by decide, by decide, rfl, RX11, TX11, 25, rfl, Or.inl (mt_6 (List.mem_of_getElem? (i := 209) rfl))⟩
theorem pff_110 : FinOK (11, 36, 70916) := ⟨RX11, TX11, 25, rfl, mt_6 (List.mem_of_getElem? (i := 209) rfl), rfl⟩
theorem pf_111 : FldOK (11, 39, 70980) := ⟨by decide, by decide, by decide, rfl, RX11, TX11, 25, rfl, Or.inl (mt_6 (List.mem_of_getElem? (i := 211) rfl))⟩
theorem pff_111 : FinOK (11, 39, 70980) := ⟨RX11, TX11, 25, rfl, mt_6 (List.mem_of_getElem? (i := 211) rfl), rfl⟩
theorem pf_112 : FldOK (11, 42, 71045) := ⟨by decide, by decide, by decide, rfl, RX11, TX11, 25, rfl, Or.inl (mt_6 (List.mem_of_getElem? (i := 213) rfl))⟩
theorem pff_112 : FinOK (11, 42, 71045) := ⟨RX11, TX11, 25, rfl, mt_6 (List.mem_of_getElem? (i := 213) rfl), rfl⟩
theorem pf_113 : FldOK (11, 46, 71108) := ⟨by decide, by decide, by decide, rfl, RX11, TX11, 25, rfl, Or.inl (mt_6 (List.mem_of_getElem? (i := 215) rfl))⟩
theorem pff_113 : FinOK (11, 46, 71108) := ⟨RX11, TX11, 25, rfl, mt_6 (List.mem_of_getElem? (i := 215) rfl), rfl⟩
theorem pf_114 : FldOK (11, 49, 71172) := ⟨by decide, by decide, by decide, rfl, RX11, TX11, 25, rfl, Or.inl (mt_6 (List.mem_of_getElem? (i := 217) rfl))⟩
theorem pff_114 : FinOK (11, 49, 71172) := ⟨RX11, TX11, 25, rfl, mt_6 (List.mem_of_getElem? (i := 217) rfl), rfl⟩
theorem pf_115 : FldOK (11, 52, 70208) := ⟨by decide, by decide, by decide, rfl, RX11, TX11, 25, rfl, Or.inl (mt_6 (List.mem_of_getElem? (i := 189) rfl))⟩
theorem pf_116 : FldOK (11, 56, 69824) := ⟨by decide, by decide, by decide, rfl, RX11, TX11, 25, rfl, Or.inl (mt_6 (List.mem_of_getElem? (i := 181) rfl))⟩
theorem pf_117 : FldOK (11, 59, 70080) := ⟨by decide, by decide, by decide, rfl, RX11, TX11, 25, rfl, Or.inl (mt_6 (List.mem_of_getElem? (i := 186) rfl))⟩
theorem pf_118 : FldOK (12, 9, 73856) := ⟨by decide, by decide, by decide, rfl, RX12, TX12, 40, rfl, Or.inl (mt_6 (List.mem_of_getElem? (i := 37) rfl))⟩
theorem pf_119 : FldOK (12, 13, 74054) := ⟨by decide, by decide, by decide, rfl, RX12, TX12, 40, rfl, Or.inl (mt_6 (List.mem_of_getElem? (i := 40) rfl))⟩
theorem pff_119 : FinOK (12, 13, 74054) := ⟨RX12, TX12, 40, rfl, mt_6 (List.mem_of_getElem? (i := 40) rfl), rfl⟩
theorem pf_120 : FldOK (12, 17, 74756) := ⟨by decide, by decide, by decide, rfl, RX12, TX12, 40, rfl, Or.inl (mt_6 (List.mem_of_getElem? (i := 51) rfl))⟩
theorem pff_120 : FinOK (12, 17, 74756) := ⟨RX12, TX12, 40, rfl, mt_6 (List.mem_of_getElem? (i := 51) rfl), rfl⟩
theorem pf_121 : FldOK (12, 21, 74820) := ⟨by decide, by decide, by decide, rfl, RX12, TX12, 40, rfl, Or.inl (mt_6 (List.mem_of_getElem? (i := 52) rfl))⟩
theorem pff_121 : FinOK (12, 21, 74820) := ⟨RX12, TX12, 40, rfl, mt_6 (List.mem_of_getElem? (i := 52) rfl), rfl⟩
theorem pf_122 : FldOK (12, 24, 74884) := ⟨by decide, by decide, by decide, rfl, RX12, TX12, 40, rfl, Or.inl (mt_6 (List.mem_of_getElem? (i := 53) rfl))⟩
theorem pff_122 : FinOK (12, 24, 74884) := ⟨RX12, TX12, 40, rfl, mt_6 (List.mem_of_getElem? (i := 53) rfl), rfl⟩
theorem pf_123 : FldOK (12, 27, 74948) := ⟨by decide, by decide, by decide, rfl, RX12, TX12, 40, rfl, Or.inl (mt_6 (List.mem_of_getElem? (i := 54) rfl))⟩
theorem pff_123 : FinOK (12, 27, 74948) := ⟨RX12, TX12, 40, rfl, mt_6 (List.mem_of_getElem? (i := 54) rfl), rfl⟩
theorem pf_124 : FldOK (12, 30, 75140) := ⟨by decide, by decide, by decide, rfl, RX12, TX12, 40, rfl, Or.inl (mt_6 (List.mem_of_getElem? (i := 57) rfl))⟩
theorem pff_124 : FinOK (12, 30, 75140) := ⟨RX12, TX12, 40, rfl, mt_6 (List.mem_of_getElem? (i := 57) rfl), rfl⟩
theorem pf_125 : FldOK (12, 33, 75204) := ⟨by decide, by decide, by decide, rfl, RX12, TX12, 40, rfl, Or.inl (mt_6 (List.mem_of_getElem? (i := 58) rfl))⟩
theorem pff_125 : FinOK (12, 33, 75204) := ⟨RX12, TX12, 40, rfl, mt_6 (List.mem_of_getElem? (i := 58) rfl), rfl⟩
theorem pf_126 : FldOK (12, 36, 75268) := ⟨by decide, by decide, by decide, rfl, RX12, TX12, 40, rfl, Or.inl (mt_6 (List.mem_of_getElem? (i := 59) rfl))⟩
theorem pff_126 : FinOK (12, 36, 75268) := ⟨RX12, TX12, 40, rfl, mt_6 (List.mem_of_getElem? (i := 59) rfl), rfl⟩
theorem pf_127 : FldOK (12, 39, 75332) := ⟨by decide, by decide, by decide, rfl, RX12, TX12, 40, rfl, Or.inl (mt_6 (List.mem_of_getElem? (i := 60) rfl))⟩
theorem pff_127 : FinOK (12, 39, 75332) := ⟨RX12, TX12, 40, rfl, mt_6 (List.mem_of_getElem? (i := 60) rfl), rfl⟩
theorem pf_128 : FldOK (12, 42, 75396) := ⟨by decide, by decide, by decide, rfl, RX12, TX12, 40, rfl, Or.inl (mt_6 (List.mem_of_getElem? (i := 61) rfl))⟩
theorem pff_128 : FinOK (12, 42, 75396) := ⟨RX12, TX12, 40, rfl, mt_6 (List.mem_of_getElem? (i := 61) rfl), rfl⟩
theorem pf_129 : FldOK (12, 45, 75460) := ⟨by decide, by decide, by decide, rfl, RX12, TX12, 40, rfl, Or.inl (mt_6 (List.mem_of_getElem? (i := 62) rfl))⟩
theorem pff_129 : FinOK (12, 45, 75460) := ⟨RX12, TX12, 40, rfl, mt_6 (List.mem_of_getElem? (i := 62) rfl), rfl⟩
theorem pf_130 : FldOK (12, 48, 75588) := ⟨by decide, by decide, by decide, rfl, RX12, TX12, 40, rfl, Or.inl (mt_6 (List.mem_of_getElem? (i := 64) rfl))⟩
theorem pff_130 : FinOK (12, 48, 75588) := ⟨RX12, TX12, 40, rfl, mt_6 (List.mem_of_getElem? (i := 64) rfl), rfl⟩
theorem pf_131 : FldOK (12, 51, 75844) := ⟨by decide, by decide, by decide, rfl, RX12, TX12, 40, rfl, Or.inl (mt_6 (List.mem_of_getElem? (i := 68) rfl))⟩
theorem pff_131 : FinOK (12, 51, 75844) := ⟨RX12, TX12, 40, rfl, mt_6 (List.mem_of_getElem? (i := 68) rfl), rfl⟩
theorem pf_132 : FldOK (12, 54, 75972) := ⟨by decide, by decide, by decide, rfl, RX12, TX12, 40, rfl, Or.inl (mt_6 (List.mem_of_getElem? (i := 70) rfl))⟩
theorem pff_132 : FinOK (12, 54, 75972) := ⟨RX12, TX12, 40, rfl, mt_6 (List.mem_of_getElem? (i := 70) rfl), rfl⟩
theorem pf_133 : FldOK (12, 57, 76037) := ⟨by decide, by decide, by decide, rfl, RX12, TX12, 40, rfl, Or.inl (mt_6 (List.mem_of_getElem? (i := 71) rfl))⟩
theorem pff_133 : FinOK (12, 57, 76037) := ⟨RX12, TX12, 40, rfl, mt_6 (List.mem_of_getElem? (i := 71) rfl), rfl⟩
theorem pf_134 : FldOK (12, 61, 76101) := ⟨by decide, by decide, by decide, rfl, RX12, TX12, 40, rfl, Or.inl (mt_6 (List.mem_of_getElem? (i := 72) rfl))⟩
theorem pff_134 : FinOK (12, 61, 76101) := ⟨RX12, TX12, 40, rfl, mt_6 (List.mem_of_getElem? (i := 72) rfl), rfl⟩
theorem pf_135 : FldOK (12, 64, 73728) := ⟨by decide, by decide, by decide, rfl, RX12, TX12, 40, rfl, Or.inl (mt_6 (List.mem_of_getElem? (i := 35) rfl))⟩
theorem pf_136 : FldOK (12, 67, 73792) := ⟨by decide, by decide, by decide, rfl, RX12, TX12, 40, rfl, Or.inl (mt_6 (List.mem_of_getElem? (i := 36) rfl))⟩
theorem pf_137 : FldOK (12, 81, 74176) := ⟨by decide, by decide, by decide, rfl, RX12, TX12, 40, rfl, Or.inl (mt_6 (List.mem_of_getElem? (i := 42) rfl))⟩
theorem pf_138 : FldOK (12, 96, 74304) := ⟨by decide, by decide, by decide, rfl, RX12, TX12, 40, rfl, Or.inl (mt_6 (List.mem_of_getElem? (i := 44) rfl))⟩
theorem pf_139 : FldOK (12, 99, 74240) := ⟨by decide, by decide, by decide, rfl, RX12, TX12, 40, rfl, Or.inl (mt_6 (List.mem_of_getElem? (i := 43) rfl))⟩
theorem pf_140 : FldOK (12, 105, 74368) := ⟨by decide, by decide, by decide, rfl, RX12, TX12, 40, rfl, Or.inl (mt_6 (List.mem_of_getElem? (i := 45) rfl))⟩
theorem pf_141 : FldOK (12, 112, 74625) := ⟨by decide, by decide, by decide, rfl, RX12, TX12, 40, rfl, Or.inl (mt_6 (List.mem_of_getElem? (i := 49) rfl))⟩
theorem pf_142 : FldOK (12, 119, 74432) := ⟨by decide, by decide, by decide, rfl, RX12, TX12, 40, rfl, Or.inl (mt_6 (List.mem_of_getElem? (i := 46) rfl))⟩
theorem pf_143 : FldOK (12, 122, 74496) := ⟨by decide, by decide, by decide, rfl, RX12, TX12, 40, rfl, Or.inl (mt_6 (List.mem_of_getElem? (i := 47) rfl))⟩
theorem pf_144 : FldOK (12, 125, 74560) := ⟨by decide, by decide, by decide, rfl, RX12, TX12, 40, rfl, Or.inl (mt_6 (List.mem_of_getElem? (i := 48) rfl))⟩
theorem pf_145 : FldOK (12, 171, 74001) := ⟨by decide, by decide, by decide, rfl, RX12, TX12, 40, rfl, Or.inl (mt_6 (List.mem_of_getElem? (i := 39) rfl))⟩
theorem pf_146 : FldOK (12, 175, 69632) := ⟨by decide, by decide, by decide, rfl, RX11, TX11, 25, rfl, Or.inr ⟨_, mt_6 (List.mem_of_getElem? (i := 178) rfl)⟩⟩
theorem pf_147 : FldOK (12, 188, 71045) := ⟨by decide, by decide, by decide, rfl, RX11, TX11, 25, rfl, Or.inr ⟨_, mt_6 (List.mem_of_getElem? (i := 214) rfl)⟩⟩
theorem pf_148 : FldOK (12, 191, 70208) := ⟨by decide, by decide, by decide, rfl, RX11, TX11, 25, rfl, Or.inr ⟨_, mt_6 (List.mem_of_getElem? (i := 190) rfl)⟩⟩
theorem pf_149 : FldOK (12, 194, 71108) := ⟨by decide, by decide, by decide, rfl, RX11, TX11, 25, rfl, Or.inr ⟨_, mt_6 (List.mem_of_getElem? (i := 216) rfl)⟩⟩
theorem pf_150 : FldOK (12, 197, 71172) := ⟨by decide, by decide, by decide, rfl, RX11, TX11, 25, rfl, Or.inr ⟨_, mt_6 (List.mem_of_getElem? (i := 218) rfl)⟩⟩
theorem pf_151 : FldOK (12, 203, 74688) := ⟨by decide, by decide, by decide, rfl, RX12, TX12, 40, rfl, Or.inl (mt_6 (List.mem_of_getElem? (i := 50) rfl))⟩
theorem pf_152 : FldOK (12, 212, 69824) := ⟨by decide, by decide, by decide, rfl, RX11, TX11, 25, rfl, Or.inr ⟨_, mt_6 (List.mem_of_getElem? (i := 182) rfl)⟩⟩
theorem pf_153 : FldOK (12, 215, 69888) := ⟨by decide, by decide, by decide, rfl, RX11, TX11, 25, rfl, Or.inr ⟨_, mt_6 (List.mem_of_getElem? (i := 183) rfl)⟩⟩
theorem pf_154 : FldOK (12, 249, 69696) := ⟨by decide, by decide, by decide, rfl, RX11, TX11, 25, rfl, Or.inr ⟨_, mt_6 (List.mem_of_getElem? (i := 179) rfl)⟩⟩
theorem pf_155 : FldOK (12, 251, 69760) := ⟨by decide, by decide, by decide, rfl, RX11, TX11, 25, rfl, Or.inr ⟨_, mt_6 (List.mem_of_getElem? (i := 180) rfl)⟩⟩
theorem pf_156 : FldOK (12, 274, 70276) := ⟨by decide, by decide, by decide, rfl, RX11, TX11, 25, rfl, Or.inr ⟨_, mt_6 (List.mem_of_getElem? (i := 192) rfl)⟩⟩
theorem pf_157 : FldOK (12, 277, 70340) := ⟨by decide, by decide, by decide, rfl, RX11, TX11, 25, rfl, Or.inr ⟨_, mt_6 (List.mem_of_getElem? (i := 194) rfl)⟩⟩
theorem pf_158 : FldOK (12, 282, 70468) := ⟨by decide, by decide, by decide, rfl, RX11, TX11, 25, rfl, Or.inr ⟨_, mt_6 (List.mem_of_getElem? (i := 198) rfl)⟩⟩
theorem pf_159 : FldOK (12, 285, 69952) := ⟨by decide, by decide, by decide, rfl, RX11, TX11, 25, rfl, Or.inr ⟨_, mt_6 (List.mem_of_getElem? (i := 184) rfl)⟩⟩
theorem pf_160 : FldOK (12, 291, 70404) := ⟨by decide, by decide, by decide, rfl, RX11, TX11, 25, rfl, Or.inr ⟨_, mt_6 (List.mem_of_getElem? (i := 196) rfl)⟩⟩
theorem pf_161 : FldOK (12, 294, 70016) := ⟨by decide, by decide, by decide, rfl, RX11, TX11, 25, rfl, Or.inr ⟨_, mt_6 (List.mem_of_getElem? (i := 185) rfl)⟩⟩
theorem pf_162 : FldOK (12, 297, 70532) := ⟨by decide, by decide, by decide, rfl, RX11, TX11, 25, rfl, Or.inr ⟨_, mt_6 (List.mem_of_getElem? (i := 200) rfl)⟩⟩
theorem pf_163 : FldOK (12, 300, 70596) := ⟨by decide, by decide, by decide, rfl, RX11, TX11, 25, rfl, Or.inr ⟨_, mt_6 (List.mem_of_getElem? (i := 202) rfl)⟩⟩
theorem pf_164 : FldOK (12, 303, 70656) := ⟨by decide, by decide, by decide, rfl, RX11, TX11, 25, rfl, Or.inr ⟨_, mt_6 (List.mem_of_getElem? (i := 203) rfl)⟩⟩
theorem pf_165 : FldOK (12, 305, 70080) := ⟨by decide, by decide, by decide, rfl, RX11, TX11, 25, rfl, Or.inr ⟨_, mt_6 (List.mem_of_getElem? (i := 187) rfl)⟩⟩
theorem pf_166 : FldOK (12, 311, 70788) := ⟨by decide, by decide, by decide, rfl, RX11, TX11, 25, rfl, Or.inr ⟨_, mt_6 (List.mem_of_getElem? (i := 206) rfl)⟩⟩
theorem pf_167 : FldOK (12, 313, 70852) := ⟨by decide, by decide, by decide, rfl, RX11, TX11, 25, rfl, Or.inr ⟨_, mt_6 (List.mem_of_getElem? (i := 208) rfl)⟩⟩
theorem pf_168 : FldOK (12, 316, 70144) := ⟨by decide, by decide, by decide, rfl, RX11, TX11, 25, rfl, Or.inr ⟨_, mt_6 (List.mem_of_getElem? (i := 188) rfl)⟩⟩
theorem pf_169 : FldOK (12, 322, 70916) := ⟨by decide, by decide, by decide, rfl, RX11, TX11, 25, rfl, Or.inr ⟨_, mt_6 (List.mem_of_getElem? (i := 210) rfl)⟩⟩
theorem pf_170 : FldOK (12, 325, 70980) := ⟨by decide, by decide, by decide, rfl, RX11, TX11, 25, rfl, Or.inr ⟨_, mt_6 (List.mem_of_getElem? (i := 212) rfl)⟩⟩
theorem pf_171 : FldOK (12, 328, 70720) := ⟨by decide, by decide, by decide, rfl, RX11, TX11, 25, rfl, Or.inr ⟨_, mt_6 (List.mem_of_getElem? (i := 204) rfl)⟩⟩
theorem pf_172 : FldOK (12, 330, 74112) := ⟨by decide, by decide, by decide, rfl, RX12, TX12, 40, rfl, Or.inl (mt_6 (List.mem_of_getElem? (i := 41) rfl))⟩
theorem pf_173 : FldOK (12, 337, 73937) := ⟨by decide, by decide, by decide, rfl, RX12, TX12, 40, rfl, Or.inl (mt_6 (List.mem_of_getElem? (i := 38) rfl))⟩
theorem pf_174 : FldOK (12, 339, 75008) := ⟨by decide, by decide, by decide, rfl, RX12, TX12, 40, rfl, Or.inl (mt_6 (List.mem_of_getElem? (i := 55) rfl))⟩
theorem pf_175 : FldOK (12, 342, 75072) := ⟨by decide, by decide, by decide, rfl, RX12, TX12, 40, rfl, Or.inl (mt_6 (List.mem_of_getElem? (i := 56) rfl))⟩
theorem pf_176 : FldOK (12, 351, 75520) := ⟨by decide, by decide, by decide, rfl, RX12, TX12, 40, rfl, Or.inl (mt_6 (List.mem_of_getElem? (i := 63) rfl))⟩
theorem pf_177 : FldOK (12, 467, 75648) := ⟨by decide, by decide, by decide, rfl, RX12, TX12, 40, rfl, Or.inl (mt_6 (List.mem_of_getElem? (i := 65) rfl))⟩
theorem pf_178 : FldOK (12, 470, 75712) := ⟨by decide, by decide, by decide, rfl, RX12, TX12, 40, rfl, Or.inl (mt_6 (List.mem_of_getElem? (i := 66) rfl))⟩
theorem pf_179 : FldOK (12, 473, 75776) := ⟨by decide, by decide, by decide, rfl, RX12, TX12, 40, rfl, Or.inl (mt_6 (List.mem_of_getElem? (i := 67) rfl))⟩
theorem pf_180 : FldOK (12, 488, 75904) := ⟨by decide, by decide, by decide, rfl, RX12, TX12, 40, rfl, Or.inl (mt_6 (List.mem_of_getElem? (i := 69) rfl))⟩
theorem pf_181 : FldOK (12, 524, 76161) := ⟨by decide, by decide, by decide, rfl, RX12, TX12, 40, rfl, Or.inl (mt_6 (List.mem_of_getElem? (i := 73) rfl))⟩
theorem pf_182 : FldOK (12, 544, 76224) := ⟨by decide, by decide, by decide, rfl, RX12, TX12, 40, rfl, Or.inl (mt_6 (List.mem_of_getElem? (i := 74) rfl))⟩
set_option maxRecDepth 100000 in
theorem pf_ok : ∀ x ∈ poolF, FldOK x := List.forall_mem_cons.mpr ⟨pf_0, List.forall_mem_cons.mpr ⟨pf_1, List.forall_mem_cons.mpr ⟨pf_2, List.forall_mem_cons.mpr ⟨pf_3, List.forall_mem_cons.mpr ⟨pf_4, List.forall_mem_cons.mpr ⟨pf_5, List.forall_mem_cons.mpr ⟨pf_6, List.forall_mem_cons.mpr ⟨pf_7, List.forall_mem_cons.mpr ⟨pf_8, List.forall_mem_cons.mpr ⟨pf_9, List.forall_mem_cons.mpr ⟨pf_10, List.forall_mem_cons.mpr ⟨pf_11, List.forall_mem_cons.mpr ⟨pf_12, List.forall_mem_cons.mpr ⟨pf_13, List.forall_mem_cons.mpr ⟨pf_14, List.forall_mem_cons.mpr ⟨pf_15, List.forall_mem_cons.mpr ⟨pf_16, List.forall_mem_cons.mpr ⟨pf_17, List.forall_mem_cons.mpr ⟨pf_18, List.forall_mem_cons.mpr ⟨pf_19, List.forall_mem_cons.mpr ⟨pf_20, List.forall_mem_cons.mpr ⟨pf_21, List.forall_mem_cons.mpr ⟨pf_22, List.forall_mem_cons.mpr ⟨pf_23, List.forall_mem_cons.mpr ⟨pf_24, List.forall_mem_cons.mpr ⟨pf_25, List.forall_mem_cons.mpr ⟨pf_26, List.forall_mem_cons.mpr ⟨pf_27, List.forall_mem_cons.mpr ⟨pf_28, List.forall_mem_cons.mpr ⟨pf_29, List.forall_mem_cons.mpr ⟨pf_30, List.forall_mem_cons.mpr ⟨pf_31, List.forall_mem_cons.mpr ⟨pf_32, List.forall_mem_cons.mpr ⟨pf_33, List.forall_mem_cons.mpr ⟨pf_34, List.forall_mem_cons.mpr ⟨pf_35, List.forall_mem_cons.mpr ⟨pf_36, List.forall_mem_cons.mpr ⟨pf_37, List.forall_mem_cons.mpr ⟨pf_38, List.forall_mem_cons.mpr ⟨pf_39, List.forall_mem_cons.mpr ⟨pf_40, List.forall_mem_cons.mpr ⟨pf_41, List.forall_mem_cons.mpr ⟨pf_42, List.forall_mem_cons.mpr ⟨pf_43, List.forall_mem_cons.mpr ⟨pf_44, List.forall_mem_cons.mpr ⟨pf_45, List.forall_mem_cons.mpr ⟨pf_46, List.forall_mem_cons.mpr ⟨pf_47, List.forall_mem_cons.mpr ⟨pf_48, List.forall_mem_cons.mpr ⟨pf_49, List.forall_mem_cons.mpr ⟨pf_50, List.forall_mem_cons.mpr ⟨pf_51, List.forall_mem_cons.mpr ⟨pf_52, List.forall_mem_cons.mpr ⟨pf_53, List.forall_mem_cons.mpr ⟨pf_54, List.forall_mem_cons.mpr ⟨pf_55, List.forall_mem_cons.mpr ⟨pf_56, List.forall_mem_cons.mpr ⟨pf_57, List.forall_mem_cons.mpr ⟨pf_58, List.forall_mem_cons.mpr ⟨pf_59, List.forall_mem_cons.mpr ⟨pf_60, List.forall_mem_cons.mpr ⟨pf_61, List.forall_mem_cons.mpr ⟨pf_62, List.forall_mem_cons.mpr ⟨pf_63, List.forall_mem_cons.mpr ⟨pf_64, List.forall_mem_cons.mpr ⟨pf_65, List.forall_mem_cons.mpr ⟨pf_66, List.forall_mem_cons.mpr ⟨pf_67, List.forall_mem_cons.mpr ⟨pf_68, List.forall_mem_cons.mpr ⟨pf_69, List.forall_mem_cons.mpr ⟨pf_70, List.forall_mem_cons.mpr ⟨pf_71, List.forall_mem_cons.mpr ⟨pf_72, List.forall_mem_cons.mpr ⟨pf_73, List.forall_mem_cons.mpr ⟨pf_74, List.forall_mem_cons.mpr ⟨pf_75, List.forall_mem_cons.mpr ⟨pf_76, List.forall_mem_cons.mpr ⟨pf_77, List.forall_mem_cons.mpr ⟨pf_78, List.forall_mem_cons.mpr ⟨pf_79, List.forall_mem_cons.mpr ⟨pf_80, List.forall_mem_cons.mpr ⟨pf_81, List.forall_mem_cons.mpr ⟨pf_82, List.forall_mem_cons.mpr ⟨pf_83, List.forall_mem_cons.mpr ⟨pf_84, List.forall_mem_cons.mpr ⟨pf_85, List.forall_mem_cons.mpr ⟨pf_86, List.forall_mem_cons.mpr ⟨pf_87, List.forall_mem_cons.mpr ⟨pf_88, List.forall_mem_cons.mpr ⟨pf_89, List.forall_mem_cons.mpr ⟨pf_90, List.forall_mem_cons.mpr ⟨pf_91, List.forall_mem_cons.mpr ⟨pf_92, List.forall_mem_cons.mpr ⟨pf_93, List.forall_mem_cons.mpr ⟨pf_94, List.forall_mem_cons.mpr ⟨pf_95, List.forall_mem_cons.mpr ⟨pf_96, List.forall_mem_cons.mpr ⟨pf_97, List.forall_mem_cons.mpr ⟨pf_98, List.forall_mem_cons.mpr ⟨pf_99, List.forall_mem_cons.mpr ⟨pf_100, List.forall_mem_cons.mpr ⟨pf_101, List.forall_mem_cons.mpr ⟨pf_102, List.forall_mem_cons.mpr ⟨pf_103, List.forall_mem_cons.mpr ⟨pf_104, List.forall_mem_cons.mpr ⟨pf_105, List.forall_mem_cons.mpr ⟨pf_106, List.forall_mem_cons.mpr ⟨pf_107, List.forall_mem_cons.mpr ⟨pf_108, List.forall_mem_cons.mpr ⟨pf_109, List.forall_mem_cons.mpr ⟨pf_110, List.forall_mem_cons.mpr ⟨pf_111, List.forall_mem_cons.mpr ⟨pf_112, List.forall_mem_cons.mpr ⟨pf_113, List.forall_mem_cons.mpr ⟨pf_114, List.forall_mem_cons.mpr ⟨pf_115, List.forall_mem_cons.mpr ⟨pf_116, List.forall_mem_cons.mpr ⟨pf_117, List.forall_mem_cons.mpr ⟨pf_118, List.forall_mem_cons.mpr ⟨pf_119, List.forall_mem_cons.mpr ⟨pf_120, List.forall_mem_cons.mpr ⟨pf_121, List.forall_mem_cons.mpr ⟨pf_122, List.forall_mem_cons.mpr ⟨pf_123, List.forall_mem_cons.mpr ⟨pf_124, List.forall_mem_cons.mpr ⟨pf_125, List.forall_mem_cons.mpr ⟨pf_126, List.forall_mem_cons.mpr ⟨pf_127, List.forall_mem_cons.mpr ⟨pf_128, List.forall_mem_cons.mpr ⟨pf_129, List.forall_mem_cons.mpr ⟨pf_130, List.forall_mem_cons.mpr ⟨pf_131, List.forall_mem_cons.mpr ⟨pf_132, List.forall_mem_cons.mpr ⟨pf_133, List.forall_mem_cons.mpr ⟨pf_134, List.forall_mem_cons.mpr ⟨pf_135, List.forall_mem_cons.mpr ⟨pf_136, List.forall_mem_cons.mpr ⟨pf_137, List.forall_mem_cons.mpr ⟨pf_138, List.forall_mem_cons.mpr ⟨pf_139, List.forall_mem_cons.mpr ⟨pf_140, List.forall_mem_cons.mpr ⟨pf_141, List.forall_mem_cons.mpr ⟨pf_142, List.forall_mem_cons.mpr ⟨pf_143, List.forall_mem_cons.mpr ⟨pf_144, List.forall_mem_cons.mpr ⟨pf_145, List.forall_mem_cons.mpr ⟨pf_146, List.forall_mem_cons.mpr ⟨pf_147, List.forall_mem_cons.mpr ⟨pf_148, List.forall_mem_cons.mpr ⟨pf_149, List.forall_mem_cons.mpr ⟨pf_150, List.forall_mem_cons.mpr ⟨pf_151, List.forall_mem_cons.mpr ⟨pf_152, List.forall_mem_cons.mpr ⟨pf_153, List.forall_mem_cons.mpr ⟨pf_154, List.forall_mem_cons.mpr ⟨pf_155, List.forall_mem_cons.mpr ⟨pf_156, List.forall_mem_cons.mpr ⟨pf_157, List.forall_mem_cons.mpr ⟨pf_158, List.forall_mem_cons.mpr ⟨pf_159, List.forall_mem_cons.mpr ⟨pf_160, List.forall_mem_cons.mpr ⟨pf_161, List.forall_mem_cons.mpr ⟨pf_162, List.forall_mem_cons.mpr ⟨pf_163, List.forall_mem_cons.mpr ⟨pf_164, List.forall_mem_cons.mpr ⟨pf_165, List.forall_mem_cons.mpr ⟨pf_166, List.forall_mem_cons.mpr ⟨pf_167, List.forall_mem_cons.mpr ⟨pf_168, List.forall_mem_cons.mpr ⟨pf_169, List.forall_mem_cons.mpr ⟨pf_170, List.forall_mem_cons.mpr ⟨pf_171, List.forall_mem_cons.mpr ⟨pf_172, List.forall_mem_cons.mpr ⟨pf_173, List.forall_mem_cons.mpr ⟨pf_174, List.forall_mem_cons.mpr ⟨pf_175, List.forall_mem_cons.mpr ⟨pf_176, List.forall_mem_cons.mpr ⟨pf_177, List.forall_mem_cons.mpr ⟨pf_178, List.forall_mem_cons.mpr ⟨pf_179, List.forall_mem_cons.mpr ⟨pf_180, List.forall_mem_cons.mpr ⟨pf_181, List.forall_mem_cons.mpr ⟨pf_182, List.forall_mem_nil _⟩⟩⟩⟩⟩⟩⟩⟩⟩⟩⟩⟩⟩⟩⟩⟩⟩⟩⟩⟩⟩⟩⟩⟩⟩⟩⟩⟩⟩⟩⟩⟩⟩⟩⟩⟩⟩⟩⟩⟩⟩⟩⟩⟩⟩⟩⟩⟩⟩⟩⟩⟩⟩⟩⟩⟩⟩⟩⟩⟩⟩⟩⟩⟩⟩⟩⟩⟩⟩⟩⟩⟩⟩⟩⟩⟩⟩⟩⟩⟩⟩⟩⟩⟩⟩⟩⟩⟩⟩⟩⟩⟩⟩⟩⟩⟩⟩⟩⟩⟩⟩⟩⟩⟩⟩⟩⟩⟩⟩⟩⟩⟩⟩⟩⟩⟩⟩⟩⟩⟩⟩⟩⟩⟩⟩⟩⟩⟩⟩⟩⟩⟩⟩⟩⟩⟩⟩⟩⟩⟩⟩⟩⟩⟩⟩⟩⟩⟩⟩⟩⟩⟩⟩⟩⟩⟩⟩⟩⟩⟩⟩⟩⟩⟩⟩⟩⟩⟩⟩⟩⟩⟩⟩⟩⟩⟩⟩⟩⟩⟩⟩⟩⟩
set_option maxRecDepth 100000 in
theorem pff_ok : ∀ x ∈ poolFF, FinOK x := List.forall_mem_cons.mpr ⟨pff_3, List.forall_mem_cons.mpr ⟨pff_4, List.forall_mem_cons.mpr ⟨pff_5, List.forall_mem_cons.mpr ⟨pff_9, List.forall_mem_cons.mpr ⟨pff_10, List.forall_mem_cons.mpr ⟨pff_11, List.forall_mem_cons.mpr ⟨pff_12, List.forall_mem_cons.mpr ⟨pff_13, List.forall_mem_cons.mpr ⟨pff_14, List.forall_mem_cons.mpr ⟨pff_18, List.forall_mem_cons.mpr ⟨pff_19, List.forall_mem_cons.mpr ⟨pff_26, List.forall_mem_cons.mpr ⟨pff_27, List.forall_mem_cons.mpr ⟨pff_41, List.forall_mem_cons.mpr ⟨pff_42, List.forall_mem_cons.mpr ⟨pff_51, List.forall_mem_cons.mpr ⟨pff_53, List.forall_mem_cons.mpr ⟨pff_61, List.forall_mem_cons.mpr ⟨pff_62, List.forall_mem_cons.mpr ⟨pff_63, List.forall_mem_cons.mpr ⟨pff_64, List.forall_mem_cons.mpr ⟨pff_65, List.forall_mem_cons.mpr ⟨pff_66, List.forall_mem_cons.mpr ⟨pff_67, List.forall_mem_cons.mpr ⟨pff_68, List.forall_mem_cons.mpr ⟨pff_71, List.forall_mem_cons.mpr ⟨pff_72, List.forall_mem_cons.mpr ⟨pff_73, List.forall_mem_cons.mpr ⟨pff_74, List.forall_mem_cons.mpr ⟨pff_75, List.forall_mem_cons.mpr ⟨pff_102, List.forall_mem_cons.mpr ⟨pff_103, List.forall_mem_cons.mpr ⟨pff_104, List.forall_mem_cons.mpr ⟨pff_105, List.forall_mem_cons.mpr ⟨pff_106, List.forall_mem_cons.mpr ⟨pff_107, List.forall_mem_cons.mpr ⟨pff_108, List.forall_mem_cons.mpr ⟨pff_109, List.forall_mem_cons.mpr ⟨pff_110, List.forall_mem_cons.mpr ⟨pff_111, List.forall_mem_cons.mpr ⟨pff_112, List.forall_mem_cons.mpr ⟨pff_113, List.forall_mem_cons.mpr ⟨pff_114, List.forall_mem_cons.mpr ⟨pff_119, List.forall_mem_cons.mpr ⟨pff_120, List.forall_mem_cons.mpr ⟨pff_121, List.forall_mem_cons.mpr ⟨pff_122, List.forall_mem_cons.mpr ⟨pff_123, List.forall_mem_cons.mpr ⟨pff_124, List.forall_mem_cons.mpr ⟨pff_125, List.forall_mem_cons.mpr ⟨pff_126, List.forall_mem_cons.mpr ⟨pff_127, List.forall_mem_cons.mpr ⟨pff_128, List.forall_mem_cons.mpr ⟨pff_129, List.forall_mem_cons.mpr ⟨pff_130, List.forall_mem_cons.mpr ⟨pff_131, List.forall_mem_cons.mpr ⟨pff_132, List.forall_mem_cons.mpr ⟨pff_133, List.forall_mem_cons.mpr ⟨pff_134, List.forall_mem_nil _⟩⟩⟩⟩⟩⟩⟩⟩⟩⟩⟩⟩⟩⟩⟩⟩⟩⟩⟩⟩⟩⟩⟩⟩⟩⟩⟩⟩⟩⟩⟩⟩⟩⟩⟩⟩⟩⟩⟩⟩⟩⟩⟩⟩⟩⟩⟩⟩⟩⟩⟩⟩⟩⟩⟩⟩⟩⟩⟩
