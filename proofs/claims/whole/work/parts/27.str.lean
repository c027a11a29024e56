abbrev j_ycoder : MethodName := ⟨"java/lang/String", "coder", "()B"⟩
abbrev j_ccoder : ByteArray := prog_22_method_152_code
theorem jw_coder_code : Cond.code j_ycoder j_ccoder 1 (some .byte) ∈ lw_tbl := mt_1 (List.mem_of_getElem? (i := 155) rfl)
theorem jw_coder_instanceMethod : Cond.instanceMethod j_ycoder ∈ lw_tbl := mt_1 (List.mem_of_getElem? (i := 153) rfl)
theorem jw_coder_sel : Cond.selects "java/lang/String" j_ycoder j_ycoder ∈ lw_tbl := mt_1 (List.mem_of_getElem? (i := 154) rfl)
abbrev j_ylat : MethodName := ⟨"java/lang/String", "isLatin1", "()Z"⟩
abbrev j_clat : ByteArray := prog_22_method_154_code
theorem jw_lat_code : Cond.code j_ylat j_clat 1 (some .boolean) ∈ lw_tbl := mt_1 (List.mem_of_getElem? (i := 166) rfl)
theorem jw_lat_instanceMethod : Cond.instanceMethod j_ylat ∈ lw_tbl := mt_1 (List.mem_of_getElem? (i := 164) rfl)
theorem jw_lat_sel : Cond.selects "java/lang/String" j_ylat j_ylat ∈ lw_tbl := mt_1 (List.mem_of_getElem? (i := 165) rfl)
abbrev j_ylen : MethodName := ⟨"java/lang/String", "length", "()I"⟩
abbrev j_clen : ByteArray := prog_22_method_54_code
theorem jw_len_code : Cond.code j_ylen j_clen 1 (some .int) ∈ lw_tbl := mt_1 (List.mem_of_getElem? (i := 151) rfl)
theorem jw_len_instanceMethod : Cond.instanceMethod j_ylen ∈ lw_tbl := mt_1 (List.mem_of_getElem? (i := 149) rfl)
theorem jw_len_sel : Cond.selects "java/lang/String" j_ylen j_ylen ∈ lw_tbl := mt_1 (List.mem_of_getElem? (i := 150) rfl)
abbrev j_ychr : MethodName := ⟨"java/lang/String", "charAt", "(I)C"⟩
abbrev j_cchr : ByteArray := prog_22_method_56_code
theorem jw_chr_code : Cond.code j_ychr j_cchr 2 (some .char) ∈ lw_tbl := mt_1 (List.mem_of_getElem? (i := 162) rfl)
theorem jw_chr_instanceMethod : Cond.instanceMethod j_ychr ∈ lw_tbl := mt_1 (List.mem_of_getElem? (i := 160) rfl)
theorem jw_chr_sel : Cond.selects "java/lang/String" j_ychr j_ychr ∈ lw_tbl := mt_1 (List.mem_of_getElem? (i := 161) rfl)
abbrev j_ychk : MethodName := ⟨"java/lang/String", "checkIndex", "(II)V"⟩
abbrev j_cchk : ByteArray := prog_22_method_155_code
theorem jw_chk_code : Cond.code j_ychk j_cchk 2 none ∈ lw_tbl := mt_1 (List.mem_of_getElem? (i := 172) rfl)
theorem jw_chk_static : Cond.static j_ychk ∈ lw_tbl := mt_1 (List.mem_of_getElem? (i := 171) rfl)
abbrev j_yc1 : MethodName := ⟨"java/lang/StringLatin1", "charAt", "([BI)C"⟩
abbrev j_cc1 : ByteArray := prog_23_method_2_code
theorem jw_c1_code : Cond.code j_yc1 j_cc1 2 (some .char) ∈ lw_tbl := mt_1 (List.mem_of_getElem? (i := 169) rfl)
theorem jw_c1_static : Cond.static j_yc1 ∈ lw_tbl := mt_1 (List.mem_of_getElem? (i := 168) rfl)
abbrev j_ypchk : MethodName := ⟨"jdk/internal/util/Preconditions", "checkIndex", "(IILjava/util/function/BiFunction;)I"⟩
abbrev j_cpchk : ByteArray := prog_30_method_11_code
theorem jw_pchk_code : Cond.code j_ypchk j_cpchk 3 (some .int) ∈ lw_tbl := mt_1 (List.mem_of_getElem? (i := 177) rfl)
theorem jw_pchk_static : Cond.static j_ypchk ∈ lw_tbl := mt_1 (List.mem_of_getElem? (i := 176) rfl)
theorem jl_s_coder : Cond.methodLink "java/lang/String" 335 j_ycoder ∈ lw_tbl := mt_1 (List.mem_of_getElem? (i := 152) rfl)
theorem jl_s_lat : Cond.methodLink "java/lang/String" 492 j_ylat ∈ lw_tbl := mt_1 (List.mem_of_getElem? (i := 163) rfl)
theorem jl_s_c1 : Cond.methodLink "java/lang/String" 495 j_yc1 ∈ lw_tbl := mt_1 (List.mem_of_getElem? (i := 167) rfl)
theorem jl_l_chk : Cond.methodLink "java/lang/StringLatin1" 9 j_ychk ∈ lw_tbl := mt_1 (List.mem_of_getElem? (i := 170) rfl)
theorem jl_s_pchk : Cond.methodLink "java/lang/String" 1059 j_ypchk ∈ lw_tbl := mt_1 (List.mem_of_getElem? (i := 175) rfl)
theorem jf_COMPACT_STRINGS : Cond.fieldLink "java/lang/String" 38 "java/lang/String" "COMPACT_STRINGS" "Z" ∈ lw_tbl := mt_1 (List.mem_of_getElem? (i := 156) rfl)
theorem jf_SIOOBE_FORMATTER : Cond.fieldLink "java/lang/String" 1053 "jdk/internal/util/Preconditions" "SIOOBE_FORMATTER" "Ljava/util/function/BiFunction;" ∈ lw_tbl := mt_1 (List.mem_of_getElem? (i := 173) rfl)
theorem jf_value : Cond.fieldLink "java/lang/String" 9 "java/lang/String" "value" "[B" ∈ lw_tbl := mt_9 (List.mem_of_getElem? (i := 203) rfl)
theorem jf_coder : Cond.fieldLink "java/lang/String" 15 "java/lang/String" "coder" "B" ∈ lw_tbl := mt_9 (List.mem_of_getElem? (i := 204) rfl)
theorem ji_s : Cond.initialized "java/lang/String" ∈ lw_tbl := mt_1 (List.mem_of_getElem? (i := 5) rfl)
theorem ji_l : Cond.initialized "java/lang/StringLatin1" ∈ lw_tbl := mt_1 (List.mem_of_getElem? (i := 6) rfl)
theorem ji_p : Cond.initialized "jdk/internal/util/Preconditions" ∈ lw_tbl := mt_1 (List.mem_of_getElem? (i := 7) rfl)
theorem jd_coder_0 : decode j_ccoder 0 = .ok (.getstatic 38, 3) := by decide +kernel
theorem jd_coder_3 : decode j_ccoder 3 = .ok (.ifCond .eq 10, 3) := by decide +kernel
theorem jd_coder_6 : decode j_ccoder 6 = .ok (.aload_n 0, 1) := by decide +kernel
theorem jd_coder_7 : decode j_ccoder 7 = .ok (.getfield 15, 3) := by decide +kernel
theorem jd_coder_10 : decode j_ccoder 10 = .ok (.goto 4, 3) := by decide +kernel
theorem jd_coder_13 : decode j_ccoder 13 = .ok (.iconst 1, 1) := by decide +kernel
theorem jd_coder_14 : decode j_ccoder 14 = .ok (.ireturn, 1) := by decide +kernel
theorem jd_lat_0 : decode j_clat 0 = .ok (.getstatic 38, 3) := by decide +kernel
theorem jd_lat_3 : decode j_clat 3 = .ok (.ifCond .eq 14, 3) := by decide +kernel
theorem jd_lat_6 : decode j_clat 6 = .ok (.aload_n 0, 1) := by decide +kernel
theorem jd_lat_7 : decode j_clat 7 = .ok (.getfield 15, 3) := by decide +kernel
theorem jd_lat_10 : decode j_clat 10 = .ok (.ifCond .ne 7, 3) := by decide +kernel
theorem jd_lat_13 : decode j_clat 13 = .ok (.iconst 1, 1) := by decide +kernel
theorem jd_lat_14 : decode j_clat 14 = .ok (.goto 4, 3) := by decide +kernel
theorem jd_lat_17 : decode j_clat 17 = .ok (.iconst 0, 1) := by decide +kernel
theorem jd_lat_18 : decode j_clat 18 = .ok (.ireturn, 1) := by decide +kernel
theorem jd_len_0 : decode j_clen 0 = .ok (.aload_n 0, 1) := by decide +kernel
theorem jd_len_1 : decode j_clen 1 = .ok (.getfield 9, 3) := by decide +kernel
theorem jd_len_4 : decode j_clen 4 = .ok (.arraylength, 1) := by decide +kernel
theorem jd_len_5 : decode j_clen 5 = .ok (.aload_n 0, 1) := by decide +kernel
theorem jd_len_6 : decode j_clen 6 = .ok (.invokevirtual 335, 3) := by decide +kernel
theorem jd_len_9 : decode j_clen 9 = .ok (.ishr, 1) := by decide +kernel
theorem jd_len_10 : decode j_clen 10 = .ok (.ireturn, 1) := by decide +kernel
theorem jd_chr_0 : decode j_cchr 0 = .ok (.aload_n 0, 1) := by decide +kernel
theorem jd_chr_1 : decode j_cchr 1 = .ok (.invokevirtual 492, 3) := by decide +kernel
theorem jd_chr_4 : decode j_cchr 4 = .ok (.ifCond .eq 12, 3) := by decide +kernel
theorem jd_chr_7 : decode j_cchr 7 = .ok (.aload_n 0, 1) := by decide +kernel
theorem jd_chr_8 : decode j_cchr 8 = .ok (.getfield 9, 3) := by decide +kernel
theorem jd_chr_11 : decode j_cchr 11 = .ok (.iload_n 1, 1) := by decide +kernel
theorem jd_chr_12 : decode j_cchr 12 = .ok (.invokestatic 495, 3) := by decide +kernel
theorem jd_chr_15 : decode j_cchr 15 = .ok (.ireturn, 1) := by decide +kernel
theorem jd_chr_16 : decode j_cchr 16 = .ok (.aload_n 0, 1) := by decide +kernel
theorem jd_chr_17 : decode j_cchr 17 = .ok (.getfield 9, 3) := by decide +kernel
theorem jd_chr_20 : decode j_cchr 20 = .ok (.iload_n 1, 1) := by decide +kernel
theorem jd_chr_21 : decode j_cchr 21 = .ok (.invokestatic 498, 3) := by decide +kernel
theorem jd_chr_24 : decode j_cchr 24 = .ok (.ireturn, 1) := by decide +kernel
theorem jd_chk_0 : decode j_cchk 0 = .ok (.iload_n 0, 1) := by decide +kernel
theorem jd_chk_1 : decode j_cchk 1 = .ok (.iload_n 1, 1) := by decide +kernel
theorem jd_chk_2 : decode j_cchk 2 = .ok (.getstatic 1053, 3) := by decide +kernel
theorem jd_chk_5 : decode j_cchk 5 = .ok (.invokestatic 1059, 3) := by decide +kernel
theorem jd_chk_8 : decode j_cchk 8 = .ok (.pop, 1) := by decide +kernel
theorem jd_chk_9 : decode j_cchk 9 = .ok (.return_, 1) := by decide +kernel
theorem jd_c1_0 : decode j_cc1 0 = .ok (.iload_n 1, 1) := by decide +kernel
theorem jd_c1_1 : decode j_cc1 1 = .ok (.aload_n 0, 1) := by decide +kernel
theorem jd_c1_2 : decode j_cc1 2 = .ok (.arraylength, 1) := by decide +kernel
theorem jd_c1_3 : decode j_cc1 3 = .ok (.invokestatic 9, 3) := by decide +kernel
theorem jd_c1_6 : decode j_cc1 6 = .ok (.aload_n 0, 1) := by decide +kernel
theorem jd_c1_7 : decode j_cc1 7 = .ok (.iload_n 1, 1) := by decide +kernel
theorem jd_c1_8 : decode j_cc1 8 = .ok (.baload, 1) := by decide +kernel
theorem jd_c1_9 : decode j_cc1 9 = .ok (.sipush 255, 3) := by decide +kernel
theorem jd_c1_12 : decode j_cc1 12 = .ok (.iand, 1) := by decide +kernel
theorem jd_c1_13 : decode j_cc1 13 = .ok (.i2c, 1) := by decide +kernel
theorem jd_c1_14 : decode j_cc1 14 = .ok (.ireturn, 1) := by decide +kernel
theorem jd_pchk_0 : decode j_cpchk 0 = .ok (.iload_n 0, 1) := by decide +kernel
theorem jd_pchk_1 : decode j_cpchk 1 = .ok (.ifCond .lt 8, 3) := by decide +kernel
theorem jd_pchk_4 : decode j_cpchk 4 = .ok (.iload_n 0, 1) := by decide +kernel
theorem jd_pchk_5 : decode j_cpchk 5 = .ok (.iload_n 1, 1) := by decide +kernel
theorem jd_pchk_6 : decode j_cpchk 6 = .ok (.if_icmp .lt 10, 3) := by decide +kernel
theorem jd_pchk_9 : decode j_cpchk 9 = .ok (.aload_n 2, 1) := by decide +kernel
theorem jd_pchk_10 : decode j_cpchk 10 = .ok (.iload_n 0, 1) := by decide +kernel
theorem jd_pchk_11 : decode j_cpchk 11 = .ok (.iload_n 1, 1) := by decide +kernel
theorem jd_pchk_12 : decode j_cpchk 12 = .ok (.invokestatic 95, 3) := by decide +kernel
theorem jd_pchk_15 : decode j_cpchk 15 = .ok (.athrow, 1) := by decide +kernel
theorem jd_pchk_16 : decode j_cpchk 16 = .ok (.iload_n 0, 1) := by decide +kernel
theorem jd_pchk_17 : decode j_cpchk 17 = .ok (.ireturn, 1) := by decide +kernel
/-- a JDK method that only reads -/
def MetJ (E : ENV) (l : Launch) (y : MethodName) (bytes : ByteArray) (maxL : Nat) (ret : Option FieldType) (f L : Nat) (as : List Value) (res : Option Value) : Prop :=
  Met l y [.code y bytes maxL ret] { frames := f, cells := 0, slots := 0, locals := L } (fun v U => v = as.toArray ∧ Ctx E U U.heap) (fun _ st o t => o = .returned res ∧ t.heap = st.heap) 0 0 (fun _ => False)
section JDK
variable {E : ENV} {p : Program} {l : Launch} {e : Env} {R : Room} {s : State} {m : MethodId} {args : Array Value} {below : List Frame} {meth : Method} {c : Code} {H : Heap} {locs : List Loc} {cells slots : Nat} {Q : State → Prop} {pc : Nat} {ls : Array Slot} {rest st0 : List Value} {cc by' : ByteArray} {nL maxL np f L k : Nat} {y : MethodName} {ret : Option FieldType} {as : List Value} {res : Option Value} {own : String}
theorem j_blind : FrameBlind (fun v U => v = as.toArray ∧ Ctx E U U.heap) := fun a U g mk ⟨h1, h2⟩ => ⟨h1, h2.warm (U' := U.calling g mk a) (State.WarmedH.refl U) (Nat.le_refl _) (fun _ _ _ => rfl)⟩
theorem j_go {Qa : State → Outcome → State → Prop} (hQ : ∀ st o t, Qa st o t → o = .returned res ∧ t.heap = st.heap) (hr : va_Run p l e R s m args below meth c H locs cells slots 0 0 (F0 m pc ls st0) rest Qa (fun _ => False))
    (kk : W p l e R s m args below meth c H locs cells slots Q (F0 m (pc + 3) ls (res.toList ++ rest))) : W p l e R s m args below meth c H locs cells slots Q (F0 m pc ls st0) := by
  intro T hT X
  obtain ⟨v, st₀, t, T', L, h0, X', hL, e1, e2, hq, go⟩ := hr T hT X
  obtain ⟨hv, hh⟩ := hQ _ _ _ hq
  have hL0 : L = [] := List.eq_nil_iff_forall_not_mem.mpr (fun q hq => hL q hq)
  subst hL0
  have hv : v = res := Outcome.returned.inj hv
  subst hv
  obtain ⟨tt, a, b⟩ := kk T' (e1.trans (hh.trans h0)) (by simpa using X')
  exact ⟨tt, go tt a, b⟩
theorem j_B (hC : Ctx E s s.heap) (hf : f + 1 ≤ R.frames) (hl : L + 100 ≤ R.locals) (hmx : maxL ≤ 50) (hcode : Cond.code y by' maxL ret ∈ lw_tbl) (hinit : Cond.initialized y.cls ∈ lw_tbl) (hy : y.cls ≠ "java/lang/invoke/MethodHandle" ∧ y.cls ≠ "java/lang/invoke/VarHandle") (hnp : (parseMethodDescriptor y.desc).map (fun d => d.parameters.length) = some np) (hlk : Cond.methodLink own k y ∈ lw_tbl) :
    CallB R s args own k y by' maxL ret [.code y by' maxL ret] { frames := f, cells := 0, slots := 0, locals := L } 0 0 np := by
  refine ⟨rfl, rfl, hf, ?_, fun w hw a' U hW => ?_, List.mem_singleton.mpr rfl, hC.word hcode rfl rfl, hC.word hinit rfl rfl, hy, fun sig h => ?_, hC.word hlk rfl rfl⟩
  · show 8 + (maxL + 11) + L ≤ R.locals
    omega
  · rw [List.mem_singleton.mp hw]
    exact word_at hW (Or.inl rfl) (hC.2.1 _ hcode rfl)
  · rw [h] at hnp; exact (Option.some.inj hnp).symm
theorem j_warm (hC : Ctx E s s.heap) (hS : va_S (eS E) s.heap H locs) : ∀ U : State, U.heap = H → s.WarmedH U.vm → as.toArray = as.toArray ∧ Ctx E U U.heap := fun U hU hW => ⟨rfl, by rw [hU]; exact hC.warm hW hS.1 hS.2.1⟩
theorem j_callV {q : Nat} {as' : List Value} (hx : p.tables.exec = Jvm.exec) (hb : c.code = cc) (hml : c.maxLocals = nL) (hsz : ls.size = nL) (hown : s.vm.findClass own = some m.cls) (hC : Ctx E s s.heap) (hS : va_S (eS E) s.heap H locs) (hd : decode cc pc = .ok (.invokevirtual k, 3)) (hM : MetJ E l y by' maxL ret f L (.ref (eK E q) :: as') res) (hf : f + 1 ≤ R.frames) (hl : L + 100 ≤ R.locals) (hmx : maxL ≤ 50) (hcode : Cond.code y by' maxL ret ∈ lw_tbl) (hinit : Cond.initialized y.cls ∈ lw_tbl) (hy : y.cls ≠ "java/lang/invoke/MethodHandle" ∧ y.cls ≠ "java/lang/invoke/VarHandle") (hnp : (parseMethodDescriptor y.desc).map (fun d => d.parameters.length) = some np) (hlk : Cond.methodLink own k y ∈ lw_tbl)
    (hin : Cond.instanceMethod y ∈ lw_tbl) (hse : Cond.selects "java/lang/String" y y ∈ lw_tbl) (hq : q < 17) (hlen : as'.length = np) (hst : st0 = as'.reverse ++ .ref (eK E q) :: rest) (hW : (rest.map fun v => v.category).sum ≤ 8) (hcs : cells ≤ R.cells ∧ slots ≤ R.slots)
    (kk : W p l e R s m args below meth c H locs cells slots Q (F0 m (pc + 3) ls (res.toList ++ rest))) : W p l e R s m args below meth c H locs cells slots Q (F0 m pc ls st0) :=
  j_go (fun _ _ _ h => h) (va_runV (Ts := []) (n := np) ⟨hx, hb, hml, hown, fun w h => absurd h List.not_mem_nil⟩ hM ⟨j_B hC hf hl hmx hcode hinit hy hnp hlk, hC.word hin rfl rfl, hC.word hse rfl rfl⟩ ⟨j_blind, vk_recv hC.2.2.2.1.1 hq hS, j_warm hC hS⟩ rfl hlen hsz hst (by show 2 * 0 + _ ≤ 8; omega) hd ⟨by omega, by omega⟩) kk
theorem j_callS (hx : p.tables.exec = Jvm.exec) (hb : c.code = cc) (hml : c.maxLocals = nL) (hsz : ls.size = nL) (hown : s.vm.findClass own = some m.cls) (hC : Ctx E s s.heap) (hS : va_S (eS E) s.heap H locs) (hd : decode cc pc = .ok (.invokestatic k, 3)) (hM : MetJ E l y by' maxL ret f L as res) (hf : f + 1 ≤ R.frames) (hl : L + 100 ≤ R.locals) (hmx : maxL ≤ 50) (hcode : Cond.code y by' maxL ret ∈ lw_tbl) (hinit : Cond.initialized y.cls ∈ lw_tbl) (hy : y.cls ≠ "java/lang/invoke/MethodHandle" ∧ y.cls ≠ "java/lang/invoke/VarHandle") (hnp : (parseMethodDescriptor y.desc).map (fun d => d.parameters.length) = some np) (hlk : Cond.methodLink own k y ∈ lw_tbl)
    (hstt : Cond.static y ∈ lw_tbl) (hlen : as.length = np) (hst : st0 = as.reverse ++ rest) (hW : (rest.map fun v => v.category).sum ≤ 8) (hcs : cells ≤ R.cells ∧ slots ≤ R.slots)
    (kk : W p l e R s m args below meth c H locs cells slots Q (F0 m (pc + 3) ls (res.toList ++ rest))) : W p l e R s m args below meth c H locs cells slots Q (F0 m pc ls st0) :=
  j_go (fun _ _ _ h => h) (va_runS (Ts := []) (n := np) ⟨hx, hb, hml, hown, fun w h => absurd h List.not_mem_nil⟩ hM ⟨j_B hC hf hl hmx hcode hinit hy hnp hlk, hC.word hstt rfl rfl⟩ ⟨j_blind, j_warm hC hS⟩ rfl hlen hsz hst (by show 2 * 0 + _ ≤ 8; omega) hd ⟨by omega, by omega⟩) kk
end JDK
set_option maxRecDepth 20000 in
/-- coder(): 0 -/
theorem jm_coder (E : ENV) (l : Launch) (q : Nat) (hq : q < 17) : MetJ E l j_ycoder j_ccoder 1 (some .byte) 0 0 [.ref (eK E q)] (some (.int 0)) := by
  refine Met.ofW (cc := j_ccoder) (maxL := 1) (ret := (some .byte)) (by decide) rfl ?_
  intro p e s m args below meth c s₁ B hml hv
  obtain ⟨rfl, hC⟩ := hv
  have hx := B.exec
  have hb := B.bytes
  have hr := B.returns
  have hown : s.vm.findClass "java/lang/String" = some m.cls := findClass_of_methodNamed B.named
  have hlocks := B.notSynchronized
  have hS : va_S (eS E) s.heap s.heap [] := va_S.rf
  have hl := lv_entry ([.ref (eK E q)]) (n := 1) (Nat.le_of_ble_eq_true rfl)
  rw [lg_entry_eq]
  generalize (lg_sl ([.ref (eK E q)]) ++ List.replicate (1 - (lg_sl ([.ref (eK E q)])).length) Slot.unset).toArray = ls at hl ⊢
  refine va_gets hx hb hC.2.2.2.1.2.1 hS hown (hC.word jf_COMPACT_STRINGS rfl rfl) (fun _ h => h) jd_coder_0 ?_
  refine lv_if_eq (tgt := 13) hx hb jd_coder_3 (by decide) (fun z => absurd z (by decide)) (fun _ => ?_)
  refine lv_aload_n hx hb jd_coder_6 rfl (lv_at hl 0 rfl) ?_
  refine vk_getf hx hb (hC.2.2.2.1.1.1 q hq).2.1 hS hown (hC.word jf_coder rfl rfl) (fun _ h => h) jd_coder_7 ?_
  refine lv_goto (tgt := 14) hx hb jd_coder_10 (by decide) ?_
  exact W.zret hx hb hr rfl (fun t ht _ => ⟨rfl, ht⟩) (fun q h => absurd h List.not_mem_nil) jd_coder_14 hlocks
set_option maxRecDepth 20000 in
/-- isLatin1(): true -/
theorem jm_lat (E : ENV) (l : Launch) (q : Nat) (hq : q < 17) : MetJ E l j_ylat j_clat 1 (some .boolean) 0 0 [.ref (eK E q)] (some (.int 1)) := by
  refine Met.ofW (cc := j_clat) (maxL := 1) (ret := (some .boolean)) (by decide) rfl ?_
  intro p e s m args below meth c s₁ B hml hv
  obtain ⟨rfl, hC⟩ := hv
  have hx := B.exec
  have hb := B.bytes
  have hr := B.returns
  have hown : s.vm.findClass "java/lang/String" = some m.cls := findClass_of_methodNamed B.named
  have hlocks := B.notSynchronized
  have hS : va_S (eS E) s.heap s.heap [] := va_S.rf
  have hl := lv_entry ([.ref (eK E q)]) (n := 1) (Nat.le_of_ble_eq_true rfl)
  rw [lg_entry_eq]
  generalize (lg_sl ([.ref (eK E q)]) ++ List.replicate (1 - (lg_sl ([.ref (eK E q)])).length) Slot.unset).toArray = ls at hl ⊢
  refine va_gets hx hb hC.2.2.2.1.2.1 hS hown (hC.word jf_COMPACT_STRINGS rfl rfl) (fun _ h => h) jd_lat_0 ?_
  refine lv_if_eq (tgt := 17) hx hb jd_lat_3 (by decide) (fun z => absurd z (by decide)) (fun _ => ?_)
  refine lv_aload_n hx hb jd_lat_6 rfl (lv_at hl 0 rfl) ?_
  refine vk_getf hx hb (hC.2.2.2.1.1.1 q hq).2.1 hS hown (hC.word jf_coder rfl rfl) (fun _ h => h) jd_lat_7 ?_
  refine lv_if_ne (tgt := 17) hx hb jd_lat_10 (by decide) (fun z => absurd rfl z) (fun _ => ?_)
  refine lv_iconst (v := 1) hx hb jd_lat_13 (by decide) ?_
  refine lv_goto (tgt := 18) hx hb jd_lat_14 (by decide) ?_
  exact W.zret hx hb hr rfl (fun t ht _ => ⟨rfl, ht⟩) (fun q h => absurd h List.not_mem_nil) jd_lat_18 hlocks
set_option maxRecDepth 20000 in
/-- Preconditions.checkIndex -/
theorem jm_pchkN (E : ENV) (l : Launch) (i n : Int) (hi : 0 ≤ i ∧ i < n ∧ n < 2147483648) : MetJ E l j_ypchk j_cpchk 3 (some .int) 0 0 [.int (Int32.ofInt i), .int (Int32.ofInt n), .null] (some (.int (Int32.ofInt i))) := by
  refine Met.ofW (cc := j_cpchk) (maxL := 3) (ret := (some .int)) (by decide) rfl ?_
  intro p e s m args below meth c s₁ B hml hv
  obtain ⟨rfl, hC⟩ := hv
  have hx := B.exec
  have hb := B.bytes
  have hr := B.returns
  have hown : s.vm.findClass "jdk/internal/util/Preconditions" = some m.cls := findClass_of_methodNamed B.named
  have hlocks := B.notSynchronized
  have hS : va_S (eS E) s.heap s.heap [] := va_S.rf
  have hl := lv_entry ([.int (Int32.ofInt i), .int (Int32.ofInt n), .null]) (n := 3) (Nat.le_of_ble_eq_true rfl)
  rw [lg_entry_eq]
  generalize (lg_sl ([.int (Int32.ofInt i), .int (Int32.ofInt n), .null]) ++ List.replicate (3 - (lg_sl ([.int (Int32.ofInt i), .int (Int32.ofInt n), .null])).length) Slot.unset).toArray = ls at hl ⊢
  have i1 : i32 i := by unfold i32; omega
  have n1 : i32 n := by unfold i32; omega
  have hl0 : ls[0]? = some (.val (.int (Int32.ofInt i))) := hl.2.2 (0, _) List.mem_cons_self
  have hl1 : ls[1]? = some (.val (.int (Int32.ofInt n))) := hl.2.2 (1, _) (List.mem_cons_of_mem _ List.mem_cons_self)
  refine lv_iload_n hx hb jd_pchk_0 rfl hl0 ?_
  refine lv_if_lt (tgt := 9) hx hb jd_pchk_1 (by decide) (fun z => absurd ((oI_lt i1 i32_0).mp z) (by omega)) (fun _ => ?_)
  refine lv_iload_n hx hb jd_pchk_4 rfl hl0 ?_
  refine lv_iload_n hx hb jd_pchk_5 rfl hl1 ?_
  refine lv_icmp_lt (tgt := 16) hx hb jd_pchk_6 (by decide) (fun _ => ?_) (fun z => absurd ((oI_lt i1 n1).mpr (by omega)) z)
  refine lv_iload_n hx hb jd_pchk_16 rfl hl0 ?_
  exact W.iret hx hb hr (fun t ht _ => ⟨rfl, ht⟩) (fun q h => absurd h List.not_mem_nil) jd_pchk_17 hlocks
set_option maxRecDepth 20000 in
/-- Preconditions.checkIndex -/
theorem jm_pchkR (E : ENV) (l : Launch) (i n : Int) (hi : 0 ≤ i ∧ i < n ∧ n < 2147483648) (t9 : Nat) : MetJ E l j_ypchk j_cpchk 3 (some .int) 0 0 [.int (Int32.ofInt i), .int (Int32.ofInt n), .ref t9] (some (.int (Int32.ofInt i))) := by
  refine Met.ofW (cc := j_cpchk) (maxL := 3) (ret := (some .int)) (by decide) rfl ?_
  intro p e s m args below meth c s₁ B hml hv
  obtain ⟨rfl, hC⟩ := hv
  have hx := B.exec
  have hb := B.bytes
  have hr := B.returns
  have hown : s.vm.findClass "jdk/internal/util/Preconditions" = some m.cls := findClass_of_methodNamed B.named
  have hlocks := B.notSynchronized
  have hS : va_S (eS E) s.heap s.heap [] := va_S.rf
  have hl := lv_entry ([.int (Int32.ofInt i), .int (Int32.ofInt n), .ref t9]) (n := 3) (Nat.le_of_ble_eq_true rfl)
  rw [lg_entry_eq]
  generalize (lg_sl ([.int (Int32.ofInt i), .int (Int32.ofInt n), .ref t9]) ++ List.replicate (3 - (lg_sl ([.int (Int32.ofInt i), .int (Int32.ofInt n), .ref t9])).length) Slot.unset).toArray = ls at hl ⊢
  have i1 : i32 i := by unfold i32; omega
  have n1 : i32 n := by unfold i32; omega
  have hl0 : ls[0]? = some (.val (.int (Int32.ofInt i))) := hl.2.2 (0, _) List.mem_cons_self
  have hl1 : ls[1]? = some (.val (.int (Int32.ofInt n))) := hl.2.2 (1, _) (List.mem_cons_of_mem _ List.mem_cons_self)
  refine lv_iload_n hx hb jd_pchk_0 rfl hl0 ?_
  refine lv_if_lt (tgt := 9) hx hb jd_pchk_1 (by decide) (fun z => absurd ((oI_lt i1 i32_0).mp z) (by omega)) (fun _ => ?_)
  refine lv_iload_n hx hb jd_pchk_4 rfl hl0 ?_
  refine lv_iload_n hx hb jd_pchk_5 rfl hl1 ?_
  refine lv_icmp_lt (tgt := 16) hx hb jd_pchk_6 (by decide) (fun _ => ?_) (fun z => absurd ((oI_lt i1 n1).mpr (by omega)) z)
  refine lv_iload_n hx hb jd_pchk_16 rfl hl0 ?_
  exact W.iret hx hb hr (fun t ht _ => ⟨rfl, ht⟩) (fun q h => absurd h List.not_mem_nil) jd_pchk_17 hlocks
set_option maxRecDepth 20000 in
/-- String.checkIndex -/
theorem jm_chk (E : ENV) (l : Launch) (i n : Int) (hi : 0 ≤ i ∧ i < n ∧ n < 2147483648) : MetJ E l j_ychk j_cchk 2 none 1 100 [.int (Int32.ofInt i), .int (Int32.ofInt n)] none := by
  refine Met.ofW (cc := j_cchk) (maxL := 2) (ret := none) (by decide) rfl ?_
  intro p e s m args below meth c s₁ B hml hv
  obtain ⟨rfl, hC⟩ := hv
  have hx := B.exec
  have hb := B.bytes
  have hr := B.returns
  have hown : s.vm.findClass "java/lang/String" = some m.cls := findClass_of_methodNamed B.named
  have hlocks := B.notSynchronized
  have hS : va_S (eS E) s.heap s.heap [] := va_S.rf
  have hl := lv_entry ([.int (Int32.ofInt i), .int (Int32.ofInt n)]) (n := 2) (Nat.le_of_ble_eq_true rfl)
  rw [lg_entry_eq]
  generalize (lg_sl ([.int (Int32.ofInt i), .int (Int32.ofInt n)]) ++ List.replicate (2 - (lg_sl ([.int (Int32.ofInt i), .int (Int32.ofInt n)])).length) Slot.unset).toArray = ls at hl ⊢
  refine lv_iload_n hx hb jd_chk_0 rfl (lv_at hl 0 rfl) ?_
  refine lv_iload_n hx hb jd_chk_1 rfl (lv_at hl 1 rfl) ?_
  rcases hC.2.2.2.1.2.2.1 with z | ⟨t9, z⟩
  · skip
    refine va_gets hx hb z hS hown (hC.word jf_SIOOBE_FORMATTER rfl rfl) (fun _ h => h) jd_chk_2 ?_
    refine j_callS (np := 3) (rest := []) hx hb hml hl.1 hown hC hS jd_chk_5 (jm_pchkN E l i n hi) (Nat.le_refl _) (Nat.le_refl _) (by decide) jw_pchk_code ji_p ⟨by decide, by decide⟩ (by decide +kernel) jl_s_pchk jw_pchk_static rfl rfl (by simp) ⟨Nat.le_refl _, Nat.le_refl _⟩ ?_
    refine lv_pop hx hb jd_chk_8 rfl ?_
    exact W.vret hx hb hr (fun t ht _ => ⟨rfl, ht⟩) (fun q h => absurd h List.not_mem_nil) jd_chk_9 hlocks
  · skip
    refine va_gets hx hb z hS hown (hC.word jf_SIOOBE_FORMATTER rfl rfl) (fun _ h => h) jd_chk_2 ?_
    refine j_callS (np := 3) (rest := []) hx hb hml hl.1 hown hC hS jd_chk_5 (jm_pchkR E l i n hi t9) (Nat.le_refl _) (Nat.le_refl _) (by decide) jw_pchk_code ji_p ⟨by decide, by decide⟩ (by decide +kernel) jl_s_pchk jw_pchk_static rfl rfl (by simp) ⟨Nat.le_refl _, Nat.le_refl _⟩ ?_
    refine lv_pop hx hb jd_chk_8 rfl ?_
    exact W.vret hx hb hr (fun t ht _ => ⟨rfl, ht⟩) (fun q h => absurd h List.not_mem_nil) jd_chk_9 hlocks
theorem js_len : ∀ q, q < 17 → jsN.getD q 0 = (nth [] jsT q).length ∧ (nth [] jsT q).length < 100 ∧ ∀ i, i < (nth [] jsT q).length → (jsB.getD q []).getD i 0 = Int32.ofInt (nth 0 (nth [] jsT q) i) ∧ 0 ≤ nth 0 (nth [] jsT q) i ∧ nth 0 (nth [] jsT q) i < 128 := by decide +kernel
theorem js_chr : ∀ x : Fin 128, ((Int32.ofInt (x.val : Nat) &&& 255).toUInt32 % 65536).toInt32 = Int32.ofInt (x.val : Nat) ∧ narrow .char (.int (Int32.ofInt (x.val : Nat))) = .int (Int32.ofInt (x.val : Nat)) := by decide +kernel
set_option maxRecDepth 20000 in
/-- StringLatin1.charAt -/
theorem jm_c1 (E : ENV) (l : Launch) (q : Nat) (hq : q < 17) (i : Int) (hi : 0 ≤ i ∧ i < (nth [] jsT q).length) : MetJ E l j_yc1 j_cc1 2 (some .char) 2 200 [.ref (eV E q), .int (Int32.ofInt i)] (some (.int (Int32.ofInt (nth 0 (nth [] jsT q) i.toNat)))) := by
  refine Met.ofW (cc := j_cc1) (maxL := 2) (ret := (some .char)) (by decide) rfl ?_
  intro p e s m args below meth c s₁ B hml hv
  obtain ⟨rfl, hC⟩ := hv
  have hx := B.exec
  have hb := B.bytes
  have hr := B.returns
  have hown : s.vm.findClass "java/lang/StringLatin1" = some m.cls := findClass_of_methodNamed B.named
  have hlocks := B.notSynchronized
  have hS : va_S (eS E) s.heap s.heap [] := va_S.rf
  have hl := lv_entry ([.ref (eV E q), .int (Int32.ofInt i)]) (n := 2) (Nat.le_of_ble_eq_true rfl)
  rw [lg_entry_eq]
  generalize (lg_sl ([.ref (eV E q), .int (Int32.ofInt i)]) ++ List.replicate (2 - (lg_sl ([.ref (eV E q), .int (Int32.ofInt i)])).length) Slot.unset).toArray = ls at hl ⊢
  obtain ⟨e1, e2, e3⟩ := js_len q hq
  obtain ⟨e4, e5, e6⟩ := e3 i.toNat (by omega)
  have hT := (hC.2.2.2.1.1.1 q hq).2.2.2
  have i1 : i32 i := by unfold i32; omega
  refine lv_iload_n hx hb jd_c1_0 rfl (lv_at hl 1 rfl) ?_
  refine lv_aload_n hx hb jd_c1_1 rfl (lv_at hl 0 rfl) ?_
  refine va_tlen hx hb hT hS (v := Int32.ofInt ((nth [] jsT q).length : Nat)) (by rw [e1]; exact Int32.ofInt_eq_ofNat.symm) jd_c1_2 ?_
  refine j_callS (np := 2) (as := [.int (Int32.ofInt i), .int (Int32.ofInt ((nth [] jsT q).length : Nat))]) (rest := []) hx hb hml hl.1 hown hC hS jd_c1_3 (jm_chk E l i ((nth [] jsT q).length : Nat) ⟨hi.1, hi.2, by omega⟩) (Nat.le_refl _) (Nat.le_refl _) (by decide) jw_chk_code ji_s ⟨by decide, by decide⟩ (by decide +kernel) jl_l_chk jw_chk_static rfl rfl (by simp) ⟨Nat.le_refl _, Nat.le_refl _⟩ ?_
  refine lv_aload_n hx hb jd_c1_6 rfl (lv_at hl 0 rfl) ?_
  refine lv_iload_n hx hb jd_c1_7 rfl (lv_at hl 1 rfl) ?_
  refine va_tb hx hb hT hS (oI_in i1 hi.1 (by rw [e1]; exact hi.2)) (v := .int (Int32.ofInt (nth 0 (nth [] jsT q) i.toNat))) (by rw [oI_clamp i1]; exact congrArg Value.int e4) jd_c1_8 ?_
  refine lv_sipush (v := 255) hx hb jd_c1_9 (by decide) ?_
  refine lv_iand hx hb jd_c1_12 ?_
  obtain ⟨z1, z2⟩ := js_chr ⟨(nth 0 (nth [] jsT q) i.toNat).toNat, by omega⟩
  simp only [Int.toNat_of_nonneg e5] at z1 z2
  refine lv_i2c hx hb jd_c1_13 z1 ?_
  exact W.zret hx hb hr z2 (fun t ht _ => ⟨rfl, ht⟩) (fun q h => absurd h List.not_mem_nil) jd_c1_14 hlocks
set_option maxRecDepth 20000 in
/-- length() -/
theorem jm_len (E : ENV) (l : Launch) (f L : Nat) (hf9 : 1 ≤ f) (hL9 : 100 ≤ L) (q : Nat) (hq : q < 17) : MetJ E l j_ylen j_clen 1 (some .int) f L [.ref (eK E q)] (some (.int (Int32.ofInt ((nth [] jsT q).length : Nat)))) := by
  refine Met.ofW (cc := j_clen) (maxL := 1) (ret := (some .int)) (by decide) rfl ?_
  intro p e s m args below meth c s₁ B hml hv
  obtain ⟨rfl, hC⟩ := hv
  have hx := B.exec
  have hb := B.bytes
  have hr := B.returns
  have hown : s.vm.findClass "java/lang/String" = some m.cls := findClass_of_methodNamed B.named
  have hlocks := B.notSynchronized
  have hS : va_S (eS E) s.heap s.heap [] := va_S.rf
  have hl := lv_entry ([.ref (eK E q)]) (n := 1) (Nat.le_of_ble_eq_true rfl)
  rw [lg_entry_eq]
  generalize (lg_sl ([.ref (eK E q)]) ++ List.replicate (1 - (lg_sl ([.ref (eK E q)])).length) Slot.unset).toArray = ls at hl ⊢
  obtain ⟨e1, e2, e3⟩ := js_len q hq
  refine lv_aload_n hx hb jd_len_0 rfl (lv_at hl 0 rfl) ?_
  refine vk_getf hx hb (hC.2.2.2.1.1.1 q hq).2.2.1 hS hown (hC.word jf_value rfl rfl) (fun _ h => h) jd_len_1 ?_
  refine va_tlen hx hb (hC.2.2.2.1.1.1 q hq).2.2.2 hS (v := nI (nth [] jsT q).length) (by rw [e1]; rfl) jd_len_4 ?_
  refine lv_aload_n hx hb jd_len_5 rfl (lv_at hl 0 rfl) ?_
  refine j_callV (np := 0) (q := q) (as' := []) (rest := [.int (nI (nth [] jsT q).length)]) hx hb hml hl.1 hown hC hS jd_len_6 (jm_coder E l q hq) hf9 hL9 (by decide) jw_coder_code ji_s ⟨by decide, by decide⟩ (by decide +kernel) jl_s_coder jw_coder_instanceMethod jw_coder_sel hq rfl rfl (by simp [Value.category]) ⟨Nat.le_refl _, Nat.le_refl _⟩ ?_
  refine lv_ishr hx hb jd_len_9 ?_
  rw [sc_shr0 (by omega), show nI (nth [] jsT q).length = Int32.ofInt ((nth [] jsT q).length : Nat) from Int32.ofInt_eq_ofNat.symm]
  exact W.iret hx hb hr (fun t ht _ => ⟨rfl, ht⟩) (fun q h => absurd h List.not_mem_nil) jd_len_10 hlocks
set_option maxRecDepth 20000 in
/-- charAt(i) -/
theorem jm_chr (E : ENV) (l : Launch) (f L : Nat) (hf9 : 3 ≤ f) (hL9 : 300 ≤ L) (q : Nat) (hq : q < 17) (i : Int) (hi : 0 ≤ i ∧ i < (nth [] jsT q).length) : MetJ E l j_ychr j_cchr 2 (some .char) f L [.ref (eK E q), .int (Int32.ofInt i)] (some (.int (Int32.ofInt (nth 0 (nth [] jsT q) i.toNat)))) := by
  refine Met.ofW (cc := j_cchr) (maxL := 2) (ret := (some .char)) (by decide) rfl ?_
  intro p e s m args below meth c s₁ B hml hv
  obtain ⟨rfl, hC⟩ := hv
  have hx := B.exec
  have hb := B.bytes
  have hr := B.returns
  have hown : s.vm.findClass "java/lang/String" = some m.cls := findClass_of_methodNamed B.named
  have hlocks := B.notSynchronized
  have hS : va_S (eS E) s.heap s.heap [] := va_S.rf
  have hl := lv_entry ([.ref (eK E q), .int (Int32.ofInt i)]) (n := 2) (Nat.le_of_ble_eq_true rfl)
  rw [lg_entry_eq]
  generalize (lg_sl ([.ref (eK E q), .int (Int32.ofInt i)]) ++ List.replicate (2 - (lg_sl ([.ref (eK E q), .int (Int32.ofInt i)])).length) Slot.unset).toArray = ls at hl ⊢
  obtain ⟨e1, e2, e3⟩ := js_len q hq
  obtain ⟨e4, e5, e6⟩ := e3 i.toNat (by omega)
  obtain ⟨z1, z2⟩ := js_chr ⟨(nth 0 (nth [] jsT q) i.toNat).toNat, by omega⟩
  simp only [Int.toNat_of_nonneg e5] at z1 z2
  refine lv_aload_n hx hb jd_chr_0 rfl (lv_at hl 0 rfl) ?_
  refine j_callV (np := 0) (q := q) (as' := []) (rest := []) hx hb hml hl.1 hown hC hS jd_chr_1 (jm_lat E l q hq) (show 0 + 1 ≤ f by omega) (show 0 + 100 ≤ L by omega) (by decide) jw_lat_code ji_s ⟨by decide, by decide⟩ (by decide +kernel) jl_s_lat jw_lat_instanceMethod jw_lat_sel hq rfl rfl (by simp) ⟨Nat.le_refl _, Nat.le_refl _⟩ ?_
  refine lv_if_eq (tgt := 16) hx hb jd_chr_4 (by decide) (fun z => absurd z (by decide)) (fun _ => ?_)
  refine lv_aload_n hx hb jd_chr_7 rfl (lv_at hl 0 rfl) ?_
  refine vk_getf hx hb (hC.2.2.2.1.1.1 q hq).2.2.1 hS hown (hC.word jf_value rfl rfl) (fun _ h => h) jd_chr_8 ?_
  refine lv_iload_n hx hb jd_chr_11 rfl (lv_at hl 1 rfl) ?_
  refine j_callS (np := 2) (as := [.ref (eV E q), .int (Int32.ofInt i)]) (rest := []) hx hb hml hl.1 hown hC hS jd_chr_12 (jm_c1 E l q hq i hi) hf9 hL9 (by decide) jw_c1_code ji_l ⟨by decide, by decide⟩ (by decide +kernel) jl_s_c1 jw_c1_static rfl rfl (by simp) ⟨Nat.le_refl _, Nat.le_refl _⟩ ?_
  exact W.zret hx hb hr z2 (fun t ht _ => ⟨rfl, ht⟩) (fun q h => absurd h List.not_mem_nil) jd_chr_15 hlocks
theorem metJ_OK {E : ENV} {l : Launch} {y : MethodName} {by' : ByteArray} {maxL d : Nat} {ret : Option FieldType} {as : List MV} {μ : MM} {r : Option MV} (hr : ∀ v ∈ r, ∃ x, v = mI x ∧ i32 x) (h : ∀ ad : Nat → Nat, MetJ E l y by' maxL ret (d + 8) (200 * (d + 8)) (as.map (eTo E ad)) (r.map (eTo E ad))) : MetOK E l y by' maxL ret d as μ r μ := by
  intro ad
  rw [Nat.sub_self, Nat.sub_self]
  have h9 := h ad
  unfold MetJ Met at h9
  unfold Met
  refine MetFree.mono h9 (fun a st hp => ⟨hp.1, hp.2.2.1⟩) (fun _ _ _ _ _ z => z) (fun a st o t hp hq => ?_)
  obtain ⟨⟨h1, h2⟩, L, hL, hf⟩ := hq
  refine ⟨⟨ad, fun _ _ => rfl, h1, by rw [h2]; exact hp.2.1, ⟨by rw [h2]; exact Nat.le_refl _, fun q _ _ => by rw [h2]⟩, fun v hv => ?_⟩, L, hL, fun q hq => (hf q hq).elim⟩
  obtain ⟨x, rfl, hx⟩ := hr v hv
  exact hx
theorem str_ok (E : ENV) (l : Launch) : STRR E l := by
  refine ⟨fun d a μ h0 h1 => metJ_OK (fun v hv => ?_) (fun ad => ?_), fun d a i μ h0 h1 h2 h3 => metJ_OK (fun v hv => ?_) (fun ad => ?_)⟩
  · cases hv
    have := (js_len a.toNat (by omega)).2.1
    exact ⟨_, rfl, by unfold i32; omega⟩
  · have := jm_len E l (d + 8) (200 * (d + 8)) (by omega) (by omega) a.toNat (by omega)
    rw [show [mR 2 a].map (eTo E ad) = [Value.ref (eK E a.toNat)] from congrArg (fun z => [z]) (by simp only [eTo, toV]; rw [if_neg (by omega)]; rfl)]
    exact this
  · cases hv
    obtain ⟨e1, e2, e3⟩ := js_len a.toNat (by omega)
    obtain ⟨e4, e5, e6⟩ := e3 i.toNat (by omega)
    exact ⟨_, rfl, by unfold i32; omega⟩
  · have := jm_chr E l (d + 8) (200 * (d + 8)) (by omega) (by omega) a.toNat (by omega) i ⟨h2, h3⟩
    rw [show [mR 2 a, mI i].map (eTo E ad) = [Value.ref (eK E a.toNat), .int (Int32.ofInt i)] from congrArg (fun z => [z, Value.int (Int32.ofInt i)]) (by simp only [eTo, toV]; rw [if_neg (by omega)]; rfl)]
    exact this
