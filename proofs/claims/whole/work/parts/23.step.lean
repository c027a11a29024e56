theorem inI_of {n : Int} (h : inI n = true) : i32 n := of_decide_eq_true (p := -2147483648 ≤ n ∧ n < 2147483648) h
theorem i32_nat {n : Nat} (h : n < 2147483648) : i32 (n : Nat) := by unfold i32; omega
theorem i64_nat {n : Nat} (h : n < 2147483648) : i64 (n : Nat) := by unfold i64; omega
theorem tok_copy {x : Nat × Nat × Nat} (h : TOK x) (q : x.2.2 / 128 = 1002) : Cond.methodLink (own x.1) x.2.1 arraycopyName ∈ lw_tbl := by
  rcases h with h | h | h | h | h | h
  · omega
  · exact h.2
  · omega
  · omega
  · omega
  · omega
theorem iok_obj {x : Nat × Nat × Nat} (h : IOK x) (q : x.2.2 / 128 = 1003) : Cond.methodLink (own x.1) x.2.1 Lib.objectInit ∈ lw_tbl := by
  rcases h with h | h
  · omega
  · exact h.2
section Step9
variable {E : ENV} {p : Program} {l : Launch} {e : Env} {R : Room} {s : State} {mid : MethodId} {args : Array Value} {below : List Frame} {meth : Method} {c : Code} {Q : State → Prop} {bytes : ByteArray} {nL o : Nat} {c0 s0 CM SM : Nat} {top0 : Int} {ad0 : Nat → Nat} {pc : Nat} {ls st : List MV} {μ : MM}
theorem ws_null9 {f : Nat} {u : Int} {r : List MV} (h4 : 4 ≤ f) (h : WS E p l e R s mid args below meth c nL c0 s0 top0 ad0 Q pc ls (ld f (-1) :: r) μ) : WS E p l e R s mid args below meth c nL c0 s0 top0 ad0 Q pc ls (mR 9 u :: r) μ := by
  intro H locs lsR ad hS hR hL hok ht hx hc hs
  obtain ⟨f, rfl⟩ : ∃ q, f = q + 4 := ⟨f - 4, by omega⟩
  have hu := st_hd hok
  have hu : u < 0 ∨ (u < gTop μ.1 ∧ gTy μ.1 u = 9) := hu
  have hu9 : u < 0 := by
    rcases hu with q | q
    · exact q
    · by_cases z : u < 0
      · exact z
      · rcases (hR.2.2.1.2 u (by omega) q.1).1 with w | w <;> omega
  have := h H locs lsR ad hS hR hL (st_ok (show okV μ.1 (mR (f + 4) (-1)) from Or.inl (by omega)) (st_tl hok)) ht hx hc hs
  rw [List.map_cons] at this ⊢
  rw [show eTo E ad (mR 9 u) = .null by simp [eTo, toV, hu9]]
  exact this
theorem ws_sald9 {a i : Int} (F : FX E p R s mid c bytes nL (own o) c0 s0 CM SM) (hd : decode bytes pc = .ok (.iaload, 1)) (ha : 0 ≤ i ∧ i < gLn μ.1 (-1)) (kk : WS E p l e R s mid args below meth c nL c0 s0 top0 ad0 Q (pc + 1) ls (mI (μ.2 (-1) i) :: st) μ) : WS E p l e R s mid args below meth c nL c0 s0 top0 ad0 Q pc ls (mI i :: mR 1 a :: st) μ := by
  intro H locs lsR ad hS hR hL hok ht hx hc hs
  exact ws_sald F hd ha (show 0 ≤ a from st_hd (st_tl hok)) kk H locs lsR ad hS hR hL hok ht hx hc hs
theorem sim_step {K : Nat → List MV → List MV → MM → MRes} {cr : Nat → Nat → List MV → MM → (Option MV → MM → MRes) → MRes} {r : Option MV} {ν : MM} {rk : Nat} {ini : Bool}
    (F : FX E p R s mid c bytes nL (own o) c0 s0 CM SM) (i : Instr) (hck : chkI ini o bytes pc i = true) (hini : ini = true → meth.name = "<init>") (hfr : 1 ≤ R.frames) (hlo : 200 ≤ R.locals) (hCM : gCl ν.1 ≤ CM) (hSM : gSl ν.1 ≤ SM)
    (hK : ∀ pc' ls' st' μ', K pc' ls' st' μ' = some (r, ν) → WS E p l e R s mid args below meth c nL c0 s0 top0 ad0 Q pc' ls' st' μ')
    (hgr : ∀ pc' ls' st' μ', K pc' ls' st' μ' = some (r, ν) → Gr μ' ν)
    (hfin : RetI rk i st μ r ν → WS E p l e R s mid args below meth c nL c0 s0 top0 ad0 Q pc ls st μ)
    (hcS : ∀ k en, decode bytes pc = .ok (.invokestatic k, 3) → TOK (o, k, en) → ¬ en / 128 = 1002 → en % 16 ≤ st.length → (st.drop (en % 16)).length ≤ 4 → cr (en / 128) (en / 16 % 8) (st.take (en % 16)).reverse μ (fun v μ => K (pc + 3) ls (v.toList ++ st.drop (en % 16)) μ) = some (r, ν) → WS E p l e R s mid args below meth c nL c0 s0 top0 ad0 Q pc ls st μ)
    (hcV : ∀ k en, decode bytes pc = .ok (.invokevirtual k, 3) → VOK (o, k, en) → en % 16 ≤ st.length → (st.drop (en % 16)).length ≤ 4 → cr (en / 128) (en / 16 % 8) (st.take (en % 16)).reverse μ (fun v μ => K (pc + 3) ls (v.toList ++ st.drop (en % 16)) μ) = some (r, ν) → WS E p l e R s mid args below meth c nL c0 s0 top0 ad0 Q pc ls st μ)
    (hcI : ∀ k en, decode bytes pc = .ok (.invokespecial k, 3) → IOK (o, k, en) → ¬ en / 128 = 1003 → en % 16 ≤ st.length → (st.drop (en % 16)).length ≤ 4 → cr (en / 128) (en / 16 % 8) (st.take (en % 16)).reverse μ (fun v μ => K (pc + 3) ls (v.toList ++ st.drop (en % 16)) μ) = some (r, ν) → WS E p l e R s mid args below meth c nL c0 s0 top0 ad0 Q pc ls st μ)
    (hc9 : ∀ en, en / 128 = 1999 → cr (en / 128) (en / 16 % 8) (st.take (en % 16)).reverse μ (fun v μ => K (pc + 3) ls (v.toList ++ st.drop (en % 16)) μ) = some (r, ν) → WS E p l e R s mid args below meth c nL c0 s0 top0 ad0 Q pc ls st μ)
    (h : stepG (α := MRes) none (fun p dp x => @ite _ p dp x none) (fun _ b k => k b) K (fun r μ => some (r, μ)) cr rk i pc ls st μ = some (r, ν)) : WS E p l e R s mid args below meth c nL c0 s0 top0 ad0 Q pc ls st μ := by
  cases i with
  | iconst n =>
    simp only [stepG] at h
    simp only [chkI, Bool.and_eq_true] at hck
    exact ws_iconst F (dq_of hck.1) (inI_of hck.2) (hK _ _ _ _ h)
  | bipush n =>
    simp only [stepG] at h
    simp only [chkI, Bool.and_eq_true] at hck
    exact ws_bipush F (dq_of hck.1) (inI_of hck.2.1) (of_decide_eq_true hck.2.2) (hK _ _ _ _ h)
  | sipush n =>
    simp only [stepG] at h
    simp only [chkI, Bool.and_eq_true] at hck
    exact ws_sipush F (dq_of hck.1) (inI_of hck.2.1) (of_decide_eq_true hck.2.2) (hK _ _ _ _ h)
  | lconst n =>
    simp only [stepG] at h
    simp only [chkI] at hck
    exact ws_lconst F (dq_of hck) (hK _ _ _ _ h)
  | aconst_null =>
    simp only [stepG] at h
    simp only [chkI] at hck
    exact ws_null F (dq_of hck) (hK _ _ _ _ h)
  | ldc n =>
    simp only [stepG] at h
    simp only [chkI] at hck
    split at hck
    · rename_i k hd
      simp only [Bool.and_eq_true] at hck
      obtain ⟨v, rfl, hv⟩ := poolK_ok _ (inP_mem hck.1)
      exact ws_ldc F hd hv (i32_nat (of_decide_eq_true hck.2)) (hK _ _ _ _ h)
    · cases hck
  | ldc_w n =>
    simp only [stepG] at h
    simp only [chkI] at hck
    split at hck
    · rename_i k hd
      simp only [Bool.and_eq_true] at hck
      obtain ⟨v, rfl, hv⟩ := poolK_ok _ (inP_mem hck.1)
      exact ws_ldcw F hd hv (i32_nat (of_decide_eq_true hck.2)) (hK _ _ _ _ h)
    · cases hck
  | ldc2_w n =>
    simp only [stepG] at h
    simp only [chkI] at hck
    split at hck
    · rename_i k hd
      simp only [Bool.and_eq_true] at hck
      obtain ⟨v, rfl, hv⟩ := poolL_ok _ (inP_mem hck.1)
      exact ws_ldc2 F hd hv (i64_nat (of_decide_eq_true hck.2)) (hK _ _ _ _ h)
    · cases hck
  | instanceof n =>
    simp only [stepG] at h
    simp only [chkI] at hck
    split at hck
    · rename_i k hd
      simp only [Bool.and_eq_true] at hck
      obtain ⟨tx, hv⟩ := poolS_ok _ (inP_mem hck.1)
      exact ws_ldcS F hd hv (of_decide_eq_true hck.2) (hK _ _ _ _ h)
    · cases hck
  | checkcast n =>
    simp only [stepG] at h
    simp only [chkI] at hck
    split at hck
    · rename_i k hd
      simp only [Bool.and_eq_true] at hck
      obtain ⟨tx, hv⟩ := poolS_ok _ (inP_mem hck.1)
      exact ws_ldcwS F hd hv (of_decide_eq_true hck.2) (hK _ _ _ _ h)
    · cases hck
  | iload k =>
    simp only [stepG] at h
    simp only [chkI] at hck
    obtain ⟨x, hl, h⟩ := lI_inv h
    exact ws_iload F (dq_of hck) hl (hK _ _ _ _ h)
  | iload_n k =>
    simp only [stepG] at h
    simp only [chkI] at hck
    obtain ⟨x, hl, h⟩ := lI_inv h
    exact ws_iload_n F (dq_of hck) hl (hK _ _ _ _ h)
  | lload k =>
    simp only [stepG] at h
    simp only [chkI] at hck
    obtain ⟨x, hl, h⟩ := lL_inv h
    exact ws_lload F (dq_of hck) hl (hK _ _ _ _ h)
  | lload_n k =>
    simp only [stepG] at h
    simp only [chkI] at hck
    obtain ⟨x, hl, h⟩ := lL_inv h
    exact ws_lload_n F (dq_of hck) hl (hK _ _ _ _ h)
  | aload k =>
    simp only [stepG] at h
    simp only [chkI] at hck
    obtain ⟨t, x, ht0, hl, h⟩ := lR_inv h
    exact ws_aload F ht0 (dq_of hck) hl (hK _ _ _ _ h)
  | istore k =>
    simp only [stepG] at h
    simp only [chkI] at hck
    obtain ⟨x, r, rfl, h1⟩ := pI_inv h
    obtain ⟨hq, h2⟩ := sI_inv h1
    exact ws_istore F (dq_of hck) hq (hK _ _ _ _ h2)
  | lstore k =>
    simp only [stepG] at h
    simp only [chkI] at hck
    obtain ⟨x, r, rfl, h1⟩ := pL_inv h
    obtain ⟨hq, h2⟩ := sL_inv h1
    exact ws_lstore F (dq_of hck) hq (hK _ _ _ _ h2)
  | astore k =>
    simp only [stepG] at h
    simp only [chkI] at hck
    obtain ⟨t, x, r, rfl, h1⟩ := pR_inv h
    obtain ⟨hq, h2⟩ := sI_inv h1
    exact ws_astore F (dq_of hck) hq (hK _ _ _ _ h2)
  | aload_n k =>
    simp only [stepG] at h
    simp only [chkI] at hck
    obtain ⟨t, x, ht0, hl, h⟩ := lR_inv h
    exact ws_aload_n F ht0 (dq_of hck) hl (hK _ _ _ _ h)
  | istore_n k =>
    simp only [stepG] at h
    simp only [chkI] at hck
    obtain ⟨x, r, rfl, h1⟩ := pI_inv h
    obtain ⟨hq, h2⟩ := sI_inv h1
    exact ws_istore_n F (dq_of hck) hq (hK _ _ _ _ h2)
  | lstore_n k =>
    simp only [stepG] at h
    simp only [chkI] at hck
    obtain ⟨x, r, rfl, h1⟩ := pL_inv h
    obtain ⟨hq, h2⟩ := sL_inv h1
    exact ws_lstore_n F (dq_of hck) hq (hK _ _ _ _ h2)
  | astore_n k =>
    simp only [stepG] at h
    simp only [chkI] at hck
    obtain ⟨t, x, r, rfl, h1⟩ := pR_inv h
    obtain ⟨hq, h2⟩ := sI_inv h1
    exact ws_astore_n F (dq_of hck) hq (hK _ _ _ _ h2)
  | iinc k n =>
    simp only [stepG] at h
    simp only [chkI] at hck
    obtain ⟨x, hl, h1⟩ := lI_inv h
    obtain ⟨hq, h2⟩ := sI_inv h1
    exact ws_iinc F (dq_of hck) hl (hK _ _ _ _ h2)
  | iadd =>
    simp only [stepG] at h
    simp only [chkI] at hck
    obtain ⟨y, r, rfl, h1⟩ := pI_inv h
    obtain ⟨x, r2, rfl, h2⟩ := pI_inv h1
    exact ws_iadd F (dq_of hck) (hK _ _ _ _ h2)
  | isub =>
    simp only [stepG] at h
    simp only [chkI] at hck
    obtain ⟨y, r, rfl, h1⟩ := pI_inv h
    obtain ⟨x, r2, rfl, h2⟩ := pI_inv h1
    exact ws_isub F (dq_of hck) (hK _ _ _ _ h2)
  | imul =>
    simp only [stepG] at h
    simp only [chkI] at hck
    obtain ⟨y, r, rfl, h1⟩ := pI_inv h
    obtain ⟨x, r2, rfl, h2⟩ := pI_inv h1
    exact ws_imul F (dq_of hck) (hK _ _ _ _ h2)
  | iand =>
    simp only [stepG] at h
    simp only [chkI] at hck
    obtain ⟨y, r, rfl, h1⟩ := pI_inv h
    obtain ⟨x, r2, rfl, h2⟩ := pI_inv h1
    exact ws_iand F (dq_of hck) (hK _ _ _ _ h2)
  | ior =>
    simp only [stepG] at h
    simp only [chkI] at hck
    obtain ⟨y, r, rfl, h1⟩ := pI_inv h
    obtain ⟨x, r2, rfl, h2⟩ := pI_inv h1
    exact ws_ior F (dq_of hck) (hK _ _ _ _ h2)
  | ixor =>
    simp only [stepG] at h
    simp only [chkI] at hck
    obtain ⟨y, r, rfl, h1⟩ := pI_inv h
    obtain ⟨x, r2, rfl, h2⟩ := pI_inv h1
    exact ws_ixor F (dq_of hck) (hK _ _ _ _ h2)
  | ishl =>
    simp only [stepG] at h
    simp only [chkI] at hck
    obtain ⟨y, r, rfl, h1⟩ := pI_inv h
    obtain ⟨x, r2, rfl, h2⟩ := pI_inv h1
    exact ws_ishl F (dq_of hck) (hK _ _ _ _ h2)
  | ishr =>
    simp only [stepG] at h
    simp only [chkI] at hck
    obtain ⟨y, r, rfl, h1⟩ := pI_inv h
    obtain ⟨x, r2, rfl, h2⟩ := pI_inv h1
    exact ws_ishr F (dq_of hck) (hK _ _ _ _ h2)
  | iushr =>
    simp only [stepG] at h
    simp only [chkI] at hck
    obtain ⟨y, r, rfl, h1⟩ := pI_inv h
    obtain ⟨x, r2, rfl, h2⟩ := pI_inv h1
    exact ws_iushr F (dq_of hck) (hK _ _ _ _ h2)
  | ladd =>
    simp only [stepG] at h
    simp only [chkI] at hck
    obtain ⟨y, r, rfl, h1⟩ := pL_inv h
    obtain ⟨x, r2, rfl, h2⟩ := pL_inv h1
    exact ws_ladd F (dq_of hck) (hK _ _ _ _ h2)
  | lsub =>
    simp only [stepG] at h
    simp only [chkI] at hck
    obtain ⟨y, r, rfl, h1⟩ := pL_inv h
    obtain ⟨x, r2, rfl, h2⟩ := pL_inv h1
    exact ws_lsub F (dq_of hck) (hK _ _ _ _ h2)
  | lmul =>
    simp only [stepG] at h
    simp only [chkI] at hck
    obtain ⟨y, r, rfl, h1⟩ := pL_inv h
    obtain ⟨x, r2, rfl, h2⟩ := pL_inv h1
    exact ws_lmul F (dq_of hck) (hK _ _ _ _ h2)
  | land =>
    simp only [stepG] at h
    simp only [chkI] at hck
    obtain ⟨y, r, rfl, h1⟩ := pL_inv h
    obtain ⟨x, r2, rfl, h2⟩ := pL_inv h1
    exact ws_land F (dq_of hck) (hK _ _ _ _ h2)
  | lor =>
    simp only [stepG] at h
    simp only [chkI] at hck
    obtain ⟨y, r, rfl, h1⟩ := pL_inv h
    obtain ⟨x, r2, rfl, h2⟩ := pL_inv h1
    exact ws_lor F (dq_of hck) (hK _ _ _ _ h2)
  | lcmp =>
    simp only [stepG] at h
    simp only [chkI] at hck
    obtain ⟨y, r, rfl, h1⟩ := pL_inv h
    obtain ⟨x, r2, rfl, h2⟩ := pL_inv h1
    exact ws_lcmp F (dq_of hck) (hK _ _ _ _ h2)
  | lshl =>
    simp only [stepG] at h
    simp only [chkI] at hck
    obtain ⟨y, r, rfl, h1⟩ := pI_inv h
    obtain ⟨x, r2, rfl, h2⟩ := pL_inv h1
    exact ws_lshl F (dq_of hck) (hK _ _ _ _ h2)
  | lshr =>
    simp only [stepG] at h
    simp only [chkI] at hck
    obtain ⟨y, r, rfl, h1⟩ := pI_inv h
    obtain ⟨x, r2, rfl, h2⟩ := pL_inv h1
    exact ws_lshr F (dq_of hck) (hK _ _ _ _ h2)
  | idiv =>
    simp only [stepG] at h
    simp only [chkI] at hck
    obtain ⟨y, r, rfl, h1⟩ := pI_inv h
    obtain ⟨x, r2, rfl, h2⟩ := pI_inv h1
    obtain ⟨h3, h4⟩ := ite_inv h2
    exact ws_idiv F (dq_of hck) h3 (hK _ _ _ _ h4)
  | irem =>
    simp only [stepG] at h
    simp only [chkI] at hck
    obtain ⟨y, r, rfl, h1⟩ := pI_inv h
    obtain ⟨x, r2, rfl, h2⟩ := pI_inv h1
    obtain ⟨h3, h4⟩ := ite_inv h2
    exact ws_irem F (dq_of hck) h3 (hK _ _ _ _ h4)
  | ldiv =>
    simp only [stepG] at h
    simp only [chkI] at hck
    obtain ⟨y, r, rfl, h1⟩ := pL_inv h
    obtain ⟨x, r2, rfl, h2⟩ := pL_inv h1
    obtain ⟨h3, h4⟩ := ite_inv h2
    exact ws_ldiv F (dq_of hck) h3 (hK _ _ _ _ h4)
  | lrem =>
    simp only [stepG] at h
    simp only [chkI] at hck
    obtain ⟨y, r, rfl, h1⟩ := pL_inv h
    obtain ⟨x, r2, rfl, h2⟩ := pL_inv h1
    obtain ⟨h3, h4⟩ := ite_inv h2
    exact ws_lrem F (dq_of hck) h3 (hK _ _ _ _ h4)
  | ineg =>
    simp only [stepG] at h
    simp only [chkI] at hck
    obtain ⟨x, r, rfl, h1⟩ := pI_inv h
    exact ws_ineg F (dq_of hck) (hK _ _ _ _ h1)
  | i2l =>
    simp only [stepG] at h
    simp only [chkI] at hck
    obtain ⟨x, r, rfl, h1⟩ := pI_inv h
    exact ws_i2l F (dq_of hck) (hK _ _ _ _ h1)
  | l2i =>
    simp only [stepG] at h
    simp only [chkI] at hck
    obtain ⟨x, r, rfl, h1⟩ := pL_inv h
    exact ws_l2i F (dq_of hck) (hK _ _ _ _ h1)
  | i2b =>
    simp only [stepG] at h
    simp only [chkI] at hck
    obtain ⟨x, r, rfl, h1⟩ := pI_inv h
    exact ws_i2b F (dq_of hck) (hK _ _ _ _ h1)
  | dup =>
    simp only [stepG] at h
    simp only [chkI] at hck
    split at h
    · exact ws_dupI F (dq_of hck) (hK _ _ _ _ h)
    · exact ws_dupR F (dq_of hck) (hK _ _ _ _ h)
    · cases h
  | pop =>
    simp only [stepG] at h
    simp only [chkI] at hck
    split at h
    · exact ws_popI F (dq_of hck) (hK _ _ _ _ h)
    · exact ws_popR F (dq_of hck) (hK _ _ _ _ h)
    · cases h
  | dup2 =>
    simp only [stepG] at h
    simp only [chkI] at hck
    split at h
    · exact ws_dup2a F (dq_of hck) (hK _ _ _ _ h)
    · exact ws_dup2b F (dq_of hck) (hK _ _ _ _ h)
    · cases h
  | goto t =>
    simp only [stepG] at h
    simp only [chkI] at hck
    split at hck
    · rename_i f hd
      have hck := of_decide_eq_true hck
      exact ws_goto F hd (by rw [Int.toNat_of_nonneg hck.2]; exact hck.1) (hK _ _ _ _ h)
    · cases hck
  | ifnull t =>
    simp only [stepG] at h
    simp only [chkI] at hck
    split at hck
    · rename_i f hd
      have hck := of_decide_eq_true hck
      obtain ⟨u, x, r, rfl, h1⟩ := pR_inv h
      exact ws_ifnull F hd (by rw [Int.toNat_of_nonneg hck.2]; exact hck.1) (fun q => by rw [if_pos q] at h1; exact hK _ _ _ _ h1) (fun q => by rw [if_neg q] at h1; exact hK _ _ _ _ h1)
    · cases hck
  | ifnonnull t =>
    simp only [stepG] at h
    simp only [chkI] at hck
    split at hck
    · rename_i f hd
      have hck := of_decide_eq_true hck
      obtain ⟨u, x, r, rfl, h1⟩ := pR_inv h
      exact ws_ifnonnull F hd (by rw [Int.toNat_of_nonneg hck.2]; exact hck.1) (fun q => by rw [if_neg q] at h1; exact hK _ _ _ _ h1) (fun q => by rw [if_pos q] at h1; exact hK _ _ _ _ h1)
    · cases hck
  | ifCond cc t =>
    simp only [stepG] at h
    simp only [chkI] at hck
    split at hck
    · rename_i c9 f hd
      have hck := of_decide_eq_true hck
      obtain rfl := hck.1
      obtain ⟨x, r, rfl, h1⟩ := pI_inv h
      cases c9 with
      | eq => simp only [br] at h1; exact ws_if_eq F hd (by rw [Int.toNat_of_nonneg hck.2.2]; exact hck.2.1) (fun q => by rw [if_pos q] at h1; exact hK _ _ _ _ h1) (fun q => by rw [if_neg q] at h1; exact hK _ _ _ _ h1)
      | ne => simp only [br] at h1; exact ws_if_ne F hd (by rw [Int.toNat_of_nonneg hck.2.2]; exact hck.2.1) (fun q => by rw [if_neg q] at h1; exact hK _ _ _ _ h1) (fun q => by rw [if_pos (Decidable.of_not_not q)] at h1; exact hK _ _ _ _ h1)
      | lt => simp only [br] at h1; exact ws_if_lt F hd (by rw [Int.toNat_of_nonneg hck.2.2]; exact hck.2.1) (fun q => by rw [if_pos q] at h1; exact hK _ _ _ _ h1) (fun q => by rw [if_neg q] at h1; exact hK _ _ _ _ h1)
      | ge => simp only [br] at h1; exact ws_if_ge F hd (by rw [Int.toNat_of_nonneg hck.2.2]; exact hck.2.1) (fun q => by rw [if_neg q] at h1; exact hK _ _ _ _ h1) (fun q => by rw [if_pos (Decidable.of_not_not q)] at h1; exact hK _ _ _ _ h1)
      | gt => simp only [br] at h1; exact ws_if_gt F hd (by rw [Int.toNat_of_nonneg hck.2.2]; exact hck.2.1) (fun q => by rw [if_pos q] at h1; exact hK _ _ _ _ h1) (fun q => by rw [if_neg q] at h1; exact hK _ _ _ _ h1)
      | le => simp only [br] at h1; exact ws_if_le F hd (by rw [Int.toNat_of_nonneg hck.2.2]; exact hck.2.1) (fun q => by rw [if_neg q] at h1; exact hK _ _ _ _ h1) (fun q => by rw [if_pos (Decidable.of_not_not q)] at h1; exact hK _ _ _ _ h1)
    · cases hck
  | if_icmp cc t =>
    simp only [stepG] at h
    simp only [chkI] at hck
    split at hck
    · rename_i c9 f hd
      have hck := of_decide_eq_true hck
      obtain rfl := hck.1
      obtain ⟨y, r0, rfl, h0⟩ := pI_inv h
      obtain ⟨x, r, rfl, h1⟩ := pI_inv h0
      cases c9 with
      | eq => simp only [br] at h1; exact ws_icmp_eq F hd (by rw [Int.toNat_of_nonneg hck.2.2]; exact hck.2.1) (fun q => by rw [if_pos q] at h1; exact hK _ _ _ _ h1) (fun q => by rw [if_neg q] at h1; exact hK _ _ _ _ h1)
      | ne => simp only [br] at h1; exact ws_icmp_ne F hd (by rw [Int.toNat_of_nonneg hck.2.2]; exact hck.2.1) (fun q => by rw [if_neg q] at h1; exact hK _ _ _ _ h1) (fun q => by rw [if_pos (Decidable.of_not_not q)] at h1; exact hK _ _ _ _ h1)
      | lt => simp only [br] at h1; exact ws_icmp_lt F hd (by rw [Int.toNat_of_nonneg hck.2.2]; exact hck.2.1) (fun q => by rw [if_pos q] at h1; exact hK _ _ _ _ h1) (fun q => by rw [if_neg q] at h1; exact hK _ _ _ _ h1)
      | ge => simp only [br] at h1; exact ws_icmp_ge F hd (by rw [Int.toNat_of_nonneg hck.2.2]; exact hck.2.1) (fun q => by rw [if_neg q] at h1; exact hK _ _ _ _ h1) (fun q => by rw [if_pos (Decidable.of_not_not q)] at h1; exact hK _ _ _ _ h1)
      | gt => simp only [br] at h1; exact ws_icmp_gt F hd (by rw [Int.toNat_of_nonneg hck.2.2]; exact hck.2.1) (fun q => by rw [if_pos q] at h1; exact hK _ _ _ _ h1) (fun q => by rw [if_neg q] at h1; exact hK _ _ _ _ h1)
      | le => simp only [br] at h1; exact ws_icmp_le F hd (by rw [Int.toNat_of_nonneg hck.2.2]; exact hck.2.1) (fun q => by rw [if_neg q] at h1; exact hK _ _ _ _ h1) (fun q => by rw [if_pos (Decidable.of_not_not q)] at h1; exact hK _ _ _ _ h1)
    · cases hck
  | tableswitch dd lo hi os =>
    simp only [stepG] at h
    simp only [chkI] at hck
    split at hck
    · rename_i d' lo' hi' os' len hd
      simp only [Bool.and_eq_true] at hck
      obtain ⟨q1, q2⟩ := hck
      obtain ⟨rfl, rfl, e1, e2, e3, e4⟩ := of_decide_eq_true q1
      obtain ⟨x, r, rfl, h1⟩ := pI_inv h
      rcases sw_inv _ _ h1 with ⟨j, o9, z1, z2, z3⟩ | ⟨z1, z2⟩
      · have hj : j < os.size := by have := (List.getElem?_eq_some_iff.mp z1).1; simpa using this
        rw [e4, List.getElem?_map] at z1
        obtain ⟨f, hf, rfl⟩ := Option.map_eq_some_iff.mp z1
        have h0 : 0 ≤ (pc : Int) + f := by
          have := List.all_eq_true.mp q2 ((pc : Int) + f) (by rw [e4]; exact List.mem_map.mpr ⟨f, List.mem_of_getElem? hf, rfl⟩)
          exact of_decide_eq_true this
        exact ws_tabIn F hd (by omega) (by omega) (by rw [show (x - lo').toNat = j by omega]; rw [← Array.getElem?_toList]; exact hf) (by rw [Int.toNat_of_nonneg h0]) (hK _ _ _ _ z3)
      · exact ws_tabOut F hd (by simp only [Array.length_toList] at z1; omega) (by rw [Int.toNat_of_nonneg e3]; exact e2) (hK _ _ _ _ z2)
    · cases hck
  | getfield en =>
    simp only [stepG] at h
    simp only [chkI] at hck
    split at hck
    · rename_i k hd
      obtain ⟨t, a, r, rfl, h1⟩ := pR_inv h
      obtain ⟨rfl, h2⟩ := ite_inv h1
      obtain ⟨h3, h4⟩ := ite_inv h2
      exact ws_getfield F hd (inP_mem hck) h3 (hK _ _ _ _ h4)
    · cases hck
  | putfield en =>
    simp only [stepG] at h
    simp only [chkI] at hck
    split at hck
    · rename_i k hd
      simp only [Bool.and_eq_true, Bool.or_eq_true, Bool.not_eq_true'] at hck
      obtain ⟨x, r0, hst, h2, h0⟩ := pF_inv h
      obtain ⟨t, a, r, rfl, h1⟩ := pR_inv h0
      obtain ⟨rfl, h3⟩ := ite_inv h1
      obtain ⟨h4, h5⟩ := ite_inv h3
      have hfin9 : finE.contains (en / 64) = true → ini = true ∧ (o, k, en) ∈ poolFF := fun q => by
        rcases hck.2 with z | z
        · rw [q] at z; cases z
        · exact ⟨z.1, inP_mem z.2⟩
      rcases hst with rfl | ⟨f4, rfl, u, rfl⟩
      · exact ws_putfield F hini hd (inP_mem hck.1) hfin9 h4 h2 (hK _ _ _ _ h5)
      · exact ws_null9 f4 (ws_putfield F hini hd (inP_mem hck.1) hfin9 h4 h2 (hK _ _ _ _ h5))
    · cases hck
  | arraylength =>
    simp only [stepG] at h
    simp only [chkI] at hck
    obtain ⟨t, a, r, rfl, h1⟩ := pR_inv h
    obtain ⟨h2, h3⟩ := ite_inv h1
    obtain ⟨h4, h5⟩ := ite_inv h3
    by_cases ht1 : t = 1
    · subst ht1; exact ws_slen F (dq_of hck) h4 (hK _ _ _ _ h5)
    · rw [if_neg ht1] at h5
      exact ws_alen F (dq_of hck) (by omega) h4 (hK _ _ _ _ h5)
  | iaload =>
    simp only [stepG] at h
    simp only [chkI] at hck
    obtain ⟨i, r0, rfl, h0⟩ := pI_inv h
    obtain ⟨t, a, r, rfl, h1⟩ := pR_inv h0
    split at h1
    · rename_i q; subst q
      obtain ⟨h2, h3⟩ := ite_inv h1
      exact ws_iald F (dq_of hck) h2 (hK _ _ _ _ h3)
    · obtain ⟨rfl, h2⟩ := ite_inv h1
      obtain ⟨h3, h4⟩ := ite_inv h2
      exact ws_sald9 F (dq_of hck) h3 (hK _ _ _ _ h4)
  | laload =>
    simp only [stepG] at h
    simp only [chkI] at hck
    obtain ⟨i, r0, rfl, h0⟩ := pI_inv h
    obtain ⟨t, a, r, rfl, h1⟩ := pR_inv h0
    obtain ⟨rfl, h2⟩ := ite_inv h1
    obtain ⟨h3, h4⟩ := ite_inv h2
    exact ws_lald F (dq_of hck) h3 (hK _ _ _ _ h4)
  | baload =>
    simp only [stepG] at h
    simp only [chkI] at hck
    obtain ⟨i, r0, rfl, h0⟩ := pI_inv h
    obtain ⟨t, a, r, rfl, h1⟩ := pR_inv h0
    obtain ⟨ht, h2⟩ := ite_inv h1
    obtain ⟨h3, h4⟩ := ite_inv h2
    exact ws_bald F (dq_of hck) ht h3 (hK _ _ _ _ h4)
  | iastore =>
    simp only [stepG] at h
    simp only [chkI] at hck
    obtain ⟨x, r9, rfl, h9⟩ := pI_inv h
    obtain ⟨i, r0, rfl, h0⟩ := pI_inv h9
    obtain ⟨t, a, r, rfl, h1⟩ := pR_inv h0
    obtain ⟨rfl, h2⟩ := ite_inv h1
    obtain ⟨h3, h4⟩ := ite_inv h2
    exact ws_iast F (dq_of hck) h3 (hK _ _ _ _ h4)
  | lastore =>
    simp only [stepG] at h
    simp only [chkI] at hck
    obtain ⟨x, r9, rfl, h9⟩ := pL_inv h
    obtain ⟨i, r0, rfl, h0⟩ := pI_inv h9
    obtain ⟨t, a, r, rfl, h1⟩ := pR_inv h0
    obtain ⟨rfl, h2⟩ := ite_inv h1
    obtain ⟨h3, h4⟩ := ite_inv h2
    exact ws_last F (dq_of hck) h3 (hK _ _ _ _ h4)
  | bastore =>
    simp only [stepG] at h
    simp only [chkI] at hck
    obtain ⟨x, r9, rfl, h9⟩ := pI_inv h
    obtain ⟨i, r0, rfl, h0⟩ := pI_inv h9
    obtain ⟨t, a, r, rfl, h1⟩ := pR_inv h0
    split at h1
    · rename_i q; subst q
      obtain ⟨h3, h4⟩ := ite_inv h1
      exact ws_bast F (dq_of hck) (Or.inl ⟨rfl, h3.2.2.2⟩) ⟨h3.1, h3.2.1, h3.2.2.1⟩ (hK _ _ _ _ h4)
    · obtain ⟨rfl, h2⟩ := ite_inv h1
      obtain ⟨h3, h4⟩ := ite_inv h2
      exact ws_bast F (dq_of hck) (Or.inr ⟨rfl, h3.2.2.2⟩) ⟨h3.1, h3.2.1, h3.2.2.1⟩ (hK _ _ _ _ h4)
  | newarray z =>
    simp only [stepG] at h
    simp only [chkI] at hck
    obtain ⟨x, r, rfl, h1⟩ := pI_inv h
    obtain ⟨h2, h3⟩ := ite_inv h1
    obtain ⟨h4, h5⟩ := ite_inv h3
    have hg := hgr _ _ _ _ h5
    exact ws_newarray F (dq_of hck) h2 h4 (Nat.le_trans hg.2.1 hCM) (Nat.le_trans hg.2.2.1 hSM) (hK _ _ _ _ h5)
  | new en =>
    simp only [stepG] at h
    simp only [chkI] at hck
    split at hck
    · rename_i k hd
      split at h
      · rename_i q; subst q
        split at h
        · cases h
          exact hfin (Or.inr (Or.inr (Or.inr (Or.inr ⟨rfl, rfl, rfl, rfl⟩))))
        · cases h
      · rename_i q
        rcases poolN_ok _ (inP_mem hck) with ⟨z, _⟩ | ⟨z1, z2, z3⟩
        · exact absurd z q
        · have hg := hgr _ _ _ _ h
          exact ws_new F hd z1 z2 z3 (Nat.le_trans hg.2.1 hCM) (Nat.le_trans hg.2.2.1 hSM) (hK _ _ _ _ h)
    · cases hck
  | ireturn =>
    simp only [stepG] at h
    split at h
    · rename_i x
      split at h
      · rename_i q; subst q; cases h
        exact hfin (Or.inl ⟨rfl, x, rfl, rfl, rfl, Or.inl rfl⟩)
      · obtain ⟨rfl, h2⟩ := ite_inv h
        obtain ⟨h3, h4⟩ := ite_inv h2
        cases h4
        exact hfin (Or.inl ⟨rfl, x, rfl, rfl, rfl, Or.inr ⟨rfl, h3⟩⟩)
    · cases h
  | lreturn =>
    simp only [stepG] at h
    split at h
    · rename_i x
      obtain ⟨rfl, h2⟩ := ite_inv h
      cases h2
      exact hfin (Or.inr (Or.inl ⟨rfl, x, rfl, rfl, rfl, rfl⟩))
    · cases h
  | areturn =>
    simp only [stepG] at h
    split at h
    · rename_i t x
      obtain ⟨rfl, h2⟩ := ite_inv h
      cases h2
      exact hfin (Or.inr (Or.inr (Or.inl ⟨rfl, t, x, rfl, rfl, rfl, rfl⟩)))
    · cases h
  | return_ =>
    simp only [stepG] at h
    split at h
    · obtain ⟨rfl, h2⟩ := ite_inv h
      cases h2
      exact hfin (Or.inr (Or.inr (Or.inr (Or.inl ⟨rfl, rfl, rfl, rfl, rfl⟩))))
    · cases h
  | invokestatic en =>
    simp only [stepG] at h
    simp only [chkI] at hck
    split at hck
    · rename_i k hd
      split at h
      · rename_i q9
        split at h
        · obtain ⟨h2, h3⟩ := ite_inv h
          obtain ⟨h4, h5⟩ := ite_inv h3
          obtain ⟨rfl, h6, h7⟩ := h2
          exact ws_copy F (by omega) (by omega) hd (tok_copy (poolT_ok _ (inP_mem hck)) q9) h6 h7 h4 (hK _ _ _ _ h5)
        · cases h
      · rename_i q9
        obtain ⟨⟨n1, n2⟩, h2⟩ := ite_inv h
        exact hcS k en hd (poolT_ok _ (inP_mem hck)) q9 n1 n2 h2
    · cases hck
  | invokevirtual en =>
    simp only [stepG] at h
    simp only [chkI] at hck
    split at hck
    · rename_i k hd
      obtain ⟨⟨n1, n2⟩, h2⟩ := ite_inv h
      exact hcV k en hd (poolV_ok _ (inP_mem hck)) n1 n2 h2
    · cases hck
  | invokespecial en =>
    simp only [stepG] at h
    simp only [chkI] at hck
    split at hck
    · rename_i k hd
      split at h
      · rename_i q9
        split at h
        · obtain ⟨h2, h3⟩ := ite_inv h
          obtain ⟨h4, h5⟩ := ite_inv h3
          simp only [Bool.or_eq_true] at hck
          rcases hck with hck | hck
          · exact ws_objInit F (by omega) (by omega) hd (iok_obj (poolI_ok _ (inP_mem hck)) q9) (by omega) h4 h2.2 (hK _ _ _ _ h5)
          · exact absurd (of_decide_eq_true hck) (by omega)
        · cases h
      · rename_i q9
        obtain ⟨⟨n1, n2⟩, h2⟩ := ite_inv h
        simp only [Bool.or_eq_true] at hck
        rcases hck with hck | hck
        · exact hcI k en hd (poolI_ok _ (inP_mem hck)) q9 n1 n2 h2
        · exact hc9 _ (of_decide_eq_true hck) h2
    · cases hck
  | _ => simp only [stepG] at h; cases h
end Step9
