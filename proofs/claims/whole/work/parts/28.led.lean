def ledL : List Cond := vx_at0 "StreetTube" 394 "java/util/NoSuchElementException" ["java/lang/RuntimeException", "java/lang/Exception"]
set_option maxRecDepth 100000 in
theorem led_in : ∀ w ∈ ledL, w ∈ lw_tbl := by decide +kernel
set_option maxRecDepth 100000 in
theorem led_cw : ∀ w ∈ ledL, cw w = true := by decide +kernel
set_option maxRecDepth 100000 in
theorem led_ot : ∀ w ∈ ledL, vx_ot w = true := by decide +kernel
set_option maxRecDepth 100000 in
theorem led_on : ∀ w ∈ ledL, w.onTables = true := by decide +kernel
abbrev cLed : ByteArray := method_3_code
abbrev hLed9 : List (Nat × Nat × Nat × Nat) := [(0, 9, 12, 13)]
theorem led_np (sig : MethodDescriptor) (h : parseMethodDescriptor yLed.desc = some sig) : sig.parameters.length = 3 := by
  have h9 : (parseMethodDescriptor yLed.desc).map (fun d => d.parameters.length) = some 3 := by decide +kernel
  rw [h] at h9
  exact Option.some.inj h9
theorem wl_cw : Cond.codeWith yLed cLed 4 (some .int) hLed9 ∈ lw_tbl := mt_5 (List.mem_of_getElem? (i := 202) rfl)
theorem wl_st : Cond.static yLed ∈ lw_tbl := mt_5 (List.mem_of_getElem? (i := 201) rfl)
theorem wl_in : Cond.initialized "StreetTubeLaw" ∈ lw_tbl := mt_1 (List.mem_of_getElem? (i := 0) rfl)
theorem wl_cl : Cond.classLink "StreetTubeLaw" 13 "java/util/NoSuchElementException" ∈ lw_tbl := mt_5 (List.mem_of_getElem? (i := 203) rfl)
theorem wl_ml : Cond.methodLink "StreetTubeLaw" 7 yX10_led ∈ lw_tbl := mt_5 (List.mem_of_getElem? (i := 204) rfl)
theorem wl_ck : Cond.classLink "StreetTube" 392 "java/util/NoSuchElementException" ∈ lw_tbl := mt_5 (List.mem_of_getElem? (i := 208) rfl)
theorem wl_ni : Cond.initialized "java/util/NoSuchElementException" ∈ lw_tbl := mt_1 (List.mem_of_getElem? (i := 24) rfl)
theorem wl_ca : Cond.castable "java/util/NoSuchElementException" "java/util/NoSuchElementException" ∈ lw_tbl := mt_5 (List.mem_of_getElem? (i := 210) rfl)
theorem ld_0 : decode cLed 0 = .ok (.aload_n 2, 1) := by decide +kernel
theorem ld_1 : decode cLed 1 = .ok (.iconst 0, 1) := by decide +kernel
theorem ld_2 : decode cLed 2 = .ok (.aload_n 0, 1) := by decide +kernel
theorem ld_3 : decode cLed 3 = .ok (.iload_n 1, 1) := by decide +kernel
theorem ld_4 : decode cLed 4 = .ok (.invokevirtual 7, 3) := by decide +kernel
theorem ld_7 : decode cLed 7 = .ok (.i2l, 1) := by decide +kernel
theorem ld_8 : decode cLed 8 = .ok (.lastore, 1) := by decide +kernel
theorem ld_9 : decode cLed 9 = .ok (.goto 6, 3) := by decide +kernel
theorem ld_12 : decode cLed 12 = .ok (.astore_n 3, 1) := by decide +kernel
theorem ld_13 : decode cLed 13 = .ok (.iconst 1, 1) := by decide +kernel
theorem ld_14 : decode cLed 14 = .ok (.ireturn, 1) := by decide +kernel
theorem ld_15 : decode cLed 15 = .ok (.iconst 0, 1) := by decide +kernel
theorem ld_16 : decode cLed 16 = .ok (.ireturn, 1) := by decide +kernel
theorem lx_47 : decode cX10_led 47 = .ok (.new 392, 3) := by decide +kernel
theorem lx_50 : decode cX10_led 50 = .ok (.dup, 1) := by decide +kernel
theorem lx_51 : decode cX10_led 51 = .ok (.invokespecial 394, 3) := by decide +kernel
theorem lx_54 : decode cX10_led 54 = .ok (.athrow, 1) := by decide +kernel
set_option maxRecDepth 100000 in
theorem led99a : ∀ q, q < 64 → look kX10_led q = .new 99 → q = 47 := by decide +kernel
theorem led99 {pc : Nat} (h : look kX10_led pc = .new 99) : pc = 47 := by
  by_cases hp : pc < 64
  · exact led99a pc hp h
  · exfalso
    unfold look at h
    obtain ⟨k, hk⟩ : ∃ k, pc / 32 = k + 2 := ⟨pc / 32 - 2, by omega⟩
    rw [hk] at h
    have e : nth [] kX10_led (k + 2) = [] := by cases k <;> rfl
    rw [e] at h
    cases h
/-- how StreetTube.led throws -/
def XLed (E : ENV) (ad : Nat → Nat) (μ : MM) (r : Option MV) (ν : MM) : String → State → State → Prop := fun En st t => r = some (mR 3 0) ∧ En = "java/util/NoSuchElementException" ∧ ∃ ad' : Nat → Nat, (∀ k : Nat, (k : Int) < gTop μ.1 → ad' k = ad k) ∧ Rep E ad' ν t.heap ∧ va_F (eS E) st t
theorem Rep.same {E : ENV} {ad : Nat → Nat} {μ : MM} {H H' : Heap} {a b : Nat} (h : Rep E ad μ H) (hk : ∀ q : Nat, q < H.size → H'[q]? = H[q]?) : Rep E ad ((gTop μ.1, a, b, gTy μ.1, gLn μ.1), μ.2) H' :=
  ⟨va_P.kept h.1 (fun k q hq => hk _ ((h.1 k q hq).lt)), h.2.1, h.2.2.1, h.2.2.2.1, h.2.2.2.2⟩
theorem met_led {E : ENV} {l : Launch} {n d : Nat} {as : List MV} {μ ν : MM} {r : Option MV} (hlt : l.stackTraces = false) (hS : SIM E l n) (h : enterM (runF n d) mX10_led as μ = some (r, ν)) (ad : Nat → Nat) :
    vx_Met l yX10_led [.code yX10_led cX10_led 4 (some .int)] (rmD d (gCl ν.1 - gCl μ.1) (gSl ν.1 - gSl μ.1)) (Pm E ad μ as) (Qm E ad μ r ν) (XLed E ad μ r ν) (gCl ν.1 - gCl μ.1) (gSl ν.1 - gSl μ.1) (eS E) := by
  obtain ⟨hcode, hinit, hy, hnp, hpl, hcls, hini, hrk, hinst, hck, hmx⟩ := mf_all mX10_led (by decide)
  unfold enterM at h
  obtain ⟨⟨hrok, hle⟩, h⟩ := ite_inv h
  have hg : Gr μ ν := run_grow _ _ _ _ _ _ _ _ _ h
  refine vx_ofW (cc := cX10_led) (maxL := 4) (ret := some .int) (by decide) rfl ?_
  intro p e s mid args below meth c s₁ B hml hxt hv
  obtain ⟨rfl, hR, hC, hok⟩ := hv
  have hown : s.vm.findClass (own 10) = some mid.cls := findClass_of_methodNamed B.named
  have F : FX E p (headSpec [Cond.code yX10_led cX10_led 4 (some .int)] (rmD d (gCl ν.1 - gCl μ.1) (gSl ν.1 - gSl μ.1))).room s mid c cX10_led 4 (own 10) (gCl μ.1) (gSl μ.1) (gCl ν.1) (gSl ν.1) := by
    refine ⟨B.exec, B.bytes, hml, hown, hC, ?_, ?_⟩
    · show gCl ν.1 - gCl μ.1 + gCl μ.1 = gCl ν.1
      have := hg.2.1; omega
    · show gSl ν.1 - gSl μ.1 + gSl μ.1 = gSl ν.1
      have := hg.2.2.1; omega
  have hck9 : chkM false 10 cX10_led 0 kX10_led = true := hck
  rw [lg_entry_eq]
  have key := hS d mX10_led 0 _ [] μ r ν h p e _ s mid ((as.map (eTo E ad)).toArray) below meth c (vx_MQ below (Qm E ad μ r ν) (XLed E ad μ r ν) ((as.map (eTo E ad)).toArray) s (gCl ν.1 - gCl μ.1) (gSl ν.1 - gSl μ.1) (eS E)) cX10_led 10 false (gCl μ.1) (gSl μ.1) (gCl ν.1) (gSl ν.1) (gTop μ.1) ad F hck (fun q => by cases q) (Nat.le_refl _) (Nat.le_refl _) (Nat.le_refl _) (Nat.le_refl _)
    (fun pc' ls' st' μ' hret => ?_)
    s.heap [] _ ad va_S.rf hR (lrep_entry hle hok) (fun v hv => absurd hv List.not_mem_nil) (Int.le_refl _) (fun _ _ => rfl) (Nat.le_refl _) (Nat.le_refl _)
  · rw [Nat.sub_self, Nat.sub_self] at key
    exact key
  · by_cases h99 : look kX10_led pc' = .new 99
    · have hpc := led99 h99
      subst hpc
      have hret : RetI 1 (look kX10_led 47) st' μ' r ν := hret
      rw [h99] at hret
      rcases hret with ⟨z, -⟩ | ⟨z, -⟩ | ⟨z, -⟩ | ⟨z, -⟩ | ⟨-, rfl, rfl, rfl⟩
      · cases z
      · cases z
      · cases z
      · cases z
      · intro H locs lsR ad' hS' hR' hL' hok' ht' hx' hc' hs'
        have hS1 := hS'
        refine vx_throw0 (names := ["java/lang/RuntimeException", "java/lang/Exception"]) (A := eS E) B.exec B.bytes hlt hown (by decide) (by decide) (hC.word wl_ck rfl rfl) (hC.word wl_ni rfl rfl) (fun w hw => hC.word (led_in w hw) (led_cw w hw) (led_on w hw)) ?_ hC.2.2.2.1.2.2.2.1 hC.2.2.2.1.2.2.2.2 hS' (by rw [hml]; exact hL'.1) lx_47 lx_50 lx_51 lx_54 (fun x hx => (hxt x hx).elim) (show 5 < d + 8 by omega) (by show 0 + (13 * 3 + 42) ≤ 200 * (d + 8); omega) ?_ ?_ B.notSynchronized (fun t ha hz hk => ⟨rfl, rfl, ad', hx', hR'.same hk, ?_, ?_⟩) hS'.2.2 ?_ ?_
        · intro w hw
          rcases List.mem_cons.mp hw with rfl | hw
          · rfl
          · rcases List.mem_cons.mp hw with rfl | hw
            · rfl
            · exact led_ot w hw
        · show gCl μ'.1 - gCl μ.1 + 1 ≤ gCl μ'.1 + 1 - gCl μ.1; omega
        · show gSl μ'.1 - gSl μ.1 + 6 ≤ gSl μ'.1 + 6 - gSl μ.1; omega
        · exact Nat.le_trans hS'.1 hz
        · intro q h1 h2
          rw [hk q (Nat.lt_of_lt_of_le h1 hS'.1)]
          exact hS'.2.1 q h1 h2
        · show gCl μ'.1 - gCl μ.1 + 1 ≤ gCl μ'.1 + 1 - gCl μ.1; omega
        · show gSl μ'.1 - gSl μ.1 + 6 ≤ gSl μ'.1 + 6 - gSl μ.1; omega
    · intro H locs lsR ad' hS' hR' hL' hok' ht' hx' hc' hs'
      exact vx_ret (fin_ret F B.returns hrk B.notSynchronized (chk_at hck9 pc') h99 hret H locs lsR ad' hS' hR' hL' hok' ht' hx' hc' hs')
theorem ld_ck : chkI false 15 cLed 16 .ireturn = true := by decide +kernel
section Led
variable {E : ENV} {p : Program} {l : Launch} {e : Env} {R : Room} {s : State} {mid : MethodId} {args : Array Value} {below : List Frame} {meth : Method} {c : Code} {Q : State → Prop} {nL : Nat} {c0 s0 CM SM : Nat} {top0 : Int} {ad0 : Nat → Nat} {ls : List MV} {μ ν : MM} {x i o : Int} {d : Nat} {r : Option MV}
/-- the call of StreetTube.led in the law's helper -/
theorem ws_led (F : FX E p R s mid c cLed nL (own 15) c0 s0 CM SM) (hfr : d + 9 ≤ R.frames) (hlo : 200 * (d + 9) ≤ R.locals) (hx16 : 0 ≤ x) (htab : c.exceptionTable.toList = tableOf hLed9)
    (hM : ∀ ad : Nat → Nat, vx_Met l yX10_led [.code yX10_led cX10_led 4 (some .int)] (rmD d (gCl ν.1 - gCl μ.1) (gSl ν.1 - gSl μ.1)) (Pm E ad μ [mR 16 x, mI i]) (Qm E ad μ r ν) (XLed E ad μ r ν) (gCl ν.1 - gCl μ.1) (gSl ν.1 - gSl μ.1) (eS E)) (hg : Gr μ ν) (hCM : gCl ν.1 ≤ CM) (hSM : gSl ν.1 ≤ SM)
    (k1 : WS E p l e R s mid args below meth c nL c0 s0 top0 ad0 Q 7 ls (r.toList ++ [mI 0, mR 5 o]) ν)
    (k2 : r = some (mR 3 0) → ∀ (H : Heap) (locs : List Loc) (lsR : Array Slot) (ad : Nat → Nat) (q : Nat), va_S (eS E) s.heap H locs → Rep E ad ν H → LRep E ad ν.1 lsR nL ls → (∀ k : Nat, (k : Int) < top0 → ad k = ad0 k) → W p l e R s mid args below meth c H locs (gCl ν.1 - c0) (gSl ν.1 - s0) Q (F0 mid 12 lsR [.ref q])) :
    WS E p l e R s mid args below meth c nL c0 s0 top0 ad0 Q 4 ls [mI i, mR 16 x, mI 0, mR 5 o] μ := by
  intro H locs lsR ad hS hR hL hok ht hx hc hs
  have F0' := F
  obtain ⟨hx0, hb, hml, hown, hC, hc1, hs1⟩ := F
  obtain ⟨hcode, hinit, hy, hnp, -, -, -, -, hinst, -, hmx⟩ := mf_all mX10_led (by decide)
  rcases hinst with ⟨z, -⟩ | ⟨-, -, hin, hse, T9, N9, hcl⟩
  · cases z
  have hse : Cond.selects yX10_led.cls yX10_led yX10_led ∈ lw_tbl := by
    rcases hse with z | z
    · cases z
    · exact z
  obtain ⟨o1, o2⟩ := okV_ref (st_hd (st_tl hok)) (by omega) hx16
  have hw : (eWs E ad μ)[x.toNat]? = some (ad x.toNat, .inr (16 - 10, fldsV (eB E) (eK E) ad (fty 16) (μ.2 x))) := by rw [ws_at hx16 o1, o2, elt_obj (by omega)]
  have hrv := va_recv hC.1 hR.1 hcl hw
  have hoka : ∀ v ∈ [mR 16 x, mI i], okV μ.1 v := fun v hv => by
    rcases List.mem_cons.mp hv with rfl | hv
    · exact st_hd (st_tl hok)
    · rw [List.mem_singleton.mp hv]; exact st_hd hok
  have hPc : ∀ U : State, U.heap = H → s.WarmedH U.vm → Pm E ad μ [mR 16 x, mI i] (Value.ref (ad x.toNat) :: [mI i].map (eTo E ad)).toArray U := by
    intro U hU hW
    refine ⟨?_, by rw [hU]; exact hR, ?_, hoka⟩
    · simp only [List.map_cons, List.map_nil]; rw [show eTo E ad (mR 16 x) = .ref (ad x.toNat) from toV_ref (by omega) hx16]
    · rw [hU]; exact hC.warm hW hS.1 hS.2.1
  obtain ⟨b1, b2, b3, b4, b5, b6⟩ := callB9 (ν := ν) (μ := μ) (y := yX10_led) (by' := cX10_led) (maxL := 4) (ret := some .int) F0' hfr hlo hcode hmx
  have hnp' : ∀ sig, parseMethodDescriptor yX10_led.desc = some sig → 1 = sig.parameters.length := fun sig h => by
    have h9 : (parseMethodDescriptor yX10_led.desc).map (fun d => d.parameters.length) = some 1 := hnp
    rw [h] at h9; exact (Option.some.inj h9).symm
  have hf9 : gCl μ.1 - c0 + (gCl ν.1 - gCl μ.1) ≤ R.cells ∧ gSl μ.1 - s0 + (gSl ν.1 - gSl μ.1) ≤ R.slots := ⟨by have := hg.2.1; omega, by have := hg.2.2.1; omega⟩
  have hrun := vx_runV (Ts := []) (n := 1) (As := [mI i].map (eTo E ad)) (rest := [mI 0, mR 5 o].map (eTo E ad)) (g := F0 mid 4 lsR ([mI i, mR 16 x, mI 0, mR 5 o].map (eTo E ad))) (locs := locs) (cells := gCl μ.1 - c0) (slots := gSl μ.1 - s0) (args := args) (below := below) (meth := meth) (e := e) (C := yX10_led.cls) (b := ad x.toNat) ⟨hx0, hb, hml, hown, fun w h => absurd h List.not_mem_nil⟩ (hM ad) ⟨⟨b1, b2, b3, b4, b5, b6, hC.word hcode rfl rfl, hC.word hinit rfl rfl, hy, hnp', hC.word wl_ml rfl rfl⟩, hC.word hin rfl rfl, hC.word hse rfl rfl⟩ ⟨Pm_blind, hrv, hPc⟩ rfl rfl hL.1 (by
      show [mI i, mR 16 x, mI 0, mR 5 o].map (eTo E ad) = _
      rw [List.map_cons, List.map_cons, show eTo E ad (mR 16 x) = .ref (ad x.toNat) from toV_ref (by omega) hx16]; rfl) (by have := cat_sum (E := E) (ad := ad) [mI 0, mR 5 o]; show 2 * 0 + _ ≤ 8; simp only [List.length_cons, List.length_nil] at this; omega) ld_4 hf9
  obtain ⟨g1, g2, g3, g4, g5⟩ := hg
  have g4' : ∀ x, 0 ≤ x → x < gTop μ.1 → gTy ν.1 x = gTy μ.1 x := fun x _ h => g4 x h
  have hokr := st_tl (st_tl hok)
  intro T hT X
  rcases hrun T hT X with ⟨v, st₀, t, T', L, h0, X', hL9, e1, e2, ⟨ad', hx2, hv, hR2, hF, hok2⟩, go⟩ | ⟨q, st₀, t, T', L, En, ce, h0, X', hL9, e1, e2, ⟨hr9, rfl, ad', hx2, hR2, hF⟩, hce, hcv, hcl9, steps⟩
  · have hv : v = r.map (eTo E ad') := Outcome.returned.inj hv
    subst hv
    have kk2 := k1 T'.heap (locs ++ L) lsR ad' (va_S_of hS h0 e1 hF hL9) (by rw [e1]; exact hR2) (hL.mono g1 g4' hx2) (fun w hw => ?_) (Int.le_trans ht g1) (fun k hk => by rw [hx2 k (Int.lt_of_lt_of_le hk ht)]; exact hx k hk) (Nat.le_trans hc g2) (Nat.le_trans hs g3)
    · rw [List.map_append, map_ext hx2 hokr] at kk2
      rw [show gCl ν.1 - c0 = gCl μ.1 - c0 + (gCl ν.1 - gCl μ.1) by omega, show gSl ν.1 - s0 = gSl μ.1 - s0 + (gSl ν.1 - gSl μ.1) by omega] at kk2
      obtain ⟨tt, a1, b1⟩ := kk2 T' rfl X'
      refine ⟨tt, go tt ?_, b1⟩
      cases r <;> exact a1
    · rcases List.mem_append.mp hw with h | h
      · exact hok2 w (by cases r <;> simp_all)
      · exact okV_mono g1 g4' (hokr w h)
  · have kk2 := k2 hr9 T'.heap (locs ++ L) lsR ad' q (va_S_of hS h0 e1 hF hL9) (by rw [e1]; exact hR2) (hL.mono g1 g4' hx2) (fun k hk => by rw [hx2 k (Int.lt_of_lt_of_le hk ht)]; exact hx k hk)
    rw [show gCl ν.1 - c0 = gCl μ.1 - c0 + (gCl ν.1 - gCl μ.1) by omega, show gSl ν.1 - s0 = gSl μ.1 - s0 + (gSl ν.1 - gSl μ.1) by omega] at kk2
    have hcatch := vx_catch (pc := 4) (rest := [mI 0, mR 5 o].map (eTo E ad)) (name := "java/util/NoSuchElementException") (E := "java/util/NoSuchElementException") hown [] ⟨0, 9, 12, 13⟩ [] htab (fun z hz => absurd hz List.not_mem_nil) (by decide) (by decide) (hC.word wl_cl rfl rfl) (hC.word wl_ca rfl rfl) (by rw [e1]; exact hce) hcv hcl9 kk2
    obtain ⟨tt, a1, b1⟩ := hcatch T' rfl X'
    exact ⟨tt, steps.trans a1, b1⟩
theorem led_met {n : Nat} {as : List MV} {v : Option MV} (hlt : l.stackTraces = false) (hS : SIM E l n) (h : enter (runF n) d 1006 as μ = some (v, ν)) (ad : Nat → Nat) :
    Met l yLed [.codeWith yLed cLed 4 (some .int) hLed9] (rmD d (gCl ν.1 - gCl μ.1) (gSl ν.1 - gSl μ.1)) (Pm E ad μ as) (Qm E ad μ v ν) (gCl ν.1 - gCl μ.1) (gSl ν.1 - gSl μ.1) (eS E) := by
  have hg : Gr μ ν := rg_enter (run_grow n) d 1006 as μ _ _ h
  unfold enter at h
  rw [if_neg (by decide), if_neg (by decide), if_neg (by decide), if_pos rfl] at h
  cases d with
  | zero => cases h
  | succ d =>
    dsimp only at h
    split at h
    · rename_i x i o
      obtain ⟨ho, h⟩ := ite_inv h
      obtain ⟨r, ν', hq, hr⟩ : ∃ r ν', enterM (runF n d) mX10_led [mR 16 x, mI i] μ = some (r, ν') ∧ ((∃ p, r = some (mI p) ∧ v = some (mI 0) ∧ ν = (ν'.1, up ν'.2 o 0 p)) ∨ (∃ z, r = some (mR 3 z) ∧ v = some (mI 1) ∧ ν = ν')) := by
        split at h
        · rename_i p ν' hq; cases h; exact ⟨_, _, hq, Or.inl ⟨p, rfl, rfl, rfl⟩⟩
        · rename_i z ν' hq; cases h; exact ⟨_, _, hq, Or.inr ⟨_, rfl, rfl, rfl⟩⟩
        · cases h
      have hg' : Gr μ ν' := rg_enterM (run_grow n d) mX10_led _ μ _ _ hq
      have hx16 : 0 ≤ x := by
        have hq' := hq
        unfold enterM at hq'
        obtain ⟨⟨hrok, -⟩, -⟩ := ite_inv hq'
        obtain ⟨a, as', e1, ha⟩ := rok_inv (rt := 16) (by decide) hrok
        cases e1
        exact ha
      have hcn : gCl ν.1 = gCl ν'.1 ∧ gSl ν.1 = gSl ν'.1 := by
        rcases hr with ⟨p, -, -, rfl⟩ | ⟨z, -, -, rfl⟩ <;> exact ⟨rfl, rfl⟩
      refine va_MetW (cc := cLed) (maxL := 4) (ret := some .int) (hh := hLed9) (by decide) rfl ?_
      intro p9 e s mid args below meth c s₁ B hml hv
      obtain ⟨rfl, hR, hC, hok⟩ := hv
      have hown : s.vm.findClass (own 15) = some mid.cls := findClass_of_methodNamed B.named
      have htab : c.exceptionTable.toList = tableOf hLed9 := vx_table (x := yLed) B (hC.word wl_cw rfl rfl)
      have F : FX E p9 (headSpec [Cond.codeWith yLed cLed 4 (some .int) hLed9] (rmD (d + 1) (gCl ν.1 - gCl μ.1) (gSl ν.1 - gSl μ.1))).room s mid c cLed 4 (own 15) (gCl μ.1) (gSl μ.1) (gCl ν.1) (gSl ν.1) := by
        refine ⟨B.exec, B.bytes, hml, hown, hC, ?_, ?_⟩
        · show gCl ν.1 - gCl μ.1 + gCl μ.1 = gCl ν.1
          have := hg.2.1; omega
        · show gSl ν.1 - gSl μ.1 + gSl μ.1 = gSl ν.1
          have := hg.2.2.1; omega
      rw [lg_entry_eq]
      have key : WS E p9 l e (headSpec [Cond.codeWith yLed cLed 4 (some .int) hLed9] (rmD (d + 1) (gCl ν.1 - gCl μ.1) (gSl ν.1 - gSl μ.1))).room s mid (([mR 16 x, mI i, mR 5 o].map (eTo E ad)).toArray) below meth c 4 (gCl μ.1) (gSl μ.1) (gTop μ.1) ad (MQ below (Qm E ad μ v ν) (([mR 16 x, mI i, mR 5 o].map (eTo E ad)).toArray) s (gCl ν.1 - gCl μ.1) (gSl ν.1 - gSl μ.1) (eS E)) 0 (pad 4 (lay [mR 16 x, mI i, mR 5 o])) [] μ := by
        show WS E p9 l e _ s mid _ below meth c 4 (gCl μ.1) (gSl μ.1) (gTop μ.1) ad _ 0 [mR 16 x, mI i, mR 5 o, MU] [] μ
        refine ws_aload_n (q := 2) (t := 5) (x := o) F (by decide) ld_0 rfl ?_
        refine ws_iconst F ld_1 (by unfold i32; omega) ?_
        refine ws_aload_n (q := 0) (t := 16) (x := x) F (by decide) ld_2 rfl ?_
        refine ws_iload_n (q := 1) (x := i) F ld_3 rfl ?_
        refine ws_led F (Nat.le_refl _) (Nat.le_refl _) hx16 htab (fun ad => met_led hlt hS hq ad) hg' (by omega) (by omega) ?_ ?_
        · rcases hr with ⟨p, rfl, rfl, rfl⟩ | ⟨z, rfl, rfl, rfl⟩
          · refine ws_i2l F ld_7 ?_
            refine ws_last F ld_8 ⟨ho.1, by omega, ?_⟩ ?_
            · rw [hg'.2.2.2.2 o ?_]
              · exact ho.2
              · exact (okV_ref (hok (mR 5 o) (by simp)) (by omega) ho.1).1
            refine ws_goto (t := 15) F ld_9 (by decide) ?_
            refine ws_iconst F ld_15 (by unfold i32; omega) ?_
            exact fin_ret (rk := 1) (i := .ireturn) F B.returns rfl B.notSynchronized ld_ck (by intro z; cases z) (Or.inl ⟨rfl, 0, rfl, rfl, rfl, Or.inl rfl⟩)
          · intro H locs lsR ad' _ _ _ hok' _ _ _ _
            exact (st_hd hok').elim
        · intro hr3 H locs lsR ad' q hS' hR' hL' hx'
          rcases hr with ⟨p, rfl, -, -⟩ | ⟨z, rfl, rfl, rfl⟩
          · cases hr3
          · refine lv_astore_n (k := 3) B.exec B.bytes ld_12 rfl (lr_has hL') (by decide) rfl (fun ls' hl' => ?_)
            refine lv_iconst (v := 1) B.exec B.bytes ld_13 (by decide) ?_
            refine W.iret B.exec B.bytes B.returns (fun t ht _ => ⟨ad', hx', rfl, by rw [ht]; exact hR', ⟨by rw [ht]; exact hS'.1, fun q h1 h2 => by rw [ht]; exact hS'.2.1 q h1 h2⟩, fun v hv => by cases hv; exact (show i32 1 by unfold i32; omega)⟩) hS'.2.2 ld_14 B.notSynchronized
      have k2 := key s.heap [] _ ad va_S.rf hR (lrep_entry (Nat.le_of_ble_eq_true rfl) hok) (fun v hv => absurd hv List.not_mem_nil) (Int.le_refl _) (fun _ _ => rfl) (Nat.le_refl _) (Nat.le_refl _)
      rw [Nat.sub_self, Nat.sub_self] at k2
      exact k2
    · cases h
end Led
theorem led_loc {d mc ms maxL : Nat} {R : Room} (hlo : 200 * (d + 9) ≤ R.locals) (hm : maxL ≤ 100) : 8 + (maxL + 11) + (rmD d mc ms).locals ≤ R.locals := by
  have e : (rmD d mc ms).locals = 200 * (d + 8) := by unfold rmD; rfl
  rw [e]
  refine Nat.le_trans ?_ hlo
  rw [show 200 * (d + 9) = 200 * (d + 8) + 200 from rfl]
  generalize 200 * (d + 8) = z
  omega
theorem led_ok (E : ENV) (l : Launch) (hlt : l.stackTraces = false) : LEDR E l := by
  intro n hS d as μ v ν h p e R s mid args below meth c Q bytes o nL c0 s0 CM SM top0 ad0 k pc ls st F hfr hlo hd hlk hrl hCM hSM kk
  intro H locs lsR ad hS' hR hL hok ht hx hc hs
  have hg : Gr μ ν := rg_enter (run_grow n) d 1006 as μ _ _ h
  have hlen : as.length = 3 := by
    unfold enter at h
    rw [if_neg (by decide), if_neg (by decide), if_neg (by decide), if_pos rfl] at h
    cases d with
    | zero => cases h
    | succ d =>
      dsimp only at h
      split at h
      · rfl
      · cases h
  obtain ⟨hx0, hb, hml, hown, hC, hc1, hs1⟩ := F
  have hokr : ∀ v ∈ st, okV μ.1 v := fun v hv => hok v (List.mem_append_right _ hv)
  have hoka : ∀ v ∈ as, okV μ.1 v := fun v hv => hok v (List.mem_append_left _ (List.mem_reverse.mpr hv))
  have hsum := cat_sum (E := E) (ad := ad) st
  have hPc : ∀ U : State, U.heap = H → s.WarmedH U.vm → Pm E ad μ as (as.map (eTo E ad)).toArray U := by
    intro U hU hW
    refine ⟨rfl, by rw [hU]; exact hR, ?_, hoka⟩
    rw [hU]; exact hC.warm hW hS'.1 hS'.2.1
  have hf9 : gCl μ.1 - c0 + (gCl ν.1 - gCl μ.1) ≤ R.cells ∧ gSl μ.1 - s0 + (gSl ν.1 - gSl μ.1) ≤ R.slots := ⟨by have := hg.2.1; omega, by have := hg.2.2.1; omega⟩
  exact ws_back hg hS' hL hokr ht hx hc hs (vx_runSW (Ts := []) (n := 3) (bytes := cLed) (maxL := 4) (ret := some .int) (hh := hLed9) ⟨hx0, hb, hml, hown, fun w h => absurd h List.not_mem_nil⟩ (led_met hlt hS h ad) ⟨⟨rfl, rfl, hfr, led_loc hlo (by decide), (fun w hw a' U hW => by rw [List.mem_singleton.mp hw]; exact word_at hW (Or.inl rfl) (hC.2.1 _ wl_cw rfl)), List.mem_singleton.mpr rfl⟩, hC.word wl_cw rfl rfl, hC.word wl_in rfl rfl, ⟨by decide, by decide⟩, (fun sig h => (led_np sig h).symm), hC.word hlk rfl rfl, hC.word wl_st rfl rfl⟩ ⟨Pm_blind, hPc⟩ rfl (by rw [List.length_map]; exact hlen) hL.1 (by show (as.reverse ++ st).map (eTo E ad) = _; rw [List.map_append, List.map_reverse]) (by show 2 * 0 + _ ≤ 8; omega) hd hf9) kk
