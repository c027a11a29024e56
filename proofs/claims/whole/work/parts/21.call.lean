/-! calls -/
def Pm (E : ENV) (ad : Nat → Nat) (μ : MM) (as : List MV) : Array Value → State → Prop := fun v U => v = (as.map (eTo E ad)).toArray ∧ Rep E ad μ U.heap ∧ Ctx E U U.heap ∧ ∀ w ∈ as, okV μ.1 w
def Qm (E : ENV) (ad : Nat → Nat) (μ : MM) (r : Option MV) (ν : MM) : Array Value → State → Outcome → State → Prop := fun _ st o t => ∃ ad' : Nat → Nat, (∀ k : Nat, (k : Int) < gTop μ.1 → ad' k = ad k) ∧ o = .returned (r.map (eTo E ad')) ∧ Rep E ad' ν t.heap ∧ va_F (eS E) st t ∧ ∀ v ∈ r, okV ν.1 v
def rmD (d mc ms : Nat) : Room := { frames := d + 8, cells := mc, slots := ms, locals := 200 * (d + 8) }
/-- a call with these arguments in this memory comes back with r and ν -/
def MetOK (E : ENV) (l : Launch) (y : MethodName) (bytes : ByteArray) (maxL : Nat) (ret : Option FieldType) (d : Nat) (as : List MV) (μ : MM) (r : Option MV) (ν : MM) : Prop :=
  ∀ ad : Nat → Nat, Met l y [.code y bytes maxL ret] (rmD d (gCl ν.1 - gCl μ.1) (gSl ν.1 - gSl μ.1)) (Pm E ad μ as) (Qm E ad μ r ν) (gCl ν.1 - gCl μ.1) (gSl ν.1 - gSl μ.1) (eS E)
theorem Pm_blind {E : ENV} {ad : Nat → Nat} {μ : MM} {as : List MV} : FrameBlind (Pm E ad μ as) := by
  intro a U g mk ⟨h1, h2, h3, h4⟩
  exact ⟨h1, h2, h3.warm (U' := U.calling g mk a) (State.WarmedH.refl U) (Nat.le_refl _) (fun _ _ _ => rfl), h4⟩
section Call
variable {E : ENV} {p : Program} {l : Launch} {e : Env} {R : Room} {s : State} {mid : MethodId} {args : Array Value} {below : List Frame} {meth : Method} {c : Code} {Q : State → Prop} {bytes : ByteArray} {nL o : Nat} {c0 s0 CM SM : Nat} {top0 : Int} {ad0 : Nat → Nat}
variable {pc : Nat} {ls st : List MV} {μ ν : MM} {k d : Nat} {as : List MV} {r : Option MV} {y : MethodName} {by' : ByteArray} {maxL np : Nat} {ret : Option FieldType}
theorem va_S_of {H H1 : Heap} {locs L : List Loc} {st₀ t : State} (hS : va_S (eS E) s.heap H locs) (h0 : st₀.heap = H) (h1 : H1 = t.heap) (hF : va_F (eS E) st₀ t) (hL : ∀ q ∈ L, eS E q.base) : va_S (eS E) s.heap H1 (locs ++ L) := by
  obtain ⟨hz, hk⟩ := hF
  rw [h0] at hz hk
  subst h1
  refine ⟨Nat.le_trans hS.1 hz, fun q h1 h2 => (hk q (Nat.lt_of_lt_of_le h1 hS.1) h2).trans (hS.2.1 q h1 h2), fun q hq => ?_⟩
  rcases List.mem_append.mp hq with h | h
  · exact hS.2.2 q h
  · exact hL q h
/-- behind a call -/
theorem ws_back {H : Heap} {locs : List Loc} {lsR : Array Slot} {ad : Nat → Nat} {st0 : List Value} {a9 : Array Value} (hg : Gr μ ν) (hS : va_S (eS E) s.heap H locs) (hL : LRep E ad μ.1 lsR nL ls) (hok : ∀ v ∈ st, okV μ.1 v) (ht : top0 ≤ gTop μ.1) (hx : ∀ k : Nat, (k : Int) < top0 → ad k = ad0 k) (hc : c0 ≤ gCl μ.1) (hs : s0 ≤ gSl μ.1)
    (hr : va_Run p l e R s mid args below meth c H locs (gCl μ.1 - c0) (gSl μ.1 - s0) (gCl ν.1 - gCl μ.1) (gSl ν.1 - gSl μ.1) (F0 mid pc lsR st0) (st.map (eTo E ad)) (Qm E ad μ r ν a9) (eS E))
    (kk : WS E p l e R s mid args below meth c nL c0 s0 top0 ad0 Q (pc + 3) ls (r.toList ++ st) ν) : W p l e R s mid args below meth c H locs (gCl μ.1 - c0) (gSl μ.1 - s0) Q (F0 mid pc lsR st0) := by
  intro T hT X
  obtain ⟨v, st₀, t, T', L, h0, X', hL9, e1, e2, ⟨ad', hx2, hv, hR2, hF, hok2⟩, go⟩ := hr T hT X
  have hv : v = r.map (eTo E ad') := Outcome.returned.inj hv
  subst hv
  obtain ⟨g1, g2, g3, g4, g5⟩ := hg
  have g4' : ∀ x, 0 ≤ x → x < gTop μ.1 → gTy ν.1 x = gTy μ.1 x := fun x _ h => g4 x h
  have kk2 := kk T'.heap (locs ++ L) lsR ad' (va_S_of hS h0 e1 hF hL9) (by rw [e1]; exact hR2) (hL.mono g1 g4' hx2) (fun w hw => ?_) (Int.le_trans ht g1) (fun k hk => by rw [hx2 k (Int.lt_of_lt_of_le hk ht)]; exact hx k hk) (Nat.le_trans hc g2) (Nat.le_trans hs g3)
  · rw [List.map_append, map_ext hx2 hok] at kk2
    rw [show gCl ν.1 - c0 = gCl μ.1 - c0 + (gCl ν.1 - gCl μ.1) by omega, show gSl ν.1 - s0 = gSl μ.1 - s0 + (gSl ν.1 - gSl μ.1) by omega] at kk2
    obtain ⟨tt, a1, b1⟩ := kk2 T' rfl X'
    refine ⟨tt, go tt ?_, b1⟩
    cases r <;> exact a1
  · rcases List.mem_append.mp hw with h | h
    · exact hok2 w (by cases r <;> simp_all)
    · exact okV_mono g1 g4' (hok w h)
theorem callB9 (F : FX E p R s mid c bytes nL (own o) c0 s0 CM SM) (hfr : d + 9 ≤ R.frames) (hlo : 200 * (d + 9) ≤ R.locals) (hcode : Cond.code y by' maxL ret ∈ lw_tbl) (hmx : maxL ≤ 100) :
    (rmD d (gCl ν.1 - gCl μ.1) (gSl ν.1 - gSl μ.1)).cells = gCl ν.1 - gCl μ.1 ∧ (rmD d (gCl ν.1 - gCl μ.1) (gSl ν.1 - gSl μ.1)).slots = gSl ν.1 - gSl μ.1 ∧ (rmD d (gCl ν.1 - gCl μ.1) (gSl ν.1 - gSl μ.1)).frames + 1 ≤ R.frames ∧ 8 + (maxL + 11) + (rmD d (gCl ν.1 - gCl μ.1) (gSl ν.1 - gSl μ.1)).locals ≤ R.locals ∧ (∀ w ∈ [Cond.code y by' maxL ret], ∀ (a' : Array Value) (U : State), s.WarmedH U.vm → w.before a' U = true) ∧ Cond.code y by' maxL ret ∈ [Cond.code y by' maxL ret] := by
  obtain ⟨hx0, hb, hml, hown, hC, -, -⟩ := F
  refine ⟨rfl, rfl, hfr, ?_, fun w hw a' U hW => ?_, List.mem_singleton.mpr rfl⟩
  · show 8 + (maxL + 11) + 200 * (d + 8) ≤ R.locals
    refine Nat.le_trans ?_ hlo
    rw [show 200 * (d + 9) = 200 * (d + 8) + 200 from rfl]
    generalize 200 * (d + 8) = z
    omega
  · rw [List.mem_singleton.mp hw]
    exact word_at hW (Or.inl rfl) (hC.2.1 _ hcode rfl)
theorem ws_callV (F : FX E p R s mid c bytes nL (own o) c0 s0 CM SM) (hfr : d + 9 ≤ R.frames) (hlo : 200 * (d + 9) ≤ R.locals) (hd : decode bytes pc = .ok (.invokevirtual k, 3)) (hlk : LkOK o k y) (hcode : Cond.code y by' maxL ret ∈ lw_tbl) (hinit : Cond.initialized y.cls ∈ lw_tbl) (hy : y.cls ≠ "java/lang/invoke/MethodHandle" ∧ y.cls ≠ "java/lang/invoke/VarHandle") (hnp : (parseMethodDescriptor y.desc).map (fun d => d.parameters.length) = some np) (hin : Cond.instanceMethod y ∈ lw_tbl) (hse : Cond.selects y.cls y y ∈ lw_tbl) (hmx : maxL ≤ 100)
    {t : Nat} {a : Int} {as' : List MV} (has : as = mR t a :: as') (hlen : as'.length = np) (ht10 : 10 ≤ t) (hcl : ∃ T N, vwCl[t - 10]? = some (y.cls, T, N)) (ha : 0 ≤ a) (hrl : st.length ≤ 4) (hM : MetOK E l y by' maxL ret d as μ r ν) (hg : Gr μ ν) (hCM : gCl ν.1 ≤ CM) (hSM : gSl ν.1 ≤ SM)
    (kk : WS E p l e R s mid args below meth c nL c0 s0 top0 ad0 Q (pc + 3) ls (r.toList ++ st) ν) : WS E p l e R s mid args below meth c nL c0 s0 top0 ad0 Q pc ls (as.reverse ++ st) μ := by
  intro H locs lsR ad hS hR hL hok ht hx hc hs
  have F0' := F
  obtain ⟨hx0, hb, hml, hown, hC, hc1, hs1⟩ := F
  have hokr : ∀ v ∈ st, okV μ.1 v := fun v hv => hok v (List.mem_append_right _ hv)
  have hoka : ∀ v ∈ as, okV μ.1 v := fun v hv => hok v (List.mem_append_left _ (List.mem_reverse.mpr hv))
  subst has
  obtain ⟨o1, o2⟩ := okV_ref (hoka _ List.mem_cons_self) (by omega) ha
  have hw : (eWs E ad μ)[a.toNat]? = some (ad a.toNat, .inr (t - 10, fldsV (eB E) (eK E) ad (fty t) (μ.2 a))) := by rw [ws_at ha o1, o2, elt_obj ht10]
  obtain ⟨T, N, hcl⟩ := hcl
  have hrv := va_recv hC.1 hR.1 hcl hw
  have hsum := cat_sum (E := E) (ad := ad) st
  have hstk : (F0 mid pc lsR (((mR t a :: as').reverse ++ st).map (eTo E ad))).stack = (as'.map (eTo E ad)).reverse ++ .ref (ad a.toNat) :: st.map (eTo E ad) := by
    show ((mR t a :: as').reverse ++ st).map (eTo E ad) = _
    rw [List.reverse_cons, List.append_assoc, List.map_append, List.map_reverse, List.map_append]
    rw [show [mR t a].map (eTo E ad) = [Value.ref (ad a.toNat)] from congrArg (fun z => [z]) (toV_ref (by omega) ha)]
    rfl
  have hPc : ∀ U : State, U.heap = H → s.WarmedH U.vm → Pm E ad μ (mR t a :: as') (Value.ref (ad a.toNat) :: as'.map (eTo E ad)).toArray U := by
    intro U hU hW
    refine ⟨?_, by rw [hU]; exact hR, ?_, hoka⟩
    · rw [List.map_cons, show eTo E ad (mR t a) = .ref (ad a.toNat) from toV_ref (by omega) ha]
    · rw [hU]; exact hC.warm hW hS.1 hS.2.1
  obtain ⟨b1, b2, b3, b4, b5, b6⟩ := callB9 (ν := ν) (μ := μ) F0' hfr hlo hcode hmx
  have hnp' : ∀ sig, parseMethodDescriptor y.desc = some sig → np = sig.parameters.length := fun sig h => by rw [h] at hnp; exact (Option.some.inj hnp).symm
  have hf9 : gCl μ.1 - c0 + (gCl ν.1 - gCl μ.1) ≤ R.cells ∧ gSl μ.1 - s0 + (gSl ν.1 - gSl μ.1) ≤ R.slots := ⟨by have := hg.2.1; omega, by have := hg.2.2.1; omega⟩
  rcases hlk with hlk | ⟨host, hlk⟩
  · exact ws_back hg hS hL hokr ht hx hc hs (va_runV (Ts := []) (n := np) ⟨hx0, hb, hml, hown, fun w h => absurd h List.not_mem_nil⟩ (hM ad) ⟨⟨b1, b2, b3, b4, b5, b6, hC.word hcode rfl rfl, hC.word hinit rfl rfl, hy, hnp', hC.word hlk rfl rfl⟩, hC.word hin rfl rfl, hC.word hse rfl rfl⟩ ⟨Pm_blind, hrv, hPc⟩ rfl (by rw [List.length_map]; exact hlen) hL.1 hstk (by show 2 * 0 + _ ≤ 8; omega) hd hf9) kk
  · exact ws_back hg hS hL hokr ht hx hc hs (va_runVN (Ts := []) (n := np) ⟨hx0, hb, hml, hown, fun w h => absurd h List.not_mem_nil⟩ (hM ad) ⟨⟨⟨b1, b2, b3, b4, b5, b6⟩, hC.word hcode rfl rfl, hC.word hinit rfl rfl, hy, hnp', hC.word hlk rfl rfl⟩, hC.word hin rfl rfl, hC.word hse rfl rfl⟩ ⟨Pm_blind, hrv, hPc⟩ rfl (by rw [List.length_map]; exact hlen) hL.1 hstk (by show 2 * 0 + _ ≤ 8; omega) hd hf9) kk
theorem ws_callI (F : FX E p R s mid c bytes nL (own o) c0 s0 CM SM) (hfr : d + 9 ≤ R.frames) (hlo : 200 * (d + 9) ≤ R.locals) (hd : decode bytes pc = .ok (.invokespecial k, 3)) (hlk : LkOK o k y) (hcode : Cond.code y by' maxL none ∈ lw_tbl) (hinit : Cond.initialized y.cls ∈ lw_tbl) (hy : y.cls ≠ "java/lang/invoke/MethodHandle" ∧ y.cls ≠ "java/lang/invoke/VarHandle") (hnp : (parseMethodDescriptor y.desc).map (fun d => d.parameters.length) = some np) (hin : Cond.instanceMethod y ∈ lw_tbl) (hnm : y.name = "<init>") (hmx : maxL ≤ 100)
    {t : Nat} {a : Int} {as' : List MV} (has : as = mR t a :: as') (hlen : as'.length = np) (ht10 : 10 ≤ t) (ha : 0 ≤ a) (hrl : st.length ≤ 4) (hM : MetOK E l y by' maxL none d as μ r ν) (hg : Gr μ ν) (hCM : gCl ν.1 ≤ CM) (hSM : gSl ν.1 ≤ SM)
    (kk : WS E p l e R s mid args below meth c nL c0 s0 top0 ad0 Q (pc + 3) ls (r.toList ++ st) ν) : WS E p l e R s mid args below meth c nL c0 s0 top0 ad0 Q pc ls (as.reverse ++ st) μ := by
  intro H locs lsR ad hS hR hL hok ht hx hc hs
  have F0' := F
  obtain ⟨hx0, hb, hml, hown, hC, hc1, hs1⟩ := F
  have hokr : ∀ v ∈ st, okV μ.1 v := fun v hv => hok v (List.mem_append_right _ hv)
  have hoka : ∀ v ∈ as, okV μ.1 v := fun v hv => hok v (List.mem_append_left _ (List.mem_reverse.mpr hv))
  subst has
  have hsum := cat_sum (E := E) (ad := ad) st
  have hstk : (F0 mid pc lsR (((mR t a :: as').reverse ++ st).map (eTo E ad))).stack = (as'.map (eTo E ad)).reverse ++ .ref (ad a.toNat) :: st.map (eTo E ad) := by
    show ((mR t a :: as').reverse ++ st).map (eTo E ad) = _
    rw [List.reverse_cons, List.append_assoc, List.map_append, List.map_reverse, List.map_append]
    rw [show [mR t a].map (eTo E ad) = [Value.ref (ad a.toNat)] from congrArg (fun z => [z]) (toV_ref (by omega) ha)]
    rfl
  have hPc : ∀ U : State, U.heap = H → s.WarmedH U.vm → Pm E ad μ (mR t a :: as') (Value.ref (ad a.toNat) :: as'.map (eTo E ad)).toArray U := by
    intro U hU hW
    refine ⟨?_, by rw [hU]; exact hR, ?_, hoka⟩
    · rw [List.map_cons, show eTo E ad (mR t a) = .ref (ad a.toNat) from toV_ref (by omega) ha]
    · rw [hU]; exact hC.warm hW hS.1 hS.2.1
  obtain ⟨b1, b2, b3, b4, b5, b6⟩ := callB9 (ν := ν) (μ := μ) F0' hfr hlo hcode hmx
  have hnp' : ∀ sig, parseMethodDescriptor y.desc = some sig → np = sig.parameters.length := fun sig h => by rw [h] at hnp; exact (Option.some.inj hnp).symm
  have hf9 : gCl μ.1 - c0 + (gCl ν.1 - gCl μ.1) ≤ R.cells ∧ gSl μ.1 - s0 + (gSl ν.1 - gSl μ.1) ≤ R.slots := ⟨by have := hg.2.1; omega, by have := hg.2.2.1; omega⟩
  rcases hlk with hlk | ⟨host, hlk⟩
  · exact ws_back hg hS hL hokr ht hx hc hs (va_runI (Ts := []) (n := np) ⟨hx0, hb, hml, hown, fun w h => absurd h List.not_mem_nil⟩ (hM ad) ⟨⟨b1, b2, b3, b4, b5, b6, hC.word hcode rfl rfl, hC.word hinit rfl rfl, hy, hnp', hC.word hlk rfl rfl⟩, hnm, hC.word hin rfl rfl⟩ ⟨Pm_blind, hPc⟩ rfl (by rw [List.length_map]; exact hlen) hL.1 hstk (by show 2 * 0 + _ ≤ 8; omega) hd hf9) kk
  · exact ws_back hg hS hL hokr ht hx hc hs (va_runIN (Ts := []) (n := np) ⟨hx0, hb, hml, hown, fun w h => absurd h List.not_mem_nil⟩ (hM ad) ⟨⟨⟨b1, b2, b3, b4, b5, b6⟩, hC.word hcode rfl rfl, hC.word hinit rfl rfl, hy, hnp', hC.word hlk rfl rfl⟩, hnm, hC.word hin rfl rfl⟩ ⟨Pm_blind, hPc⟩ rfl (by rw [List.length_map]; exact hlen) hL.1 hstk (by show 2 * 0 + _ ≤ 8; omega) hd hf9) kk
theorem ws_callS (F : FX E p R s mid c bytes nL (own o) c0 s0 CM SM) (hfr : d + 9 ≤ R.frames) (hlo : 200 * (d + 9) ≤ R.locals) (hd : decode bytes pc = .ok (.invokestatic k, 3)) (hlk : LkOK o k y) (hcode : Cond.code y by' maxL ret ∈ lw_tbl) (hinit : Cond.initialized y.cls ∈ lw_tbl) (hy : y.cls ≠ "java/lang/invoke/MethodHandle" ∧ y.cls ≠ "java/lang/invoke/VarHandle") (hnp : (parseMethodDescriptor y.desc).map (fun d => d.parameters.length) = some np) (hst : Cond.static y ∈ lw_tbl) (hmx : maxL ≤ 100)
    (hlen : as.length = np) (hrl : st.length ≤ 4) (hM : MetOK E l y by' maxL ret d as μ r ν) (hg : Gr μ ν) (hCM : gCl ν.1 ≤ CM) (hSM : gSl ν.1 ≤ SM)
    (kk : WS E p l e R s mid args below meth c nL c0 s0 top0 ad0 Q (pc + 3) ls (r.toList ++ st) ν) : WS E p l e R s mid args below meth c nL c0 s0 top0 ad0 Q pc ls (as.reverse ++ st) μ := by
  intro H locs lsR ad hS hR hL hok ht hx hc hs
  have F0' := F
  obtain ⟨hx0, hb, hml, hown, hC, hc1, hs1⟩ := F
  have hokr : ∀ v ∈ st, okV μ.1 v := fun v hv => hok v (List.mem_append_right _ hv)
  have hoka : ∀ v ∈ as, okV μ.1 v := fun v hv => hok v (List.mem_append_left _ (List.mem_reverse.mpr hv))
  have hsum := cat_sum (E := E) (ad := ad) st
  have hstk : (F0 mid pc lsR ((as.reverse ++ st).map (eTo E ad))).stack = (as.map (eTo E ad)).reverse ++ st.map (eTo E ad) := by
    show (as.reverse ++ st).map (eTo E ad) = _
    rw [List.map_append, List.map_reverse]
  have hPc : ∀ U : State, U.heap = H → s.WarmedH U.vm → Pm E ad μ as (as.map (eTo E ad)).toArray U := by
    intro U hU hW
    refine ⟨rfl, by rw [hU]; exact hR, ?_, hoka⟩
    rw [hU]; exact hC.warm hW hS.1 hS.2.1
  obtain ⟨b1, b2, b3, b4, b5, b6⟩ := callB9 (ν := ν) (μ := μ) F0' hfr hlo hcode hmx
  have hnp' : ∀ sig, parseMethodDescriptor y.desc = some sig → np = sig.parameters.length := fun sig h => by rw [h] at hnp; exact (Option.some.inj hnp).symm
  have hf9 : gCl μ.1 - c0 + (gCl ν.1 - gCl μ.1) ≤ R.cells ∧ gSl μ.1 - s0 + (gSl ν.1 - gSl μ.1) ≤ R.slots := ⟨by have := hg.2.1; omega, by have := hg.2.2.1; omega⟩
  rcases hlk with hlk | ⟨host, hlk⟩
  · exact ws_back hg hS hL hokr ht hx hc hs (va_runS (Ts := []) (n := np) ⟨hx0, hb, hml, hown, fun w h => absurd h List.not_mem_nil⟩ (hM ad) ⟨⟨b1, b2, b3, b4, b5, b6, hC.word hcode rfl rfl, hC.word hinit rfl rfl, hy, hnp', hC.word hlk rfl rfl⟩, hC.word hst rfl rfl⟩ ⟨Pm_blind, hPc⟩ rfl (by rw [List.length_map]; exact hlen) hL.1 hstk (by show 2 * 0 + _ ≤ 8; omega) hd hf9) kk
  · exact ws_back hg hS hL hokr ht hx hc hs (va_runSN (Ts := []) (n := np) ⟨hx0, hb, hml, hown, fun w h => absurd h List.not_mem_nil⟩ (hM ad) ⟨⟨⟨b1, b2, b3, b4, b5, b6⟩, hC.word hcode rfl rfl, hC.word hinit rfl rfl, hy, hnp', hC.word hlk rfl rfl⟩, hC.word hst rfl rfl, trivial⟩ ⟨Pm_blind, hPc⟩ rfl (by rw [List.length_map]; exact hlen) hL.1 hstk (by show 2 * 0 + _ ≤ 8; omega) hd hf9) kk
end Call
