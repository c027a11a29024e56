def R_law : String := "StreetTubeLaw"
def lw_P (b : Addr) (xs : List Int32) (args : Array Value) (s : State) : Prop := args = #[.ref b] ∧ s.IntsAt b xs ∧ xs.length ≤ 3072 ∧ (Jvm.Cond.and given_1 narrow_1).before args s = true
def lw_Q (_ : Array Value) (s : State) (o : Outcome) (t : State) : Prop := o = .returned (some (.int 1)) ∧ Framed s o t [] 601024 7293034
def lw_Z (below : List Frame) (a : Array Value) (s : State) : State → Prop := fun t => ∃ o, t.status = .running ∧ Ended t below o ∧ lw_Q a s o t
/-- the law's own end, with 1 on the stack, nothing written that was there before, its room as the claim has it -/
theorem lw_ret {p : Program} {l : Launch} {e : Env} {s : State} {m : MethodId} {below : List Frame} {meth : Method} {c : Code} {b : Nat} (hx : p.tables.exec = Jvm.exec) (hb : c.code = code) (hr : meth.sig.returnType = ret) (hlocks : meth.locks = false) {pc : Nat} {H : Heap} {ls : Array Slot} (hdg : decode code pc = .ok (.ireturn, 1)) : W p l e room_1 s m #[Value.ref b] below meth c H [] 601024 7293034 (lw_Z below #[Value.ref b] s) (F0 m pc ls [.int 1]) := by
  intro T hT X
  obtain ⟨fs, hret, hrun, hended, hW, hframe⟩ := X.leave (v := some (.int 1)) (hlocks := hlocks) (fun h => by rw [hr] at h; cases h)
  have hmeth' : T.vm.method? m = some meth := X.method'
  refine ⟨T.setFrames fs, ?_, .returned (some (.int 1)), hrun, hended, rfl, ⟨_, rfl⟩, hW, hframe⟩
  jvm_step X.here [X.here.top, hx, hb, hdg, hmeth', hr, ret, narrow_b1]
  (try refine ⟨rfl, ?_⟩); (try refine ⟨rfl, ?_⟩)
  first | (intro acts; rw [hret _ acts rfl rfl rfl]) | rw [hret _ _ rfl rfl rfl]
  exact Steps.refl _
/-- what holds at the law's entry: the machine, the code, the tables' words (any of lw_tbl by 'hts w (by decide +kernel)'), the script of L ints xs at the cell b, what the Statement gives of the start (any of its parts by flat_of_before) -/
def lw_At (p : Program) (s : State) (m : MethodId) (meth : Method) (c : Code) (b L : Nat) (xs : Nat → Int32) : Prop :=
  p.tables.exec = Jvm.exec ∧ c.code = code ∧ meth.sig.returnType = ret ∧ c.maxLocals = 7 ∧ s.vm.findClass R_law = some m.cls ∧ (∀ w ∈ lw_tbl, w.before #[Value.ref b] s = true) ∧ va_X b L xs s s.heap ∧ b < s.heap.size ∧ meth.locks = false ∧ (Jvm.Cond.and given_1 narrow_1).before #[Value.ref b] s = true
/-! THE START: what the claim gives at the entry, as the simulation needs it -/
def stIx (i : Nat) : Nat := [9, 17, 19, 21, 23, 25, 27, 29, 181, 190, 191, 200, 205, 207, 209, 254, 256].getD i 0
def stJx (i : Nat) : Nat := [155, 157, 159, 161, 163, 165, 167, 169, 240, 245, 247, 261, 263, 265, 267, 319, 321].getD i 0
abbrev stV (o : String) (k : Nat) : Term := .field (.string o k) "java/lang/String" "value" "[B"
def stW (o : String) (k : Nat) (bs : List Int32) : List Cond := .exactly (.string o k) "java/lang/String" :: .eq (.field (.string o k) "java/lang/String" "coder" "B") (.int 0) :: .arrayOf (stV o k) .byte :: .eq (.length (stV o k)) (.int (Int32.ofNat bs.length)) :: (List.range bs.length).map fun j => .eq (.elem (stV o k) (.int (Int32.ofNat j))) (.int (bs.getD j 0))
def stO (len : Nat) (bs : List Int32) (A : Nat → Prop) (U : State) (H : Heap) (a t : Nat) : Prop := va_O "java/lang/String" a A U H ∧ va_OF "java/lang/String" "coder" "B" (.int 0) a A U H ∧ va_OF "java/lang/String" "value" "[B" (.ref t) a A U H ∧ va_T .byte t len (fun j => .int (bs.getD j 0)) A U H
theorem st_one {args : Array Value} {s : State} {A : Nat → Prop} {o : String} {k : Nat} {bs : List Int32} (hn : bs.length < 2 ^ 31) (h : ∀ w ∈ stW o k bs, w.before args s = true) (hA : ∀ a : Nat, a < s.heap.size → ¬ A a) : ∃ a t : Nat, stO bs.length bs A s s.heap a t ∧ (Term.string o k).eval args s none [] s = some (.ref a) := by
  have h0 := h _ List.mem_cons_self
  have h1 := h _ (List.mem_cons_of_mem _ List.mem_cons_self)
  have h2 := h _ (List.mem_cons_of_mem _ (List.mem_cons_of_mem _ List.mem_cons_self))
  have h3 := h _ (List.mem_cons_of_mem _ (List.mem_cons_of_mem _ (List.mem_cons_of_mem _ List.mem_cons_self)))
  have h4 : ∀ j, j < bs.length → (Cond.eq (.elem (stV o k) (.int (Int32.ofNat j))) (.int (bs.getD j 0))).before args s = true := fun j hj => h _ (List.mem_cons_of_mem _ (List.mem_cons_of_mem _ (List.mem_cons_of_mem _ (List.mem_cons_of_mem _ (List.mem_map.mpr ⟨j, List.mem_range.mpr hj, rfl⟩)))))
  have z : ∀ i : Nat, i < 1 → i = 0 := fun i hi => by omega
  obtain ⟨adK, adV, hS, he⟩ := vk_Sof (args := args) (s := s) (N := 1) (tm := fun _ => .string o k) (len := [bs.length]) (byt := [bs]) (A := A) (fun i hi => by rw [z i hi]; exact hn) (fun i _ => h0) (fun i _ => h1) (fun i _ => h2) (fun i hi => by rw [z i hi]; exact h3) (fun i hi => by rw [z i hi]; exact h4) (fun i j hi hj hne => absurd ((z i hi).trans (z j hj).symm) hne) hA
  exact ⟨adK 0, adV 0, hS.1 0 (by omega), he 0 (by omega)⟩
theorem of_fun {o n d : String} {v v' : Value} {t : Nat} {A : Nat → Prop} {U : State} {H : Heap} (h : va_OF o n d v t A U H) (h' : va_OF o n d v' t A U H) : v = v' := by
  obtain ⟨cf, k, i, f, cell, h1, -, h3, -, h5, -⟩ := h
  obtain ⟨cf', k', i', f', cell', h1', -, h3', -, h5', -⟩ := h'
  rw [h1] at h1'
  cases h1'
  rw [h3] at h3'
  cases h3'
  rw [h5] at h5'
  exact Option.some.inj h5'
theorem st_dif : ∀ i, i < 17 → ∀ j, j < 17 → i ≠ j → jsN.getD i 0 ≠ jsN.getD j 0 ∨ (List.range (jsN.getD i 0)).any (fun q => (jsB.getD i []).getD q 0 != (jsB.getD j []).getD q 0) = true := by decide +kernel
theorem st_len : ∀ i, i < 17 → jsN.getD i 0 = (jsB.getD i []).length ∧ jsN.getD i 0 < 100 := by decide +kernel
theorem st_all {args : Array Value} {s : State} {A : Nat → Prop} (h : ∀ i, i < 17 → ∀ w ∈ stW "StreetTube$Reader" (stIx i) (jsB.getD i []), w.before args s = true) (hA : ∀ a : Nat, a < s.heap.size → ¬ A a) : ∃ adK adV : Nat → Nat, vk_S 17 jsN jsB adK adV A s s.heap ∧ ∀ i, i < 17 → (Term.string "StreetTube$Reader" (stIx i)).eval args s none [] s = some (.ref (adK i)) := by
  have h0 : ∀ i : Nat, ∃ q : Nat × Nat, i < 17 → stO (jsN.getD i 0) (jsB.getD i []) A s s.heap q.1 q.2 ∧ (Term.string "StreetTube$Reader" (stIx i)).eval args s none [] s = some (.ref q.1) := by
    intro i
    by_cases hi : i < 17
    · obtain ⟨e1, e2⟩ := st_len i hi
      obtain ⟨a, t, h1, h2⟩ := st_one (by omega) (h i hi) hA
      exact ⟨(a, t), fun _ => ⟨by rw [e1]; exact h1, h2⟩⟩
    · exact ⟨(0, 0), fun q => absurd q hi⟩
  obtain ⟨ad, had⟩ := Classical.axiomOfChoice h0
  refine ⟨fun i => (ad i).1, fun i => (ad i).2, ⟨fun i hi => (had i hi).1, fun i j hi hj e => ?_⟩, fun i hi => (had i hi).2⟩
  by_cases hij : i = j
  · exact hij
  · exfalso
    obtain ⟨⟨-, -, f1, g1⟩, -⟩ := had i hi
    obtain ⟨⟨-, -, f2, g2⟩, -⟩ := had j hj
    have e : (ad i).1 = (ad j).1 := e
    rw [← e] at f2
    have e2 := of_fun f1 f2
    have e3 : (ad i).2 = (ad j).2 := Value.ref.inj e2
    rw [← e3] at g2
    obtain ⟨c1, a1, -, -, -, a5, a6, -⟩ := g1
    obtain ⟨c2, b1, -, -, -, b5, b6, -⟩ := g2
    rw [a1] at b1
    cases b1
    have hl : jsN.getD i 0 = jsN.getD j 0 := by
      have l1 := (st_len i hi).2
      have l2 := (st_len j hj).2
      have := congrArg Int32.toInt (a5.symm.trans b5)
      rw [← Int32.ofInt_eq_ofNat, ← Int32.ofInt_eq_ofNat, Int32.toInt_ofInt_of_le (by omega) (by omega), Int32.toInt_ofInt_of_le (by omega) (by omega)] at this
      omega
    rcases st_dif i hi j hj hij with q | q
    · exact q hl
    · obtain ⟨k, hk, hne⟩ := List.any_eq_true.mp q
      have hk := List.mem_range.mp hk
      have := (a6 k hk).symm.trans (b6 k (hl ▸ hk))
      have e9 : (jsB.getD i []).getD k 0 = (jsB.getD j []).getD k 0 := by
        have := Option.some.inj this
        exact Value.int.inj this
      rw [e9] at hne
      simp at hne
abbrev flN : List Cond := flatC (Jvm.Cond.and given_1 narrow_1)
set_option maxRecDepth 100000 in
theorem st_in : ∀ i, i < 17 → ∀ w ∈ stW "StreetTube$Reader" (stIx i) (jsB.getD i []), w ∈ flN := by decide +kernel
set_option maxRecDepth 100000 in
theorem st_eq : ∀ i, i < 17 → Cond.eq (.string "StreetTube$Reader" (stIx i)) (.string "StreetTubeModel" (stJx i)) ∈ flN := by decide +kernel
set_option maxRecDepth 100000 in
theorem st_jr : ∀ x ∈ jsR, x.2.2.2 < 17 ∧ ((x.1 = "StreetTube$Reader" ∧ x.2.1 = stIx x.2.2.2) ∨ (x.1 = "StreetTubeModel" ∧ x.2.1 = stJx x.2.2.2)) := by decide +kernel
set_option maxRecDepth 100000 in
theorem st_jw : ∀ x ∈ jsR, Cond.stringRef x.1 x.2.1 x.2.2.1 ∈ lw_tbl := by decide +kernel
set_option maxRecDepth 100000 in
theorem st_cs : Cond.eq (.static "java/lang/String" "COMPACT_STRINGS" "Z") (.int 1) ∈ flN := by decide +kernel
set_option maxRecDepth 100000 in
theorem st_sf : Cond.isRef (.static "jdk/internal/util/Preconditions" "SIOOBE_FORMATTER" "Ljava/util/function/BiFunction;") ∈ flN := by decide +kernel
set_option maxRecDepth 100000 in
theorem st_us : Cond.isRef (.static Bundle.tN "UNASSIGNED_STACK" Bundle.steD) ∈ flN := by decide +kernel
set_option maxRecDepth 100000 in
theorem st_ss : Cond.isRef (.static Bundle.tN "SUPPRESSED_SENTINEL" Bundle.listD) ∈ flN := by decide +kernel
theorem st_cl : ∀ c, c < 9 → ClsOK (c + 10) := fun c hc => match c, hc with
  | 0, _ => cls_10
  | 1, _ => cls_11
  | 2, _ => cls_12
  | 3, _ => cls_13
  | 4, _ => cls_14
  | 5, _ => cls_15
  | 6, _ => cls_16
  | 7, _ => cls_17
  | 8, _ => cls_18
  | c + 9, h => absurd h (by omega)
theorem st_kn {s : State} {args : Array Value} (hts : ∀ w ∈ lw_tbl, w.before args s = true) : ∃ D : va_G, ∀ (c : Nat) (q : vw_C), vwCl[c]? = some q → u_Kn s q.1 q.2.1 q.2.2 (D.1 c) (D.2 c) := by
  have h0 : ∀ c : Nat, ∃ x : ClassId × (Nat → Nat), ∀ q : vw_C, vwCl[c]? = some q → u_Kn s q.1 q.2.1 q.2.2 x.1 x.2 := by
    intro c
    by_cases hc : c < 9
    · obtain ⟨C, T, N, tf, h1, -, h3, -, -, -, -, -, h9, -⟩ := st_cl c hc
      obtain ⟨cC, iS, hk⟩ := u_known hts h3 (hts _ h9)
      refine ⟨(cC, iS), fun q hq => ?_⟩
      rw [Nat.add_sub_cancel, hq] at h1
      cases h1
      exact hk
    · refine ⟨(0, fun _ => 0), fun q hq => ?_⟩
      have := (List.getElem?_eq_some_iff.mp hq).1
      simp [vwCl] at this
      omega
  obtain ⟨f, hf⟩ := Classical.axiomOfChoice h0
  exact ⟨(fun c => (f c).1, fun c => (f c).2), fun c q hq => hf c q hq⟩
def stTy (t : Nat) : FieldType := match t with
  | 4 => .int
  | 5 => .long
  | 6 => .byte
  | _ => .boolean
set_option maxRecDepth 100000 in
theorem st_ar : ∀ t, 4 ≤ t → t < 8 → Cond.arrayClass (stTy t) ∈ lw_tbl := fun t h1 h2 => match t, h1, h2 with
  | 4, _, _ => (mt_1 (List.mem_of_getElem? (i := 62) rfl))
  | 5, _, _ => (mt_2 (List.mem_of_getElem? (i := 13) rfl))
  | 6, _, _ => (mt_2 (List.mem_of_getElem? (i := 14) rfl))
  | 7, _, _ => (mt_1 (List.mem_of_getElem? (i := 63) rfl))
  | t + 8, _, h => absurd h (by omega)
theorem st_arr {s : State} {args : Array Value} (hts : ∀ w ∈ lw_tbl, w.before args s = true) : ∃ cA : Nat → ClassId, ∀ t, 4 ≤ t → t < 8 → s.vm.findClass ("[" ++ (stTy t).toString) = some (cA t) ∧ ArrOfT s (cA t) (stTy t) := by
  have h0 : ∀ t : Nat, ∃ cA : ClassId, 4 ≤ t → t < 8 → s.vm.findClass ("[" ++ (stTy t).toString) = some cA ∧ ArrOfT s cA (stTy t) := by
    intro t
    by_cases h : 4 ≤ t ∧ t < 8
    · obtain ⟨c, k, comp, h1, h2, h3⟩ := Cond.arrayClass_spec (hts _ (st_ar t h.1 h.2))
      exact ⟨c, fun _ _ => ⟨h1, fun n z => ⟨fun k => by simp [arrV], k, h2, comp, h3⟩⟩⟩
    · exact ⟨0, fun a b => absurd ⟨a, b⟩ h⟩
  obtain ⟨f, hf⟩ := Classical.axiomOfChoice h0
  exact ⟨f, hf⟩
def muS (L : Nat) (xs : Nat → Int32) : MM := ((0, 0, 0, fun _ => 0, fun a => if a = -1 then (L : Int) else 0), fun a j => if a = -1 then (xs j.toNat).toInt else 0)
theorem st_ctx {s : State} {b L : Nat} {xs : Nat → Int32} (hL : L ≤ 3072) (hts : ∀ w ∈ lw_tbl, w.before #[Value.ref b] s = true) (hX : va_X b L xs s s.heap) (hbl : b < s.heap.size) (hgv : (Jvm.Cond.and given_1 narrow_1).before #[Value.ref b] s = true) : ∃ E : ENV, Ctx E s s.heap ∧ eBase E = s.heap.size ∧ eB E = b ∧ eL E = L ∧ eX E = xs := by
  have hf := flat_of_before _ hgv
  obtain ⟨D, hD⟩ := st_kn hts
  obtain ⟨cA, hcA⟩ := st_arr hts
  have hA : ∀ a : Nat, a < s.heap.size → ¬ (fun q : Nat => s.heap.size ≤ q) a := fun a h => Nat.not_le.mpr h
  obtain ⟨adK, adV, hS, he⟩ := st_all (A := fun q : Nat => s.heap.size ≤ q) (fun i hi w hw => hf w (st_in i hi w hw)) hA
  refine ⟨(D, cA, s.heap.size, b, L, xs, adK, adV), ⟨⟨hD, ?_⟩, ?_, ?_, ⟨hS, ?_, ?_, ?_, ?_⟩, hX, hbl, Nat.le_refl _, ?_, hL⟩, rfl, rfl, rfl, rfl⟩
  · intro k q hq
    match k, hq with
    | 0, hq => cases hq; exact ⟨(hcA 4 (by omega) (by omega)).2, (hcA 4 (by omega) (by omega)).1⟩
    | 1, hq => cases hq; exact ⟨(hcA 5 (by omega) (by omega)).2, (hcA 5 (by omega) (by omega)).1⟩
    | 2, hq => cases hq; exact ⟨(hcA 6 (by omega) (by omega)).2, (hcA 6 (by omega) (by omega)).1⟩
    | 3, hq => cases hq; exact ⟨(hcA 7 (by omega) (by omega)).2, (hcA 7 (by omega) (by omega)).1⟩
    | k + 4, hq => cases hq
  · intro w hw hc
    have h := hts w hw
    unfold cw at hc
    rw [Bool.or_eq_true] at hc
    rcases hc with hc | hc
    · exact word_at (State.WarmedH.refl s) (good_of_word hc) h
    · split at hc
      · exact va_tabs rfl rfl h
      · exact va_tabs rfl rfl h
      · exact va_tabs rfl rfl h
      · exact va_tabs rfl rfl h
      · cases hc
  · intro x hx
    obtain ⟨h1, h2⟩ := st_jr x hx
    refine vk_R.of (A := #[Value.ref b]) (hts _ (st_jw x hx)) ?_
    rcases h2 with ⟨e1, e2⟩ | ⟨e1, e2⟩
    · rw [e1, e2]; exact he _ h1
    · rw [e1, e2]; exact va_eqR (hf _ (st_eq _ h1)) (he _ h1)
  · exact va_Zof (hts _ (mt_1 (List.mem_of_getElem? (i := 157) rfl))) (hts _ (mt_1 (List.mem_of_getElem? (i := 5) rfl))) (va_eqi (hf _ st_cs)) hA
  · exact va_Zqof (hts _ (mt_1 (List.mem_of_getElem? (i := 174) rfl))) (hts _ (mt_1 (List.mem_of_getElem? (i := 7) rfl))) (hf _ st_sf) hA
  · exact vx_Zqof (hts _ (mt_5 (List.mem_of_getElem? (i := 235) rfl))) (hts _ (mt_1 (List.mem_of_getElem? (i := 21) rfl))) (hf _ st_us) hA
  · exact vx_Zqof (hts _ (mt_5 (List.mem_of_getElem? (i := 237) rfl))) (hts _ (mt_1 (List.mem_of_getElem? (i := 21) rfl))) (hf _ st_ss) hA
  · intro t h1 h2
    refine ⟨stTy t, (hcA t h1 h2).1, ?_⟩
    match t, h1, h2 with
    | 4, _, _ => rfl
    | 5, _, _ => rfl
    | 6, _, _ => rfl
    | 7, _, _ => rfl
    | t + 8, _, h => exact absurd h (by omega)
theorem chk_all {ini : Bool} {o : Nat} {bytes : ByteArray} : ∀ (k : List (List Instr)) (q : Nat), (∀ j, j < k.length → (decide ((nth [] k j).length ≤ 32) && chkL ini o bytes (32 * (q + j)) (nth [] k j)) = true) → chkM ini o bytes q k = true
  | [], _, _ => rfl
  | l :: r, q, h => by
    have h0 := h 0 (by simp)
    have h1 := chk_all r (q + 1) (fun j hj => by
      have := h (j + 1) (by simp; omega)
      rw [show q + (j + 1) = q + 1 + j by omega] at this
      exact this)
    simp only [chkM]
    rw [h1, Bool.and_true]
    exact h0
theorem ck_len : kL_law.length = 70 := rfl
theorem ck_law : chkM false 15 code 0 (mtab 366).2.2.2 = true := by
  refine chk_all kL_law 0 fun j hj => ?_
  rw [ck_len] at hj
  rw [Nat.zero_add]
  exact ck_lw j hj
theorem st_dq {ini : Bool} {o pc : Nat} {bytes : ByteArray} (h : chkI ini o bytes pc .ireturn = true) : decode bytes pc = .ok (.ireturn, 1) := dq_of h
theorem st_room (d : Nat) (hd : d ≤ 400) : d + 8 ≤ room_1.frames ∧ 200 * (d + 8) ≤ room_1.locals := by
  have e1 : room_1.frames = 2048 := by decide +kernel
  have e2 : room_1.locals = 84000 := by decide +kernel
  rw [e1, e2]
  refine ⟨by omega, ?_⟩
  have : d + 8 ≤ 408 := by omega
  exact Nat.le_trans (Nat.mul_le_mul_left 200 this) (by decide)
/-- the law's entry, out of the mini machine's run -/
theorem start_W {p : Program} {e : Env} {s : State} {m : MethodId} {below : List Frame} {meth : Method} {c : Code} (l : Launch) (hlt : l.stackTraces = false) {b L : Nat} {xs : Nat → Int32} (hL : L ≤ 3072) (C0 : lw_At p s m meth c b L xs) {n d : Nat} {ν : MM} (hd : d ≤ 400) (h : runF n d 366 0 (pad 7 (lay [mR 1 0])) [] (muS L xs) = some (some (mI 1), ν)) (hcl : gCl ν.1 ≤ 601024) (hsl : gSl ν.1 ≤ 7293034) :
    W p l e room_1 s m #[Value.ref b] below meth c s.heap [] 0 0 (lw_Z below #[Value.ref b] s) (entryFrame m ([Value.ref b] : List Value).toArray 7) := by
  obtain ⟨hx, hb, hr, hml, hown, hts, hX, hbl, hlocks, hgv⟩ := id C0
  obtain ⟨E, hC, e1, e2, e3, e4⟩ := st_ctx hL hts hX hbl hgv
  have hS : SIM E l n := sim_all (str_ok E l) (led_ok E l hlt) n
  obtain ⟨r1, r2⟩ := st_room d hd
  have F : FX E p room_1 s m c code (mtab 366).1 (own 15) 0 0 601024 7293034 := ⟨hx, hb, hml, hown, hC, rfl, rfl⟩
  have hR : Rep E (fun _ => 0) (muS L xs) s.heap := by
    refine ⟨fun k q hq => ?_, ⟨fun i j x y hi => ?_, fun k q hq => ?_⟩, ⟨Int.le_refl _, fun a h1 h2 => ?_⟩, ?_, ?_⟩
    · exact absurd hq (by simp [eWs, wsV9, muS, gTop])
    · exact absurd hi (by simp [eWs, wsV9, muS, gTop])
    · exact absurd hq (by simp [eWs, wsV9, muS, gTop])
    · exact absurd h2 (by show ¬ a < 0; omega)
    · rw [e3]; rfl
    · intro i _ _; rw [e4]; rfl
  rw [lg_entry_eq]
  have key := hS d 366 0 _ [] (muS L xs) _ ν h p e room_1 s m #[Value.ref b] below meth c (lw_Z below #[Value.ref b] s) code 15 false 0 0 601024 7293034 0 (fun _ => 0) F ck_law (fun q => by cases q) r1 r2 hcl hsl
    (fun pc' ls' st' μ' hret => ?_) s.heap [] _ (fun _ => 0) va_S.rf hR (lrep_entry (as := [mR 1 0]) (nL := 7) (Nat.le_of_ble_eq_true rfl) (fun v hv => by rw [List.mem_singleton.mp hv]; exact Int.le_refl _)) (fun v hv => absurd hv List.not_mem_nil) (Int.le_refl _) (fun _ _ => rfl) (Nat.le_refl _) (Nat.le_refl _)
  · have e9 : ([mR 1 0] : List MV).map (eTo E fun _ => 0) = [Value.ref b] := by simp [eTo, toV, e2]
    rw [e9] at key
    exact key
  · intro H locs lsR ad hS' hR' hL' hok ht hx' hc hs
    have hck : ∀ i, look (mtab 366).2.2.2 pc' = i → chkI false 15 code pc' i = true := fun i hi => by rw [← hi]; exact chk_at ck_law pc'
    have hloc : ∀ q ∈ locs, s.heap.size ≤ q.base := fun q hq => by rw [← e1]; exact hS'.2.2 q hq
    rcases hret with ⟨hi, x, rfl, hv, rfl, hrx⟩ | ⟨hi, x, rfl, hv, rfl, hk⟩ | ⟨hi, t, x, rfl, hv, rfl, hk⟩ | ⟨hi, rfl, hv, rfl, hk⟩ | ⟨hi, q⟩
    · cases hv
      refine va_forget hloc (W.widen (k := 601024) (n := 7293034) ?_ ?_ (lw_ret hx hb hr hlocks (st_dq (hck _ hi))))
      · exact hcl
      · exact hsl
    · cases hv
    · cases hv
    · cases hv
    · exact absurd q.2.1 (by intro z; cases z)
