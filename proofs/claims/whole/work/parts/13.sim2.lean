/-! what holds of every state on the way: classes, words, texts, the script -/
def cw (w : Cond) : Bool := goodWord w || (match w with
  | .fieldLinkNest _ _ _ _ _ _ => true
  | .methodLinkNest _ _ _ _ => true
  | .castable _ _ => true
  | .declares _ => true
  | _ => false)
theorem cw_warm {w : Cond} {s U : State} (hW : s.WarmedH U.vm) (hc : cw w = true) (h : w.before #[] s = true) : w.before #[] U = true := by
  unfold cw at hc
  rw [Bool.or_eq_true] at hc
  rcases hc with hc | hc
  · exact word_at hW (good_of_word hc) h
  · split at hc
    · exact va_Nw.warmF hW h
    · exact va_Nw.warmM hW h
    · exact va_tabs rfl (rfl : (s.setVm U.vm).vm = U.vm) ((Cond.castable_setVm hW.alike _ _).trans h)
    · exact va_tabs rfl (rfl : (s.setVm U.vm).vm = U.vm) ((Cond.declares_setVm hW.alike _).trans h)
    · cases hc
def tysA (cA : Nat → ClassId) : List (ClassId × FieldType) := [(cA 4, .int), (cA 5, .long), (cA 6, .byte), (cA 7, .boolean)]
def jsB : List (List Int32) := jsT.map fun t => t.map fun x => Int32.ofInt x
def jsN : List Nat := jsT.map fun t => t.length
def jsR : List (String × Nat × String × Nat) := [("StreetTube$Reader", 9, "tube", 0), ("StreetTube$Reader", 17, "person", 1), ("StreetTube$Reader", 19, "turn", 2), ("StreetTube$Reader", 21, "quarrel", 3), ("StreetTube$Reader", 23, "wants", 4), ("StreetTube$Reader", 25, "shuns", 5), ("StreetTube$Reader", 27, "unsure", 6), ("StreetTube$Reader", 29, "seen", 7), ("StreetTube$Reader", 181, "mirrors", 8), ("StreetTube$Reader", 190, "slots", 9), ("StreetTube$Reader", 191, "shakes", 10), ("StreetTube$Reader", 200, "red", 11), ("StreetTube$Reader", 205, "blue", 12), ("StreetTube$Reader", 207, "green", 13), ("StreetTube$Reader", 209, "at", 14), ("StreetTube$Reader", 254, "beside", 15), ("StreetTube$Reader", 256, "far", 16), ("StreetTubeModel", 155, "tube", 0), ("StreetTubeModel", 157, "person", 1), ("StreetTubeModel", 159, "turn", 2), ("StreetTubeModel", 161, "quarrel", 3), ("StreetTubeModel", 163, "wants", 4), ("StreetTubeModel", 165, "shuns", 5), ("StreetTubeModel", 167, "unsure", 6), ("StreetTubeModel", 169, "seen", 7), ("StreetTubeModel", 240, "mirrors", 8), ("StreetTubeModel", 245, "slots", 9), ("StreetTubeModel", 247, "shakes", 10), ("StreetTubeModel", 261, "red", 11), ("StreetTubeModel", 263, "blue", 12), ("StreetTubeModel", 265, "green", 13), ("StreetTubeModel", 267, "at", 14), ("StreetTubeModel", 319, "beside", 15), ("StreetTubeModel", 321, "far", 16)]
/-- what does not change: D the classes' numbers, cA the array classes', base where new cells begin, b the script's cell, L and xs its ints, adK and adV the texts' cells -/
abbrev ENV : Type := va_G × (Nat → ClassId) × Nat × Nat × Nat × (Nat → Int32) × (Nat → Nat) × (Nat → Nat)
abbrev eD (E : ENV) : va_G := E.1
abbrev eA (E : ENV) : Nat → ClassId := E.2.1
abbrev eBase (E : ENV) : Nat := E.2.2.1
abbrev eB (E : ENV) : Nat := E.2.2.2.1
abbrev eL (E : ENV) : Nat := E.2.2.2.2.1
abbrev eX (E : ENV) : Nat → Int32 := E.2.2.2.2.2.1
abbrev eK (E : ENV) : Nat → Nat := E.2.2.2.2.2.2.1
abbrev eV (E : ENV) : Nat → Nat := E.2.2.2.2.2.2.2
abbrev eS (E : ENV) : Nat → Prop := fun q => eBase E ≤ q
def Ctx (E : ENV) (U : State) (H : Heap) : Prop := va_K (eD E) vwCl (tysA (eA E)) U ∧ (∀ w ∈ lw_tbl, cw w = true → w.before #[] U = true) ∧ (∀ x ∈ jsR, vk_R x.1 x.2.1 x.2.2.1 (eK E x.2.2.2) U) ∧ (vk_S 17 jsN jsB (eK E) (eV E) (eS E) U H ∧ va_Z "java/lang/String" "COMPACT_STRINGS" "Z" (.int 1) (eS E) U H ∧ va_Zq "jdk/internal/util/Preconditions" "SIOOBE_FORMATTER" "Ljava/util/function/BiFunction;" (eS E) U H ∧ vx_Zq Bundle.tN "UNASSIGNED_STACK" Bundle.steD (eS E) U H ∧ vx_Zq Bundle.tN "SUPPRESSED_SENTINEL" Bundle.listD (eS E) U H) ∧ va_X (eB E) (eL E) (eX E) U H ∧ eB E < eBase E ∧ eBase E ≤ H.size ∧ (∀ t, 4 ≤ t → t < 8 → ∃ ty, U.vm.findClass ("[" ++ FieldType.toString ty) = some (eA E t) ∧ (tysA (eA E))[t - 4]? = some (eA E t, ty)) ∧ eL E ≤ 3072
theorem va_X_moved {b L : Nat} {xs : Nat → Int32} {U U' : State} {H H' : Heap} (hvm : U.vm.Alike U'.vm) (hH : H'[b]? = H[b]?) (h : va_X b L xs U H) : va_X b L xs U' H' := by
  obtain ⟨scr, h1, h2, h3⟩ := h
  exact ⟨scr, hH.trans h1, State.isArrayOf_alike hvm h2, h3⟩
theorem Ctx.warm {E : ENV} {U U' : State} {H H' : Heap} (h : Ctx E U H) (hW : U.WarmedH U'.vm) (hz : H.size ≤ H'.size) (hk : ∀ q : Nat, q < H.size → ¬ eS E q → H'[q]? = H[q]?) : Ctx E U' H' := by
  obtain ⟨h1, h2, h3, h4, h5, h6, h7, h8, h9⟩ := h
  refine ⟨h1.moved hW.alike, fun w hw hc => cw_warm hW hc (h2 w hw hc), fun x hx => (h3 x hx).warm hW, ⟨(h4.1.moved hW.alike).kept hk, (h4.2.1.moved hW.alike).kept hk, (h4.2.2.1.moved hW.alike).kept hk, (h4.2.2.2.1.moved hW.alike).kept hk, (h4.2.2.2.2.moved hW.alike).kept hk⟩, va_X_moved hW.alike (hk _ (by omega) (by show ¬ _ ≤ _; omega)) h5, h6, by omega, fun t a b => ?_, h9⟩
  obtain ⟨ty, e1, e2⟩ := h8 t a b
  exact ⟨ty, by rw [hW.alike.findClass]; exact e1, e2⟩
theorem Ctx.word {E : ENV} {U : State} {H : Heap} (h : Ctx E U H) {w : Cond} (hw : w ∈ lw_tbl) (hc : cw w = true) (ho : w.onTables = true) {A : Array Value} : w.before A U = true := va_tabs ho rfl (h.2.1 w hw hc)
abbrev eTo (E : ENV) (ad : Nat → Nat) : MV → Value := toV (eB E) (eK E) ad
abbrev eWs (E : ENV) (ad : Nat → Nat) (μ : MM) : va_W := wsV9 (eA E) (eB E) (eK E) ad μ
/-- the heap holds the mini memory -/
def Rep (E : ENV) (ad : Nat → Nat) (μ : MM) (H : Heap) : Prop := va_P (eD E) vwCl (eWs E ad μ) H ∧ va_D (eS E) (eWs E ad μ) ∧ okM μ ∧ gLn μ.1 (-1) = eL E ∧ ∀ i : Int, 0 ≤ i → i < eL E → μ.2 (-1) i = (eX E i.toNat).toInt
def LRep (E : ENV) (ad : Nat → Nat) (G : MG) (lsR : Array Slot) (nL : Nat) (ls : List MV) : Prop := lsR.size = nL ∧ lv_wf lsR ∧ ls.length = nL ∧ ∀ (k : Nat) (v : MV), ls[k]? = some v → v = MU ∨ (okV G v ∧ lsR[k]? = some (.val (eTo E ad v)))
/-- the frame's own facts: R its room, c0 s0 the counters at its entry, CM SM what they may come to -/
def FX (E : ENV) (p : Program) (R : Room) (s : State) (mid : MethodId) (c : Code) (bytes : ByteArray) (nL : Nat) (own : String) (c0 s0 CM SM : Nat) : Prop :=
  p.tables.exec = Jvm.exec ∧ c.code = bytes ∧ c.maxLocals = nL ∧ s.vm.findClass own = some mid.cls ∧ Ctx E s s.heap ∧ R.cells + c0 = CM ∧ R.slots + s0 = SM
section Sim
variable {E : ENV} {p : Program} {l : Launch} {e : Env} {R : Room} {s : State} {mid : MethodId} {args : Array Value} {below : List Frame} {meth : Method} {c : Code} {Q : State → Prop} {bytes : ByteArray} {nL : Nat} {own : String} {c0 s0 CM SM : Nat} {top0 : Int} {ad0 : Nat → Nat}
/-- the machine at a mini state -/
def WS (E : ENV) (p : Program) (l : Launch) (e : Env) (R : Room) (s : State) (mid : MethodId) (args : Array Value) (below : List Frame) (meth : Method) (c : Code) (nL c0 s0 : Nat) (top0 : Int) (ad0 : Nat → Nat) (Q : State → Prop) (pc : Nat) (ls st : List MV) (μ : MM) : Prop :=
  ∀ (H : Heap) (locs : List Loc) (lsR : Array Slot) (ad : Nat → Nat), va_S (eS E) s.heap H locs → Rep E ad μ H → LRep E ad μ.1 lsR nL ls → (∀ v ∈ st, okV μ.1 v) → top0 ≤ gTop μ.1 → (∀ k : Nat, (k : Int) < top0 → ad k = ad0 k) → c0 ≤ gCl μ.1 → s0 ≤ gSl μ.1 →
    W p l e R s mid args below meth c H locs (gCl μ.1 - c0) (gSl μ.1 - s0) Q (F0 mid pc lsR (st.map (eTo E ad)))
variable {pc : Nat} {ls st : List MV} {μ : MM} {x y : Int}
theorem st_ok {G : MG} {v : MV} {st : List MV} (hv : okV G v) (h : ∀ w ∈ st, okV G w) : ∀ w ∈ v :: st, okV G w := List.forall_mem_cons.mpr ⟨hv, h⟩
theorem st_tl {G : MG} {v : MV} {st : List MV} (h : ∀ w ∈ v :: st, okV G w) : ∀ w ∈ st, okV G w := fun w hw => h w (List.mem_cons_of_mem _ hw)
theorem st_hd {G : MG} {v : MV} {st : List MV} (h : ∀ w ∈ v :: st, okV G w) : okV G v := h v List.mem_cons_self
theorem toV_cat (t : Nat) (x : Int) {ad : Nat → Nat} : (eTo E ad (mR t x)).category = 1 := by
  simp only [eTo, toV]
  split <;> rfl
def isL (o : Option MV) : Bool := match o with
  | some (Sum.inr (Sum.inl _)) => true
  | _ => false
theorem lset_len (ls : List MV) (k : Nat) (v : MV) : (lset ls k v).length = ls.length := by
  unfold lset
  split
  · simp
  · split <;> simp
theorem lset_at {ls : List MV} {k : Nat} {v : MV} (hk : k < ls.length) (j : Nat) : (lset ls k v)[j]? = if j = k then some v else if j + 1 = k ∧ isL ls[j]? = true then some MU else ls[j]? := by
  unfold lset
  split
  · rw [List.getElem?_set]
    by_cases h : j = 0
    · subst h; simp [hk]
    · rw [if_neg (fun q => h q.symm), if_neg h, if_neg (by omega)]
  · rename_i k
    split
    · rename_i x hx
      rw [List.getElem?_set, List.getElem?_set, List.length_set]
      by_cases h : j = k + 1
      · subst h; rw [if_pos rfl, if_pos hk, if_pos rfl]
      · rw [if_neg (fun q => h q.symm), if_neg h]
        by_cases h2 : j = k
        · subst h2; rw [if_pos rfl, if_pos (by omega), if_pos ⟨rfl, by rw [hx]; rfl⟩]
        · rw [if_neg (fun q => h2 q.symm), if_neg (by omega)]
    · rename_i hx
      rw [List.getElem?_set]
      by_cases h : j = k + 1
      · subst h; rw [if_pos rfl, if_pos hk, if_pos rfl]
      · rw [if_neg (fun q => h q.symm), if_neg h]
        by_cases h2 : j = k
        · subst h2
          rw [if_neg]
          intro ⟨_, q⟩
          unfold isL at q
          split at q
          · rename_i x hx2; exact hx x hx2
          · cases q
        · rw [if_neg (by omega)]
def lrF (E : ENV) (ad : Nat → Nat) (ls : List MV) (k : Nat) : Option (Nat × Value) := match ls[k]? with
  | some (Sum.inl x) => some (k, eTo E ad (mI x))
  | some (Sum.inr (Sum.inl x)) => some (k, eTo E ad (mL x))
  | some (Sum.inr (Sum.inr (0, _))) => none
  | some (Sum.inr (Sum.inr (t + 1, x))) => some (k, eTo E ad (mR (t + 1) x))
  | none => none
def lrL (E : ENV) (ad : Nat → Nat) (ls : List MV) : List (Nat × Value) := (List.range ls.length).filterMap (lrF E ad ls)
theorem lrF_of {ad : Nat → Nat} {ls : List MV} {k : Nat} {v : MV} (h : ls[k]? = some v) (hv : ∀ x, v ≠ mR 0 x) : lrF E ad ls k = some (k, eTo E ad v) := by
  unfold lrF
  rw [h]
  match v, hv with
  | Sum.inl x, _ => rfl
  | Sum.inr (Sum.inl x), _ => rfl
  | Sum.inr (Sum.inr (0, x)), hv => exact absurd rfl (hv x)
  | Sum.inr (Sum.inr (t + 1, x)), _ => rfl
theorem lrF_is {ad : Nat → Nat} {ls : List MV} {k : Nat} {q : Nat × Value} (h : lrF E ad ls k = some q) : ∃ v, ls[k]? = some v ∧ (∀ x, v ≠ mR 0 x) ∧ q = (k, eTo E ad v) := by
  unfold lrF at h
  split at h
  · rename_i x hx; cases h; exact ⟨_, hx, (by intro y z; cases z), rfl⟩
  · rename_i x hx; cases h; exact ⟨_, hx, (by intro y z; cases z), rfl⟩
  · cases h
  · rename_i t x hx; cases h; exact ⟨_, hx, (by intro y z; cases z), rfl⟩
  · cases h
theorem lr_ix {ad : Nat → Nat} {ls : List MV} {k : Nat} {v : MV} (h : ls[k]? = some v) (hv : ∀ x, v ≠ mR 0 x) : ∃ i : Nat, (lrL E ad ls)[i]? = some (k, eTo E ad v) := by
  apply List.getElem?_of_mem
  exact List.mem_filterMap.mpr ⟨k, List.mem_range.mpr (List.getElem?_eq_some_iff.mp h).1, lrF_of h hv⟩
theorem lr_has {ad : Nat → Nat} {G : MG} {lsR : Array Slot} {ls : List MV} (hL : LRep E ad G lsR nL ls) : lv_has lsR nL (lrL E ad ls) := by
  refine ⟨hL.1, hL.2.1, fun q hq => ?_⟩
  obtain ⟨k, hk, hf⟩ := List.mem_filterMap.mp hq
  obtain ⟨v, hv, hne, rfl⟩ := lrF_is hf
  rcases hL.2.2.2 k v hv with h | h
  · exact absurd h (hne 0)
  · exact h.2
theorem ok_ne {G : MG} {v : MV} (h : okV G v) : ∀ x, v ≠ mR 0 x := by
  intro x q
  subst q
  exact h
theorem cat_L {ad : Nat → Nat} {v : MV} (h : (eTo E ad v).category = 2) : isL (some v) = true := by
  match v, h with
  | Sum.inl x, h => cases h
  | Sum.inr (Sum.inl x), _ => rfl
  | Sum.inr (Sum.inr (t, x)), h => rw [toV_cat] at h; cases h
theorem lr_set {ad : Nat → Nat} {G : MG} {lsR ls' : Array Slot} {ls : List MV} {k : Nat} {v : MV} (hL : LRep E ad G lsR nL ls) (hk : k < ls.length) (hv : okV G v) (_hc : (eTo E ad v).category = 1)
    (hl' : lv_has ls' nL ((k, eTo E ad v) :: (lrL E ad ls).filter (fun q => !(q.1 == k) && !(q.1 + 1 == k && q.2.category == 2)))) : LRep E ad G ls' nL (lset ls k v) := by
  refine ⟨hl'.1, hl'.2.1, (lset_len ls k v).trans hL.2.2.1, fun j w hw => ?_⟩
  rw [lset_at hk] at hw
  by_cases h1 : j = k
  · rw [if_pos h1] at hw
    cases hw
    exact Or.inr ⟨hv, by rw [h1]; exact hl'.2.2 _ List.mem_cons_self⟩
  · rw [if_neg h1] at hw
    by_cases h2 : j + 1 = k ∧ isL ls[j]? = true
    · rw [if_pos h2] at hw; cases hw; exact Or.inl rfl
    · rw [if_neg h2] at hw
      rcases hL.2.2.2 j w hw with h | h
      · exact Or.inl h
      · refine Or.inr ⟨h.1, hl'.2.2 (j, eTo E ad w) (List.mem_cons_of_mem _ (List.mem_filter.mpr ⟨?_, ?_⟩))⟩
        · exact List.mem_filterMap.mpr ⟨j, List.mem_range.mpr (List.getElem?_eq_some_iff.mp hw).1, lrF_of hw (ok_ne h.1)⟩
        · simp only [Bool.and_eq_true, Bool.not_eq_true', beq_eq_false_iff_ne, Bool.and_eq_false_iff]
          refine ⟨h1, ?_⟩
          by_cases h3 : j + 1 = k
          · right
            intro q
            exact h2 ⟨h3, by rw [hw]; exact cat_L q⟩
          · exact Or.inl h3
theorem lr_set2 {ad : Nat → Nat} {G : MG} {lsR ls' : Array Slot} {ls : List MV} {k : Nat} {v : MV} (hL : LRep E ad G lsR nL ls) (hk : k + 1 < ls.length) (hv : okV G v) (_hc : (eTo E ad v).category = 2)
    (hl' : lv_has ls' nL ((k, eTo E ad v) :: (lrL E ad ls).filter (fun q => !(q.1 == k) && (!(q.1 == k + 1) && !(q.1 + 1 == k && q.2.category == 2))))) : LRep E ad G ls' nL ((lset ls k v).set (k + 1) MU) := by
  refine ⟨hl'.1, hl'.2.1, by rw [List.length_set]; exact (lset_len ls k v).trans hL.2.2.1, fun j w hw => ?_⟩
  rw [List.getElem?_set, lset_at (by omega), lset_len] at hw
  by_cases h0 : k + 1 = j
  · rw [if_pos h0, if_pos hk] at hw; cases hw; exact Or.inl rfl
  rw [if_neg h0] at hw
  by_cases h1 : j = k
  · rw [if_pos h1] at hw
    cases hw
    exact Or.inr ⟨hv, by rw [h1]; exact hl'.2.2 _ List.mem_cons_self⟩
  · rw [if_neg h1] at hw
    by_cases h2 : j + 1 = k ∧ isL ls[j]? = true
    · rw [if_pos h2] at hw; cases hw; exact Or.inl rfl
    · rw [if_neg h2] at hw
      rcases hL.2.2.2 j w hw with h | h
      · exact Or.inl h
      · refine Or.inr ⟨h.1, hl'.2.2 (j, eTo E ad w) (List.mem_cons_of_mem _ (List.mem_filter.mpr ⟨?_, ?_⟩))⟩
        · exact List.mem_filterMap.mpr ⟨j, List.mem_range.mpr (List.getElem?_eq_some_iff.mp hw).1, lrF_of hw (ok_ne h.1)⟩
        · simp only [Bool.and_eq_true, Bool.not_eq_true', beq_eq_false_iff_ne, Bool.and_eq_false_iff]
          refine ⟨h1, fun q => h0 q.symm, ?_⟩
          by_cases h3 : j + 1 = k
          · right
            intro q
            exact h2 ⟨h3, by rw [hw]; exact cat_L q⟩
          · exact Or.inl h3
theorem ws_iconst (F : FX E p R s mid c bytes nL own c0 s0 CM SM) (hd : decode bytes pc = .ok (.iconst x, 1)) (h1 : i32 x) (k : WS E p l e R s mid args below meth c nL c0 s0 top0 ad0 Q (pc + 1) ls (mI x :: st) μ) : WS E p l e R s mid args below meth c nL c0 s0 top0 ad0 Q pc ls st μ := by
  intro H locs lsR ad hS hR hL hok ht hx hc hs
  refine lv_iconst F.1 F.2.1 hd rfl ?_
  exact k H locs lsR ad hS hR hL (st_ok h1 hok) ht hx hc hs
theorem ws_bipush (F : FX E p R s mid c bytes nL own c0 s0 CM SM) (hd : decode bytes pc = .ok (.bipush x, 2)) (h1 : i32 x) (h2 : (Int8.ofInt x).toInt32 = Int32.ofInt x) (k : WS E p l e R s mid args below meth c nL c0 s0 top0 ad0 Q (pc + 2) ls (mI x :: st) μ) : WS E p l e R s mid args below meth c nL c0 s0 top0 ad0 Q pc ls st μ := by
  intro H locs lsR ad hS hR hL hok ht hx hc hs
  refine lv_bipush F.1 F.2.1 hd h2 ?_
  exact k H locs lsR ad hS hR hL (st_ok h1 hok) ht hx hc hs
theorem ws_sipush (F : FX E p R s mid c bytes nL own c0 s0 CM SM) (hd : decode bytes pc = .ok (.sipush x, 3)) (h1 : i32 x) (h2 : (Int16.ofInt x).toInt32 = Int32.ofInt x) (k : WS E p l e R s mid args below meth c nL c0 s0 top0 ad0 Q (pc + 3) ls (mI x :: st) μ) : WS E p l e R s mid args below meth c nL c0 s0 top0 ad0 Q pc ls st μ := by
  intro H locs lsR ad hS hR hL hok ht hx hc hs
  refine lv_sipush F.1 F.2.1 hd h2 ?_
  exact k H locs lsR ad hS hR hL (st_ok h1 hok) ht hx hc hs
theorem ws_lconst (F : FX E p R s mid c bytes nL own c0 s0 CM SM) {n : Fin 2} (hd : decode bytes pc = .ok (.lconst n, 1)) (k : WS E p l e R s mid args below meth c nL c0 s0 top0 ad0 Q (pc + 1) ls (mL (n.val : Nat) :: st) μ) : WS E p l e R s mid args below meth c nL c0 s0 top0 ad0 Q pc ls st μ := by
  intro H locs lsR ad hS hR hL hok ht hx hc hs
  refine lv_lconst F.1 F.2.1 hd (v := Int64.ofInt (n.val : Nat)) (Int64.ofInt_eq_ofNat.symm) ?_
  exact k H locs lsR ad hS hR hL (st_ok (show i64 _ by unfold i64; omega) hok) ht hx hc hs
theorem ws_null (F : FX E p R s mid c bytes nL own c0 s0 CM SM) (hd : decode bytes pc = .ok (.aconst_null, 1)) (k : WS E p l e R s mid args below meth c nL c0 s0 top0 ad0 Q (pc + 1) ls (mR 9 (-1) :: st) μ) : WS E p l e R s mid args below meth c nL c0 s0 top0 ad0 Q pc ls st μ := by
  intro H locs lsR ad hS hR hL hok ht hx hc hs
  refine lv_null F.1 F.2.1 hd ?_
  exact k H locs lsR ad hS hR hL (st_ok (Or.inl (by omega)) hok) ht hx hc hs
theorem ws_iadd (F : FX E p R s mid c bytes nL own c0 s0 CM SM) (hd : decode bytes pc = .ok (.iadd, 1)) (k : WS E p l e R s mid args below meth c nL c0 s0 top0 ad0 Q (pc + 1) ls (mI (w32 (x + y)) :: st) μ) : WS E p l e R s mid args below meth c nL c0 s0 top0 ad0 Q pc ls (mI y :: mI x :: st) μ := by
  intro H locs lsR ad hS hR hL hok ht hx hc hs
  refine lv_iadd F.1 F.2.1 hd ?_
  rw [oI_add]
  exact k H locs lsR ad hS hR hL (st_ok (w32_i _) (st_tl (st_tl hok))) ht hx hc hs
theorem ws_isub (F : FX E p R s mid c bytes nL own c0 s0 CM SM) (hd : decode bytes pc = .ok (.isub, 1)) (k : WS E p l e R s mid args below meth c nL c0 s0 top0 ad0 Q (pc + 1) ls (mI (w32 (x - y)) :: st) μ) : WS E p l e R s mid args below meth c nL c0 s0 top0 ad0 Q pc ls (mI y :: mI x :: st) μ := by
  intro H locs lsR ad hS hR hL hok ht hx hc hs
  refine lv_isub F.1 F.2.1 hd ?_
  rw [oI_sub]
  exact k H locs lsR ad hS hR hL (st_ok (w32_i _) (st_tl (st_tl hok))) ht hx hc hs
theorem ws_imul (F : FX E p R s mid c bytes nL own c0 s0 CM SM) (hd : decode bytes pc = .ok (.imul, 1)) (k : WS E p l e R s mid args below meth c nL c0 s0 top0 ad0 Q (pc + 1) ls (mI (w32 (x * y)) :: st) μ) : WS E p l e R s mid args below meth c nL c0 s0 top0 ad0 Q pc ls (mI y :: mI x :: st) μ := by
  intro H locs lsR ad hS hR hL hok ht hx hc hs
  refine lv_imul F.1 F.2.1 hd ?_
  rw [oI_mul]
  exact k H locs lsR ad hS hR hL (st_ok (w32_i _) (st_tl (st_tl hok))) ht hx hc hs
theorem ws_ladd (F : FX E p R s mid c bytes nL own c0 s0 CM SM) (hd : decode bytes pc = .ok (.ladd, 1)) (k : WS E p l e R s mid args below meth c nL c0 s0 top0 ad0 Q (pc + 1) ls (mL (w64 (x + y)) :: st) μ) : WS E p l e R s mid args below meth c nL c0 s0 top0 ad0 Q pc ls (mL y :: mL x :: st) μ := by
  intro H locs lsR ad hS hR hL hok ht hx hc hs
  refine lv_ladd F.1 F.2.1 hd ?_
  rw [oL_add]
  exact k H locs lsR ad hS hR hL (st_ok (w64_i _) (st_tl (st_tl hok))) ht hx hc hs
theorem ws_lsub (F : FX E p R s mid c bytes nL own c0 s0 CM SM) (hd : decode bytes pc = .ok (.lsub, 1)) (k : WS E p l e R s mid args below meth c nL c0 s0 top0 ad0 Q (pc + 1) ls (mL (w64 (x - y)) :: st) μ) : WS E p l e R s mid args below meth c nL c0 s0 top0 ad0 Q pc ls (mL y :: mL x :: st) μ := by
  intro H locs lsR ad hS hR hL hok ht hx hc hs
  refine lv_lsub F.1 F.2.1 hd ?_
  rw [oL_sub]
  exact k H locs lsR ad hS hR hL (st_ok (w64_i _) (st_tl (st_tl hok))) ht hx hc hs
theorem ws_lmul (F : FX E p R s mid c bytes nL own c0 s0 CM SM) (hd : decode bytes pc = .ok (.lmul, 1)) (k : WS E p l e R s mid args below meth c nL c0 s0 top0 ad0 Q (pc + 1) ls (mL (w64 (x * y)) :: st) μ) : WS E p l e R s mid args below meth c nL c0 s0 top0 ad0 Q pc ls (mL y :: mL x :: st) μ := by
  intro H locs lsR ad hS hR hL hok ht hx hc hs
  refine lv_lmul F.1 F.2.1 hd ?_
  rw [oL_mul]
  exact k H locs lsR ad hS hR hL (st_ok (w64_i _) (st_tl (st_tl hok))) ht hx hc hs
theorem ws_iand (F : FX E p R s mid c bytes nL own c0 s0 CM SM) (hd : decode bytes pc = .ok (.iand, 1)) (k : WS E p l e R s mid args below meth c nL c0 s0 top0 ad0 Q (pc + 1) ls (mI (o_and x y) :: st) μ) : WS E p l e R s mid args below meth c nL c0 s0 top0 ad0 Q pc ls (mI y :: mI x :: st) μ := by
  intro H locs lsR ad hS hR hL hok ht hx hc hs
  refine lv_iand F.1 F.2.1 hd ?_
  rw [← Int32.ofInt_toInt (_ &&& _)]
  exact k H locs lsR ad hS hR hL (st_ok (i32_to _) (st_tl (st_tl hok))) ht hx hc hs
theorem ws_ior (F : FX E p R s mid c bytes nL own c0 s0 CM SM) (hd : decode bytes pc = .ok (.ior, 1)) (k : WS E p l e R s mid args below meth c nL c0 s0 top0 ad0 Q (pc + 1) ls (mI (o_or x y) :: st) μ) : WS E p l e R s mid args below meth c nL c0 s0 top0 ad0 Q pc ls (mI y :: mI x :: st) μ := by
  intro H locs lsR ad hS hR hL hok ht hx hc hs
  refine lv_ior F.1 F.2.1 hd ?_
  rw [← Int32.ofInt_toInt (_ ||| _)]
  exact k H locs lsR ad hS hR hL (st_ok (i32_to _) (st_tl (st_tl hok))) ht hx hc hs
theorem ws_ixor (F : FX E p R s mid c bytes nL own c0 s0 CM SM) (hd : decode bytes pc = .ok (.ixor, 1)) (k : WS E p l e R s mid args below meth c nL c0 s0 top0 ad0 Q (pc + 1) ls (mI (o_xor x y) :: st) μ) : WS E p l e R s mid args below meth c nL c0 s0 top0 ad0 Q pc ls (mI y :: mI x :: st) μ := by
  intro H locs lsR ad hS hR hL hok ht hx hc hs
  refine lv_ixor F.1 F.2.1 hd ?_
  rw [← Int32.ofInt_toInt (_ ^^^ _)]
  exact k H locs lsR ad hS hR hL (st_ok (i32_to _) (st_tl (st_tl hok))) ht hx hc hs
theorem ws_ishl (F : FX E p R s mid c bytes nL own c0 s0 CM SM) (hd : decode bytes pc = .ok (.ishl, 1)) (k : WS E p l e R s mid args below meth c nL c0 s0 top0 ad0 Q (pc + 1) ls (mI (o_shl x y) :: st) μ) : WS E p l e R s mid args below meth c nL c0 s0 top0 ad0 Q pc ls (mI y :: mI x :: st) μ := by
  intro H locs lsR ad hS hR hL hok ht hx hc hs
  refine lv_ishl F.1 F.2.1 hd ?_
  rw [← Int32.ofInt_toInt (_ <<< _)]
  exact k H locs lsR ad hS hR hL (st_ok (i32_to _) (st_tl (st_tl hok))) ht hx hc hs
theorem ws_ishr (F : FX E p R s mid c bytes nL own c0 s0 CM SM) (hd : decode bytes pc = .ok (.ishr, 1)) (k : WS E p l e R s mid args below meth c nL c0 s0 top0 ad0 Q (pc + 1) ls (mI (o_shr x y) :: st) μ) : WS E p l e R s mid args below meth c nL c0 s0 top0 ad0 Q pc ls (mI y :: mI x :: st) μ := by
  intro H locs lsR ad hS hR hL hok ht hx hc hs
  refine lv_ishr F.1 F.2.1 hd ?_
  rw [← Int32.ofInt_toInt (_ >>> _)]
  exact k H locs lsR ad hS hR hL (st_ok (i32_to _) (st_tl (st_tl hok))) ht hx hc hs
theorem ws_iushr (F : FX E p R s mid c bytes nL own c0 s0 CM SM) (hd : decode bytes pc = .ok (.iushr, 1)) (k : WS E p l e R s mid args below meth c nL c0 s0 top0 ad0 Q (pc + 1) ls (mI (o_ushr x y) :: st) μ) : WS E p l e R s mid args below meth c nL c0 s0 top0 ad0 Q pc ls (mI y :: mI x :: st) μ := by
  intro H locs lsR ad hS hR hL hok ht hx hc hs
  refine lv_iushr F.1 F.2.1 hd (Int32.ofInt_toInt _).symm ?_
  exact k H locs lsR ad hS hR hL (st_ok (i32_to _) (st_tl (st_tl hok))) ht hx hc hs
theorem ws_idiv (F : FX E p R s mid c bytes nL own c0 s0 CM SM) (hd : decode bytes pc = .ok (.idiv, 1)) (h0 : y ≠ 0) (k : WS E p l e R s mid args below meth c nL c0 s0 top0 ad0 Q (pc + 1) ls (mI (o_div x y) :: st) μ) : WS E p l e R s mid args below meth c nL c0 s0 top0 ad0 Q pc ls (mI y :: mI x :: st) μ := by
  intro H locs lsR ad hS hR hL hok ht hx hc hs
  refine lv_idiv F.1 F.2.1 hd (fun q => h0 ((oI_inj (st_hd hok) i32_0).mp q)) ?_
  rw [← Int32.ofInt_toInt (_ / _)]
  exact k H locs lsR ad hS hR hL (st_ok (i32_to _) (st_tl (st_tl hok))) ht hx hc hs
theorem ws_irem (F : FX E p R s mid c bytes nL own c0 s0 CM SM) (hd : decode bytes pc = .ok (.irem, 1)) (h0 : y ≠ 0) (k : WS E p l e R s mid args below meth c nL c0 s0 top0 ad0 Q (pc + 1) ls (mI (o_rem x y) :: st) μ) : WS E p l e R s mid args below meth c nL c0 s0 top0 ad0 Q pc ls (mI y :: mI x :: st) μ := by
  intro H locs lsR ad hS hR hL hok ht hx hc hs
  refine lv_irem F.1 F.2.1 hd (fun q => h0 ((oI_inj (st_hd hok) i32_0).mp q)) ?_
  rw [← Int32.ofInt_toInt (_ - _)]
  exact k H locs lsR ad hS hR hL (st_ok (i32_to _) (st_tl (st_tl hok))) ht hx hc hs
theorem ws_ldiv (F : FX E p R s mid c bytes nL own c0 s0 CM SM) (hd : decode bytes pc = .ok (.ldiv, 1)) (h0 : y ≠ 0) (k : WS E p l e R s mid args below meth c nL c0 s0 top0 ad0 Q (pc + 1) ls (mL (o_ldiv x y) :: st) μ) : WS E p l e R s mid args below meth c nL c0 s0 top0 ad0 Q pc ls (mL y :: mL x :: st) μ := by
  intro H locs lsR ad hS hR hL hok ht hx hc hs
  refine lv_ldiv F.1 F.2.1 hd (fun q => h0 ((oL_inj (st_hd hok) i64_0).mp q)) ?_
  rw [← Int64.ofInt_toInt (_ / _)]
  exact k H locs lsR ad hS hR hL (st_ok (i64_to _) (st_tl (st_tl hok))) ht hx hc hs
theorem ws_lrem (F : FX E p R s mid c bytes nL own c0 s0 CM SM) (hd : decode bytes pc = .ok (.lrem, 1)) (h0 : y ≠ 0) (k : WS E p l e R s mid args below meth c nL c0 s0 top0 ad0 Q (pc + 1) ls (mL (o_lrem x y) :: st) μ) : WS E p l e R s mid args below meth c nL c0 s0 top0 ad0 Q pc ls (mL y :: mL x :: st) μ := by
  intro H locs lsR ad hS hR hL hok ht hx hc hs
  refine lv_lrem F.1 F.2.1 hd (fun q => h0 ((oL_inj (st_hd hok) i64_0).mp q)) ?_
  rw [← Int64.ofInt_toInt (_ - _)]
  exact k H locs lsR ad hS hR hL (st_ok (i64_to _) (st_tl (st_tl hok))) ht hx hc hs
theorem ws_land (F : FX E p R s mid c bytes nL own c0 s0 CM SM) (hd : decode bytes pc = .ok (.land, 1)) (k : WS E p l e R s mid args below meth c nL c0 s0 top0 ad0 Q (pc + 1) ls (mL (o_land x y) :: st) μ) : WS E p l e R s mid args below meth c nL c0 s0 top0 ad0 Q pc ls (mL y :: mL x :: st) μ := by
  intro H locs lsR ad hS hR hL hok ht hx hc hs
  refine lv_land F.1 F.2.1 hd ?_
  rw [← Int64.ofInt_toInt (_ &&& _)]
  exact k H locs lsR ad hS hR hL (st_ok (i64_to _) (st_tl (st_tl hok))) ht hx hc hs
theorem ws_lor (F : FX E p R s mid c bytes nL own c0 s0 CM SM) (hd : decode bytes pc = .ok (.lor, 1)) (k : WS E p l e R s mid args below meth c nL c0 s0 top0 ad0 Q (pc + 1) ls (mL (o_lor x y) :: st) μ) : WS E p l e R s mid args below meth c nL c0 s0 top0 ad0 Q pc ls (mL y :: mL x :: st) μ := by
  intro H locs lsR ad hS hR hL hok ht hx hc hs
  refine lv_lor F.1 F.2.1 hd ?_
  rw [← Int64.ofInt_toInt (_ ||| _)]
  exact k H locs lsR ad hS hR hL (st_ok (i64_to _) (st_tl (st_tl hok))) ht hx hc hs
theorem ws_lshl (F : FX E p R s mid c bytes nL own c0 s0 CM SM) (hd : decode bytes pc = .ok (.lshl, 1)) (k : WS E p l e R s mid args below meth c nL c0 s0 top0 ad0 Q (pc + 1) ls (mL (o_lshl x y) :: st) μ) : WS E p l e R s mid args below meth c nL c0 s0 top0 ad0 Q pc ls (mI y :: mL x :: st) μ := by
  intro H locs lsR ad hS hR hL hok ht hx hc hs
  refine lv_lshl F.1 F.2.1 hd (Int64.ofInt_toInt _).symm ?_
  exact k H locs lsR ad hS hR hL (st_ok (i64_to _) (st_tl (st_tl hok))) ht hx hc hs
theorem ws_lshr (F : FX E p R s mid c bytes nL own c0 s0 CM SM) (hd : decode bytes pc = .ok (.lshr, 1)) (k : WS E p l e R s mid args below meth c nL c0 s0 top0 ad0 Q (pc + 1) ls (mL (o_lshr x y) :: st) μ) : WS E p l e R s mid args below meth c nL c0 s0 top0 ad0 Q pc ls (mI y :: mL x :: st) μ := by
  intro H locs lsR ad hS hR hL hok ht hx hc hs
  refine lv_lshr F.1 F.2.1 hd (Int64.ofInt_toInt _).symm ?_
  exact k H locs lsR ad hS hR hL (st_ok (i64_to _) (st_tl (st_tl hok))) ht hx hc hs
theorem ws_lcmp (F : FX E p R s mid c bytes nL own c0 s0 CM SM) (hd : decode bytes pc = .ok (.lcmp, 1)) (k : WS E p l e R s mid args below meth c nL c0 s0 top0 ad0 Q (pc + 1) ls (mI (o_lcmp x y) :: st) μ) : WS E p l e R s mid args below meth c nL c0 s0 top0 ad0 Q pc ls (mL y :: mL x :: st) μ := by
  intro H locs lsR ad hS hR hL hok ht hx hc hs
  refine W.lcmp F.1 F.2.1 hd ?_
  rw [oL_cmp (st_hd (st_tl hok)) (st_hd hok)]
  exact k H locs lsR ad hS hR hL (st_ok (ior_lcmp _ _) (st_tl (st_tl hok))) ht hx hc hs
theorem ws_ineg (F : FX E p R s mid c bytes nL own c0 s0 CM SM) (hd : decode bytes pc = .ok (.ineg, 1)) (k : WS E p l e R s mid args below meth c nL c0 s0 top0 ad0 Q (pc + 1) ls (mI (w32 (0 - x)) :: st) μ) : WS E p l e R s mid args below meth c nL c0 s0 top0 ad0 Q pc ls (mI x :: st) μ := by
  intro H locs lsR ad hS hR hL hok ht hx hc hs
  refine lv_ineg F.1 F.2.1 hd ?_
  rw [show -Int32.ofInt x = Int32.ofInt (w32 (0 - x)) by rw [oI_w, Int.zero_sub, Int32.ofInt_neg]]
  exact k H locs lsR ad hS hR hL (st_ok (w32_i _) (st_tl hok)) ht hx hc hs
theorem ws_i2l (F : FX E p R s mid c bytes nL own c0 s0 CM SM) (hd : decode bytes pc = .ok (.i2l, 1)) (k : WS E p l e R s mid args below meth c nL c0 s0 top0 ad0 Q (pc + 1) ls (mL x :: st) μ) : WS E p l e R s mid args below meth c nL c0 s0 top0 ad0 Q pc ls (mI x :: st) μ := by
  intro H locs lsR ad hS hR hL hok ht hx hc hs
  refine lv_i2l F.1 F.2.1 hd (oI_l (st_hd hok)) ?_
  exact k H locs lsR ad hS hR hL (st_ok (show i64 x by have := st_hd hok; unfold okV i32 at this; unfold i64; omega) (st_tl hok)) ht hx hc hs
theorem ws_l2i (F : FX E p R s mid c bytes nL own c0 s0 CM SM) (hd : decode bytes pc = .ok (.l2i, 1)) (k : WS E p l e R s mid args below meth c nL c0 s0 top0 ad0 Q (pc + 1) ls (mI (w32 x) :: st) μ) : WS E p l e R s mid args below meth c nL c0 s0 top0 ad0 Q pc ls (mL x :: st) μ := by
  intro H locs lsR ad hS hR hL hok ht hx hc hs
  refine lv_l2i F.1 F.2.1 hd (oL_i x) ?_
  exact k H locs lsR ad hS hR hL (st_ok (w32_i _) (st_tl hok)) ht hx hc hs
theorem ws_i2b (F : FX E p R s mid c bytes nL own c0 s0 CM SM) (hd : decode bytes pc = .ok (.i2b, 1)) (k : WS E p l e R s mid args below meth c nL c0 s0 top0 ad0 Q (pc + 1) ls (mI (o_i2b x) :: st) μ) : WS E p l e R s mid args below meth c nL c0 s0 top0 ad0 Q pc ls (mI x :: st) μ := by
  intro H locs lsR ad hS hR hL hok ht hx hc hs
  refine lv_i2b F.1 F.2.1 hd (oI_b x) ?_
  exact k H locs lsR ad hS hR hL (st_ok (show i32 _ by have := i2b_r x; unfold i32; omega) (st_tl hok)) ht hx hc hs
theorem ws_dupI (F : FX E p R s mid c bytes nL own c0 s0 CM SM) (hd : decode bytes pc = .ok (.dup, 1)) (k : WS E p l e R s mid args below meth c nL c0 s0 top0 ad0 Q (pc + 1) ls (mI x :: mI x :: st) μ) : WS E p l e R s mid args below meth c nL c0 s0 top0 ad0 Q pc ls (mI x :: st) μ := by
  intro H locs lsR ad hS hR hL hok ht hx hc hs
  refine lv_dup F.1 F.2.1 hd rfl ?_
  exact k H locs lsR ad hS hR hL (st_ok (st_hd hok) hok) ht hx hc hs
theorem ws_dupR (F : FX E p R s mid c bytes nL own c0 s0 CM SM) {t : Nat} (hd : decode bytes pc = .ok (.dup, 1)) (k : WS E p l e R s mid args below meth c nL c0 s0 top0 ad0 Q (pc + 1) ls (mR t x :: mR t x :: st) μ) : WS E p l e R s mid args below meth c nL c0 s0 top0 ad0 Q pc ls (mR t x :: st) μ := by
  intro H locs lsR ad hS hR hL hok ht hx hc hs
  refine lv_dup F.1 F.2.1 hd (toV_cat t x) ?_
  exact k H locs lsR ad hS hR hL (st_ok (st_hd hok) hok) ht hx hc hs
theorem ws_popI (F : FX E p R s mid c bytes nL own c0 s0 CM SM) (hd : decode bytes pc = .ok (.pop, 1)) (k : WS E p l e R s mid args below meth c nL c0 s0 top0 ad0 Q (pc + 1) ls st μ) : WS E p l e R s mid args below meth c nL c0 s0 top0 ad0 Q pc ls (mI x :: st) μ := by
  intro H locs lsR ad hS hR hL hok ht hx hc hs
  refine lv_pop F.1 F.2.1 hd rfl ?_
  exact k H locs lsR ad hS hR hL (st_tl hok) ht hx hc hs
theorem ws_popR (F : FX E p R s mid c bytes nL own c0 s0 CM SM) {t : Nat} (hd : decode bytes pc = .ok (.pop, 1)) (k : WS E p l e R s mid args below meth c nL c0 s0 top0 ad0 Q (pc + 1) ls st μ) : WS E p l e R s mid args below meth c nL c0 s0 top0 ad0 Q pc ls (mR t x :: st) μ := by
  intro H locs lsR ad hS hR hL hok ht hx hc hs
  refine lv_pop F.1 F.2.1 hd (toV_cat t x) ?_
  exact k H locs lsR ad hS hR hL (st_tl hok) ht hx hc hs
theorem ws_dup2a (F : FX E p R s mid c bytes nL own c0 s0 CM SM) {t : Nat} (hd : decode bytes pc = .ok (.dup2, 1)) (k : WS E p l e R s mid args below meth c nL c0 s0 top0 ad0 Q (pc + 1) ls (mI y :: mR t x :: mI y :: mR t x :: st) μ) : WS E p l e R s mid args below meth c nL c0 s0 top0 ad0 Q pc ls (mI y :: mR t x :: st) μ := by
  intro H locs lsR ad hS hR hL hok ht hx hc hs
  refine lv_dup2_11 F.1 F.2.1 hd rfl (toV_cat t x) ?_
  exact k H locs lsR ad hS hR hL (st_ok (st_hd hok) (st_ok (st_hd (st_tl hok)) hok)) ht hx hc hs
theorem ws_dup2b (F : FX E p R s mid c bytes nL own c0 s0 CM SM) (hd : decode bytes pc = .ok (.dup2, 1)) (k : WS E p l e R s mid args below meth c nL c0 s0 top0 ad0 Q (pc + 1) ls (mL x :: mL x :: st) μ) : WS E p l e R s mid args below meth c nL c0 s0 top0 ad0 Q pc ls (mL x :: st) μ := by
  intro H locs lsR ad hS hR hL hok ht hx hc hs
  refine lv_dup2_2 F.1 F.2.1 hd rfl ?_
  exact k H locs lsR ad hS hR hL (st_ok (st_hd hok) hok) ht hx hc hs
theorem ws_iload (F : FX E p R s mid c bytes nL own c0 s0 CM SM) {q : Nat} (hd : decode bytes pc = .ok (.iload q, 2)) (hl : ls[q]? = some (mI x)) (k : WS E p l e R s mid args below meth c nL c0 s0 top0 ad0 Q (pc + 2) ls (mI x :: st) μ) : WS E p l e R s mid args below meth c nL c0 s0 top0 ad0 Q pc ls st μ := by
  intro H locs lsR ad hS hR hL hok ht hx hc hs
  obtain ⟨o1, o2⟩ := (hL.2.2.2 _ _ hl).resolve_left (by intro z; cases z)
  refine lv_iload F.1 F.2.1 hd o2 ?_
  exact k H locs lsR ad hS hR hL (st_ok o1 hok) ht hx hc hs
theorem ws_iload_n (F : FX E p R s mid c bytes nL own c0 s0 CM SM) {q : Fin 4} (hd : decode bytes pc = .ok (.iload_n q, 1)) (hl : ls[q.val]? = some (mI x)) (k : WS E p l e R s mid args below meth c nL c0 s0 top0 ad0 Q (pc + 1) ls (mI x :: st) μ) : WS E p l e R s mid args below meth c nL c0 s0 top0 ad0 Q pc ls st μ := by
  intro H locs lsR ad hS hR hL hok ht hx hc hs
  obtain ⟨o1, o2⟩ := (hL.2.2.2 _ _ hl).resolve_left (by intro z; cases z)
  refine lv_iload_n F.1 F.2.1 hd rfl o2 ?_
  exact k H locs lsR ad hS hR hL (st_ok o1 hok) ht hx hc hs
theorem ws_lload (F : FX E p R s mid c bytes nL own c0 s0 CM SM) {q : Nat} (hd : decode bytes pc = .ok (.lload q, 2)) (hl : ls[q]? = some (mL x)) (k : WS E p l e R s mid args below meth c nL c0 s0 top0 ad0 Q (pc + 2) ls (mL x :: st) μ) : WS E p l e R s mid args below meth c nL c0 s0 top0 ad0 Q pc ls st μ := by
  intro H locs lsR ad hS hR hL hok ht hx hc hs
  obtain ⟨o1, o2⟩ := (hL.2.2.2 _ _ hl).resolve_left (by intro z; cases z)
  refine lv_lload F.1 F.2.1 hd o2 ?_
  exact k H locs lsR ad hS hR hL (st_ok o1 hok) ht hx hc hs
theorem ws_lload_n (F : FX E p R s mid c bytes nL own c0 s0 CM SM) {q : Fin 4} (hd : decode bytes pc = .ok (.lload_n q, 1)) (hl : ls[q.val]? = some (mL x)) (k : WS E p l e R s mid args below meth c nL c0 s0 top0 ad0 Q (pc + 1) ls (mL x :: st) μ) : WS E p l e R s mid args below meth c nL c0 s0 top0 ad0 Q pc ls st μ := by
  intro H locs lsR ad hS hR hL hok ht hx hc hs
  obtain ⟨o1, o2⟩ := (hL.2.2.2 _ _ hl).resolve_left (by intro z; cases z)
  refine lv_lload_n F.1 F.2.1 hd rfl o2 ?_
  exact k H locs lsR ad hS hR hL (st_ok o1 hok) ht hx hc hs
theorem ws_aload (F : FX E p R s mid c bytes nL own c0 s0 CM SM) {q : Nat} {t : Nat} (ht0 : t ≠ 0) (hd : decode bytes pc = .ok (.aload q, 2)) (hl : ls[q]? = some (mR t x)) (k : WS E p l e R s mid args below meth c nL c0 s0 top0 ad0 Q (pc + 2) ls (mR t x :: st) μ) : WS E p l e R s mid args below meth c nL c0 s0 top0 ad0 Q pc ls st μ := by
  intro H locs lsR ad hS hR hL hok ht hx hc hs
  obtain ⟨o1, o2⟩ := (hL.2.2.2 _ _ hl).resolve_left (by intro z; cases z; exact ht0 rfl)
  have kk := k H locs lsR ad hS hR hL (st_ok o1 hok) ht hx hc hs
  by_cases hn : x < 0
  · have e1 : eTo E ad (mR t x) = .null := by simp [eTo, toV, hn]
    rw [List.map_cons, e1] at kk
    rw [e1] at o2
    exact lv_aloadN F.1 F.2.1 hd o2 kk
  · obtain ⟨q2, e1⟩ : ∃ q2, eTo E ad (mR t x) = .ref q2 := by simp [eTo, toV, hn]
    rw [List.map_cons, e1] at kk
    rw [e1] at o2
    exact lv_aload F.1 F.2.1 hd o2 kk
theorem ws_aload_n (F : FX E p R s mid c bytes nL own c0 s0 CM SM) {q : Fin 4} {t : Nat} (ht0 : t ≠ 0) (hd : decode bytes pc = .ok (.aload_n q, 1)) (hl : ls[q.val]? = some (mR t x)) (k : WS E p l e R s mid args below meth c nL c0 s0 top0 ad0 Q (pc + 1) ls (mR t x :: st) μ) : WS E p l e R s mid args below meth c nL c0 s0 top0 ad0 Q pc ls st μ := by
  intro H locs lsR ad hS hR hL hok ht hx hc hs
  obtain ⟨o1, o2⟩ := (hL.2.2.2 _ _ hl).resolve_left (by intro z; cases z; exact ht0 rfl)
  have kk := k H locs lsR ad hS hR hL (st_ok o1 hok) ht hx hc hs
  by_cases hn : x < 0
  · have e1 : eTo E ad (mR t x) = .null := by simp [eTo, toV, hn]
    rw [List.map_cons, e1] at kk
    rw [e1] at o2
    exact lv_aload_nN F.1 F.2.1 hd rfl o2 kk
  · obtain ⟨q2, e1⟩ : ∃ q2, eTo E ad (mR t x) = .ref q2 := by simp [eTo, toV, hn]
    rw [List.map_cons, e1] at kk
    rw [e1] at o2
    exact lv_aload_n F.1 F.2.1 hd rfl o2 kk
theorem ws_istore (F : FX E p R s mid c bytes nL own c0 s0 CM SM) {q : Nat} (hd : decode bytes pc = .ok (.istore q, 2)) (hq : q < ls.length) (k : WS E p l e R s mid args below meth c nL c0 s0 top0 ad0 Q (pc + 2) (lset ls q (mI x)) st μ) : WS E p l e R s mid args below meth c nL c0 s0 top0 ad0 Q pc ls (mI x :: st) μ := by
  intro H locs lsR ad hS hR hL hok ht hx hc hs
  refine lv_istore F.1 F.2.1 hd (lr_has hL) (by rw [← hL.2.2.1]; exact hq) rfl (fun ls' hl' => ?_)
  exact k H locs ls' ad hS hR (lr_set hL hq (v := mI x) (st_hd hok) rfl hl') (st_tl hok) ht hx hc hs
theorem ws_istore_n (F : FX E p R s mid c bytes nL own c0 s0 CM SM) {q : Fin 4} (hd : decode bytes pc = .ok (.istore_n q, 1)) (hq : q.val < ls.length) (k : WS E p l e R s mid args below meth c nL c0 s0 top0 ad0 Q (pc + 1) (lset ls q.val (mI x)) st μ) : WS E p l e R s mid args below meth c nL c0 s0 top0 ad0 Q pc ls (mI x :: st) μ := by
  intro H locs lsR ad hS hR hL hok ht hx hc hs
  refine lv_istore_n F.1 F.2.1 hd rfl (lr_has hL) (by rw [← hL.2.2.1]; exact hq) rfl (fun ls' hl' => ?_)
  exact k H locs ls' ad hS hR (lr_set hL hq (v := mI x) (st_hd hok) rfl hl') (st_tl hok) ht hx hc hs
theorem ws_lstore (F : FX E p R s mid c bytes nL own c0 s0 CM SM) {q : Nat} (hd : decode bytes pc = .ok (.lstore q, 2)) (hq : q + 1 < ls.length) (k : WS E p l e R s mid args below meth c nL c0 s0 top0 ad0 Q (pc + 2) ((lset ls q (mL x)).set (q + 1) MU) st μ) : WS E p l e R s mid args below meth c nL c0 s0 top0 ad0 Q pc ls (mL x :: st) μ := by
  intro H locs lsR ad hS hR hL hok ht hx hc hs
  refine lv_lstore F.1 F.2.1 hd (lr_has hL) (by rw [← hL.2.2.1]; exact hq) rfl (fun ls' hl' => ?_)
  exact k H locs ls' ad hS hR (lr_set2 hL hq (v := mL x) (st_hd hok) rfl hl') (st_tl hok) ht hx hc hs
theorem ws_lstore_n (F : FX E p R s mid c bytes nL own c0 s0 CM SM) {q : Fin 4} (hd : decode bytes pc = .ok (.lstore_n q, 1)) (hq : q.val + 1 < ls.length) (k : WS E p l e R s mid args below meth c nL c0 s0 top0 ad0 Q (pc + 1) ((lset ls q.val (mL x)).set (q.val + 1) MU) st μ) : WS E p l e R s mid args below meth c nL c0 s0 top0 ad0 Q pc ls (mL x :: st) μ := by
  intro H locs lsR ad hS hR hL hok ht hx hc hs
  refine lv_lstore_n F.1 F.2.1 hd rfl (lr_has hL) (by rw [← hL.2.2.1]; exact hq) rfl (fun ls' hl' => ?_)
  exact k H locs ls' ad hS hR (lr_set2 hL hq (v := mL x) (st_hd hok) rfl hl') (st_tl hok) ht hx hc hs
theorem ws_astore (F : FX E p R s mid c bytes nL own c0 s0 CM SM) {q : Nat} {t : Nat} (hd : decode bytes pc = .ok (.astore q, 2)) (hq : q < ls.length) (k : WS E p l e R s mid args below meth c nL c0 s0 top0 ad0 Q (pc + 2) (lset ls q (mR t x)) st μ) : WS E p l e R s mid args below meth c nL c0 s0 top0 ad0 Q pc ls (mR t x :: st) μ := by
  intro H locs lsR ad hS hR hL hok ht hx hc hs
  rw [List.map_cons]
  have o1 := st_hd hok
  have key : ∀ w, eTo E ad (mR t x) = w → w.category = 1 → ∀ ls', lv_has ls' nL ((q, w) :: (lrL E ad ls).filter (fun q2 => !(q2.1 == q) && !(q2.1 + 1 == q && q2.2.category == 2))) → W p l e R s mid args below meth c H locs (gCl μ.1 - c0) (gSl μ.1 - s0) Q (F0 mid (pc + 2) ls' (st.map (eTo E ad))) := fun w hw hc1 ls' hl' =>
    k H locs ls' ad hS hR (lr_set hL hq (v := mR t x) o1 (by rw [hw]; exact hc1) (by rw [hw]; exact hl')) (st_tl hok) ht hx hc hs
  by_cases hn : x < 0
  · have e1 : eTo E ad (mR t x) = .null := by simp [eTo, toV, hn]
    rw [e1]
    exact lv_astoreN F.1 F.2.1 hd (lr_has hL) (by rw [← hL.2.2.1]; exact hq) rfl (fun ls' hl' => key _ e1 rfl ls' hl')
  · obtain ⟨q2, e1⟩ : ∃ q2, eTo E ad (mR t x) = .ref q2 := by simp [eTo, toV, hn]
    rw [e1]
    exact lv_astore F.1 F.2.1 hd (lr_has hL) (by rw [← hL.2.2.1]; exact hq) rfl (fun ls' hl' => key _ e1 rfl ls' hl')
theorem ws_astore_n (F : FX E p R s mid c bytes nL own c0 s0 CM SM) {q : Fin 4} {t : Nat} (hd : decode bytes pc = .ok (.astore_n q, 1)) (hq : q.val < ls.length) (k : WS E p l e R s mid args below meth c nL c0 s0 top0 ad0 Q (pc + 1) (lset ls q.val (mR t x)) st μ) : WS E p l e R s mid args below meth c nL c0 s0 top0 ad0 Q pc ls (mR t x :: st) μ := by
  intro H locs lsR ad hS hR hL hok ht hx hc hs
  rw [List.map_cons]
  have o1 := st_hd hok
  have key : ∀ w, eTo E ad (mR t x) = w → w.category = 1 → ∀ ls', lv_has ls' nL ((q.val, w) :: (lrL E ad ls).filter (fun q2 => !(q2.1 == q.val) && !(q2.1 + 1 == q.val && q2.2.category == 2))) → W p l e R s mid args below meth c H locs (gCl μ.1 - c0) (gSl μ.1 - s0) Q (F0 mid (pc + 1) ls' (st.map (eTo E ad))) := fun w hw hc1 ls' hl' =>
    k H locs ls' ad hS hR (lr_set hL hq (v := mR t x) o1 (by rw [hw]; exact hc1) (by rw [hw]; exact hl')) (st_tl hok) ht hx hc hs
  by_cases hn : x < 0
  · have e1 : eTo E ad (mR t x) = .null := by simp [eTo, toV, hn]
    rw [e1]
    exact lv_astore_nN F.1 F.2.1 hd rfl (lr_has hL) (by rw [← hL.2.2.1]; exact hq) rfl (fun ls' hl' => key _ e1 rfl ls' hl')
  · obtain ⟨q2, e1⟩ : ∃ q2, eTo E ad (mR t x) = .ref q2 := by simp [eTo, toV, hn]
    rw [e1]
    exact lv_astore_n F.1 F.2.1 hd rfl (lr_has hL) (by rw [← hL.2.2.1]; exact hq) rfl (fun ls' hl' => key _ e1 rfl ls' hl')
theorem ws_iinc (F : FX E p R s mid c bytes nL own c0 s0 CM SM) {q : Nat} {n : Int} (hd : decode bytes pc = .ok (.iinc q n, 3)) (hl : ls[q]? = some (mI x)) (k : WS E p l e R s mid args below meth c nL c0 s0 top0 ad0 Q (pc + 3) (lset ls q (mI (w32 (x + n)))) st μ) : WS E p l e R s mid args below meth c nL c0 s0 top0 ad0 Q pc ls st μ := by
  intro H locs lsR ad hS hR hL hok ht hx hc hs
  obtain ⟨o1, o2⟩ := (hL.2.2.2 _ _ hl).resolve_left (by intro z; cases z)
  have hq : q < ls.length := (List.getElem?_eq_some_iff.mp hl).1
  obtain ⟨k9, hk9⟩ := lr_ix (E := E) (ad := ad) hl (by intro y z; cases z)
  refine lv_iinc F.1 F.2.1 hd (lr_has hL) (k := k9) hk9 (oI_add x n) (by rw [← hL.2.2.1]; exact hq) rfl (fun ls' hl' => ?_)
  exact k H locs ls' ad hS hR (lr_set hL hq (v := mI (w32 (x + n))) (w32_i _) rfl hl') hok ht hx hc hs
theorem ws_goto (F : FX E p R s mid c bytes nL own c0 s0 CM SM) {f : Int} {t : Nat} (hd : decode bytes pc = .ok (.goto f, 3)) (ht9 : (pc : Int) + f = t) (k : WS E p l e R s mid args below meth c nL c0 s0 top0 ad0 Q t ls st μ) : WS E p l e R s mid args below meth c nL c0 s0 top0 ad0 Q pc ls st μ := by
  intro H locs lsR ad hS hR hL hok ht hx hc hs
  exact lv_goto F.1 F.2.1 hd ht9 (k H locs lsR ad hS hR hL hok ht hx hc hs)
theorem ws_icmp_eq (F : FX E p R s mid c bytes nL own c0 s0 CM SM) {f : Int} {t : Nat} (hd : decode bytes pc = .ok (.if_icmp .eq f, 3)) (ht9 : (pc : Int) + f = t) (kt : x = y → WS E p l e R s mid args below meth c nL c0 s0 top0 ad0 Q t ls st μ) (kf : ¬ (x = y) → WS E p l e R s mid args below meth c nL c0 s0 top0 ad0 Q (pc + 3) ls st μ) : WS E p l e R s mid args below meth c nL c0 s0 top0 ad0 Q pc ls (mI y :: mI x :: st) μ := by
  intro H locs lsR ad hS hR hL hok ht hx hc hs
  have hy1 := st_hd hok
  have hx1 := st_hd (st_tl hok)
  refine lv_icmp_eq F.1 F.2.1 hd ht9 (fun q => ?_) (fun q => ?_)
  · exact kt ((oI_inj hx1 hy1).mp q) H locs lsR ad hS hR hL (st_tl (st_tl hok)) ht hx hc hs
  · exact kf (fun z => q ((oI_inj hx1 hy1).mpr z)) H locs lsR ad hS hR hL (st_tl (st_tl hok)) ht hx hc hs
theorem ws_if_eq (F : FX E p R s mid c bytes nL own c0 s0 CM SM) {f : Int} {t : Nat} (hd : decode bytes pc = .ok (.ifCond .eq f, 3)) (ht9 : (pc : Int) + f = t) (kt : x = 0 → WS E p l e R s mid args below meth c nL c0 s0 top0 ad0 Q t ls st μ) (kf : ¬ (x = 0) → WS E p l e R s mid args below meth c nL c0 s0 top0 ad0 Q (pc + 3) ls st μ) : WS E p l e R s mid args below meth c nL c0 s0 top0 ad0 Q pc ls (mI x :: st) μ := by
  intro H locs lsR ad hS hR hL hok ht hx hc hs
  have hx1 := st_hd hok
  refine lv_if_eq F.1 F.2.1 hd ht9 (fun q => ?_) (fun q => ?_)
  · exact kt ((oI_inj hx1 i32_0).mp q) H locs lsR ad hS hR hL (st_tl hok) ht hx hc hs
  · exact kf (fun z => q ((oI_inj hx1 i32_0).mpr z)) H locs lsR ad hS hR hL (st_tl hok) ht hx hc hs
theorem ws_icmp_ne (F : FX E p R s mid c bytes nL own c0 s0 CM SM) {f : Int} {t : Nat} (hd : decode bytes pc = .ok (.if_icmp .ne f, 3)) (ht9 : (pc : Int) + f = t) (kt : ¬ x = y → WS E p l e R s mid args below meth c nL c0 s0 top0 ad0 Q t ls st μ) (kf : ¬ (¬ x = y) → WS E p l e R s mid args below meth c nL c0 s0 top0 ad0 Q (pc + 3) ls st μ) : WS E p l e R s mid args below meth c nL c0 s0 top0 ad0 Q pc ls (mI y :: mI x :: st) μ := by
  intro H locs lsR ad hS hR hL hok ht hx hc hs
  have hy1 := st_hd hok
  have hx1 := st_hd (st_tl hok)
  refine lv_icmp_ne F.1 F.2.1 hd ht9 (fun q => ?_) (fun q => ?_)
  · exact kt ((not_congr (oI_inj hx1 hy1)).mp q) H locs lsR ad hS hR hL (st_tl (st_tl hok)) ht hx hc hs
  · exact kf (fun z => z ((oI_inj hx1 hy1).mp q)) H locs lsR ad hS hR hL (st_tl (st_tl hok)) ht hx hc hs
theorem ws_if_ne (F : FX E p R s mid c bytes nL own c0 s0 CM SM) {f : Int} {t : Nat} (hd : decode bytes pc = .ok (.ifCond .ne f, 3)) (ht9 : (pc : Int) + f = t) (kt : ¬ x = 0 → WS E p l e R s mid args below meth c nL c0 s0 top0 ad0 Q t ls st μ) (kf : ¬ (¬ x = 0) → WS E p l e R s mid args below meth c nL c0 s0 top0 ad0 Q (pc + 3) ls st μ) : WS E p l e R s mid args below meth c nL c0 s0 top0 ad0 Q pc ls (mI x :: st) μ := by
  intro H locs lsR ad hS hR hL hok ht hx hc hs
  have hx1 := st_hd hok
  refine lv_if_ne F.1 F.2.1 hd ht9 (fun q => ?_) (fun q => ?_)
  · exact kt ((not_congr (oI_inj hx1 i32_0)).mp q) H locs lsR ad hS hR hL (st_tl hok) ht hx hc hs
  · exact kf (fun z => z ((oI_inj hx1 i32_0).mp q)) H locs lsR ad hS hR hL (st_tl hok) ht hx hc hs
theorem ws_icmp_lt (F : FX E p R s mid c bytes nL own c0 s0 CM SM) {f : Int} {t : Nat} (hd : decode bytes pc = .ok (.if_icmp .lt f, 3)) (ht9 : (pc : Int) + f = t) (kt : x < y → WS E p l e R s mid args below meth c nL c0 s0 top0 ad0 Q t ls st μ) (kf : ¬ (x < y) → WS E p l e R s mid args below meth c nL c0 s0 top0 ad0 Q (pc + 3) ls st μ) : WS E p l e R s mid args below meth c nL c0 s0 top0 ad0 Q pc ls (mI y :: mI x :: st) μ := by
  intro H locs lsR ad hS hR hL hok ht hx hc hs
  have hy1 := st_hd hok
  have hx1 := st_hd (st_tl hok)
  refine lv_icmp_lt F.1 F.2.1 hd ht9 (fun q => ?_) (fun q => ?_)
  · exact kt ((oI_lt hx1 hy1).mp q) H locs lsR ad hS hR hL (st_tl (st_tl hok)) ht hx hc hs
  · exact kf (fun z => q ((oI_lt hx1 hy1).mpr z)) H locs lsR ad hS hR hL (st_tl (st_tl hok)) ht hx hc hs
theorem ws_if_lt (F : FX E p R s mid c bytes nL own c0 s0 CM SM) {f : Int} {t : Nat} (hd : decode bytes pc = .ok (.ifCond .lt f, 3)) (ht9 : (pc : Int) + f = t) (kt : x < 0 → WS E p l e R s mid args below meth c nL c0 s0 top0 ad0 Q t ls st μ) (kf : ¬ (x < 0) → WS E p l e R s mid args below meth c nL c0 s0 top0 ad0 Q (pc + 3) ls st μ) : WS E p l e R s mid args below meth c nL c0 s0 top0 ad0 Q pc ls (mI x :: st) μ := by
  intro H locs lsR ad hS hR hL hok ht hx hc hs
  have hx1 := st_hd hok
  refine lv_if_lt F.1 F.2.1 hd ht9 (fun q => ?_) (fun q => ?_)
  · exact kt ((oI_lt hx1 i32_0).mp q) H locs lsR ad hS hR hL (st_tl hok) ht hx hc hs
  · exact kf (fun z => q ((oI_lt hx1 i32_0).mpr z)) H locs lsR ad hS hR hL (st_tl hok) ht hx hc hs
theorem ws_icmp_ge (F : FX E p R s mid c bytes nL own c0 s0 CM SM) {f : Int} {t : Nat} (hd : decode bytes pc = .ok (.if_icmp .ge f, 3)) (ht9 : (pc : Int) + f = t) (kt : ¬ x < y → WS E p l e R s mid args below meth c nL c0 s0 top0 ad0 Q t ls st μ) (kf : ¬ (¬ x < y) → WS E p l e R s mid args below meth c nL c0 s0 top0 ad0 Q (pc + 3) ls st μ) : WS E p l e R s mid args below meth c nL c0 s0 top0 ad0 Q pc ls (mI y :: mI x :: st) μ := by
  intro H locs lsR ad hS hR hL hok ht hx hc hs
  have hy1 := st_hd hok
  have hx1 := st_hd (st_tl hok)
  refine lv_icmp_ge F.1 F.2.1 hd ht9 (fun q => ?_) (fun q => ?_)
  · exact kt ((Iff.trans (oI_le hy1 hx1) Int.not_lt.symm).mp q) H locs lsR ad hS hR hL (st_tl (st_tl hok)) ht hx hc hs
  · exact kf (fun z => q ((Iff.trans (oI_le hy1 hx1) Int.not_lt.symm).mpr z)) H locs lsR ad hS hR hL (st_tl (st_tl hok)) ht hx hc hs
theorem ws_if_ge (F : FX E p R s mid c bytes nL own c0 s0 CM SM) {f : Int} {t : Nat} (hd : decode bytes pc = .ok (.ifCond .ge f, 3)) (ht9 : (pc : Int) + f = t) (kt : ¬ x < 0 → WS E p l e R s mid args below meth c nL c0 s0 top0 ad0 Q t ls st μ) (kf : ¬ (¬ x < 0) → WS E p l e R s mid args below meth c nL c0 s0 top0 ad0 Q (pc + 3) ls st μ) : WS E p l e R s mid args below meth c nL c0 s0 top0 ad0 Q pc ls (mI x :: st) μ := by
  intro H locs lsR ad hS hR hL hok ht hx hc hs
  have hx1 := st_hd hok
  refine lv_if_ge F.1 F.2.1 hd ht9 (fun q => ?_) (fun q => ?_)
  · exact kt ((Iff.trans (oI_le i32_0 hx1) Int.not_lt.symm).mp q) H locs lsR ad hS hR hL (st_tl hok) ht hx hc hs
  · exact kf (fun z => q ((Iff.trans (oI_le i32_0 hx1) Int.not_lt.symm).mpr z)) H locs lsR ad hS hR hL (st_tl hok) ht hx hc hs
theorem ws_icmp_gt (F : FX E p R s mid c bytes nL own c0 s0 CM SM) {f : Int} {t : Nat} (hd : decode bytes pc = .ok (.if_icmp .gt f, 3)) (ht9 : (pc : Int) + f = t) (kt : y < x → WS E p l e R s mid args below meth c nL c0 s0 top0 ad0 Q t ls st μ) (kf : ¬ (y < x) → WS E p l e R s mid args below meth c nL c0 s0 top0 ad0 Q (pc + 3) ls st μ) : WS E p l e R s mid args below meth c nL c0 s0 top0 ad0 Q pc ls (mI y :: mI x :: st) μ := by
  intro H locs lsR ad hS hR hL hok ht hx hc hs
  have hy1 := st_hd hok
  have hx1 := st_hd (st_tl hok)
  refine lv_icmp_gt F.1 F.2.1 hd ht9 (fun q => ?_) (fun q => ?_)
  · exact kt ((oI_lt hy1 hx1).mp q) H locs lsR ad hS hR hL (st_tl (st_tl hok)) ht hx hc hs
  · exact kf (fun z => q ((oI_lt hy1 hx1).mpr z)) H locs lsR ad hS hR hL (st_tl (st_tl hok)) ht hx hc hs
theorem ws_if_gt (F : FX E p R s mid c bytes nL own c0 s0 CM SM) {f : Int} {t : Nat} (hd : decode bytes pc = .ok (.ifCond .gt f, 3)) (ht9 : (pc : Int) + f = t) (kt : 0 < x → WS E p l e R s mid args below meth c nL c0 s0 top0 ad0 Q t ls st μ) (kf : ¬ (0 < x) → WS E p l e R s mid args below meth c nL c0 s0 top0 ad0 Q (pc + 3) ls st μ) : WS E p l e R s mid args below meth c nL c0 s0 top0 ad0 Q pc ls (mI x :: st) μ := by
  intro H locs lsR ad hS hR hL hok ht hx hc hs
  have hx1 := st_hd hok
  refine lv_if_gt F.1 F.2.1 hd ht9 (fun q => ?_) (fun q => ?_)
  · exact kt ((oI_lt i32_0 hx1).mp q) H locs lsR ad hS hR hL (st_tl hok) ht hx hc hs
  · exact kf (fun z => q ((oI_lt i32_0 hx1).mpr z)) H locs lsR ad hS hR hL (st_tl hok) ht hx hc hs
theorem ws_icmp_le (F : FX E p R s mid c bytes nL own c0 s0 CM SM) {f : Int} {t : Nat} (hd : decode bytes pc = .ok (.if_icmp .le f, 3)) (ht9 : (pc : Int) + f = t) (kt : ¬ y < x → WS E p l e R s mid args below meth c nL c0 s0 top0 ad0 Q t ls st μ) (kf : ¬ (¬ y < x) → WS E p l e R s mid args below meth c nL c0 s0 top0 ad0 Q (pc + 3) ls st μ) : WS E p l e R s mid args below meth c nL c0 s0 top0 ad0 Q pc ls (mI y :: mI x :: st) μ := by
  intro H locs lsR ad hS hR hL hok ht hx hc hs
  have hy1 := st_hd hok
  have hx1 := st_hd (st_tl hok)
  refine lv_icmp_le F.1 F.2.1 hd ht9 (fun q => ?_) (fun q => ?_)
  · exact kt ((Iff.trans (oI_le hx1 hy1) Int.not_lt.symm).mp q) H locs lsR ad hS hR hL (st_tl (st_tl hok)) ht hx hc hs
  · exact kf (fun z => q ((Iff.trans (oI_le hx1 hy1) Int.not_lt.symm).mpr z)) H locs lsR ad hS hR hL (st_tl (st_tl hok)) ht hx hc hs
theorem ws_if_le (F : FX E p R s mid c bytes nL own c0 s0 CM SM) {f : Int} {t : Nat} (hd : decode bytes pc = .ok (.ifCond .le f, 3)) (ht9 : (pc : Int) + f = t) (kt : ¬ 0 < x → WS E p l e R s mid args below meth c nL c0 s0 top0 ad0 Q t ls st μ) (kf : ¬ (¬ 0 < x) → WS E p l e R s mid args below meth c nL c0 s0 top0 ad0 Q (pc + 3) ls st μ) : WS E p l e R s mid args below meth c nL c0 s0 top0 ad0 Q pc ls (mI x :: st) μ := by
  intro H locs lsR ad hS hR hL hok ht hx hc hs
  have hx1 := st_hd hok
  refine lv_if_le F.1 F.2.1 hd ht9 (fun q => ?_) (fun q => ?_)
  · exact kt ((Iff.trans (oI_le hx1 i32_0) Int.not_lt.symm).mp q) H locs lsR ad hS hR hL (st_tl hok) ht hx hc hs
  · exact kf (fun z => q ((Iff.trans (oI_le hx1 i32_0) Int.not_lt.symm).mpr z)) H locs lsR ad hS hR hL (st_tl hok) ht hx hc hs
theorem ws_ifnull (F : FX E p R s mid c bytes nL own c0 s0 CM SM) {f : Int} {t u : Nat} (hd : decode bytes pc = .ok (.ifnull f, 3)) (ht9 : (pc : Int) + f = t) (kt : x < 0 → WS E p l e R s mid args below meth c nL c0 s0 top0 ad0 Q t ls st μ) (kf : ¬ x < 0 → WS E p l e R s mid args below meth c nL c0 s0 top0 ad0 Q (pc + 3) ls st μ) : WS E p l e R s mid args below meth c nL c0 s0 top0 ad0 Q pc ls (mR u x :: st) μ := by
  intro H locs lsR ad hS hR hL hok ht hx hc hs
  rw [List.map_cons]
  by_cases hn : x < 0
  · have e1 : eTo E ad (mR u x) = .null := by simp [eTo, toV, hn]
    rw [e1]
    exact lv_ifnullN F.1 F.2.1 hd ht9 (kt hn H locs lsR ad hS hR hL (st_tl hok) ht hx hc hs)
  · obtain ⟨q2, e1⟩ : ∃ q2, eTo E ad (mR u x) = .ref q2 := by simp [eTo, toV, hn]
    rw [e1]
    exact lv_ifnull F.1 F.2.1 hd (kf hn H locs lsR ad hS hR hL (st_tl hok) ht hx hc hs)
theorem ws_ifnonnull (F : FX E p R s mid c bytes nL own c0 s0 CM SM) {f : Int} {t u : Nat} (hd : decode bytes pc = .ok (.ifnonnull f, 3)) (ht9 : (pc : Int) + f = t) (kt : ¬ x < 0 → WS E p l e R s mid args below meth c nL c0 s0 top0 ad0 Q t ls st μ) (kf : x < 0 → WS E p l e R s mid args below meth c nL c0 s0 top0 ad0 Q (pc + 3) ls st μ) : WS E p l e R s mid args below meth c nL c0 s0 top0 ad0 Q pc ls (mR u x :: st) μ := by
  intro H locs lsR ad hS hR hL hok ht hx hc hs
  rw [List.map_cons]
  by_cases hn : x < 0
  · have e1 : eTo E ad (mR u x) = .null := by simp [eTo, toV, hn]
    rw [e1]
    exact lv_ifnonnullN F.1 F.2.1 hd (kf hn H locs lsR ad hS hR hL (st_tl hok) ht hx hc hs)
  · obtain ⟨q2, e1⟩ : ∃ q2, eTo E ad (mR u x) = .ref q2 := by simp [eTo, toV, hn]
    rw [e1]
    exact lv_ifnonnull F.1 F.2.1 hd ht9 (kt hn H locs lsR ad hS hR hL (st_tl hok) ht hx hc hs)
end Sim
