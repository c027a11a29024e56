/-! more depth never hurts -/
theorem rm_enterD {f : Nat → Nat → Nat → List MV → List MV → MM → MRes} (h : ∀ d m pc l st μ, Rm (f d m pc l st μ) (f (d + 1) m pc l st μ)) (d m : Nat) (args : List MV) (μ : MM) : Rm (enter f d m args μ) (enter f (d + 1) m args μ) := by
  unfold enter
  refine rm_ite (rm_enterM (h d) m args μ) (rm_ite rm_rf (rm_ite rm_rf (rm_ite ?_ rm_D)))
  cases d with
  | zero => exact rm_D
  | succ d =>
    dsimp only
    split
    · refine rm_ite ?_ rm_D
      intro x hx
      have hq := rm_enterM (h d) mX10_led
      split at hx
      · rename_i p ν q; rw [hq _ _ _ q]; exact hx
      · rename_i ν q; rw [hq _ _ _ q]; exact hx
      · cases hx
    · exact rm_D
theorem run_depth1 : ∀ (n d m pc : Nat) (l st : List MV) (μ : MM), Rm (runF n d m pc l st μ) (runF n (d + 1) m pc l st μ) := by
  intro n
  induction n with
  | zero => intro d m pc l st μ; exact rm_D
  | succ n ih =>
    intro d m pc l st μ
    rw [runF, runF]
    refine rm_step2 (fun pc l st μ => ih d m pc l st μ) (fun m' q args μ k g h => ?_) _ _ _ _ _ _
    cases d with
    | zero => exact rm_D
    | succ d =>
      dsimp only
      intro x hx
      split at hx
      · rename_i v ν q
        rw [rm_enterD ih d m' args μ _ q]
        exact h _ _ _ hx
      · cases hx
theorem ev_deep {d m : Nat} {args : List MV} {μ : MM} {Q : Option MV → MM → Prop} (h : Ev d m args μ Q) (k : Nat) : Ev (d + k) m args μ Q := by
  induction k with
  | zero => exact h
  | succ k ih =>
    obtain ⟨N, r, ν, h1, h2⟩ := ih
    exact ⟨N, r, ν, fun n hn => rm_enterD (f := runF n) (run_depth1 n) (d + k) m args μ _ (h1 n hn), h2⟩
theorem ev_is1 {n d m : Nat} {args : List MV} {μ : MM} {Q : Option MV → MM → Prop} {v : Option MV} {ν : MM} (h : enter (runF n) d m args μ = some (v, ν)) (hE : Ev (d + 1) m args μ Q) : Q v ν := ev_is (rm_enterD (f := runF n) (run_depth1 n) d m args μ _ h) hE
/-! the simulation -/
def SIM (E : ENV) (l : Launch) (n : Nat) : Prop := ∀ (d m pc : Nat) (ls st : List MV) (μ : MM) (r : Option MV) (ν : MM), runF n d m pc ls st μ = some (r, ν) → ∀ (p : Program) (e : Env) (R : Room) (s : State) (mid : MethodId) (args : Array Value) (below : List Frame) (meth : Method) (c : Code) (Q : State → Prop) (bytes : ByteArray) (o : Nat) (ini : Bool) (c0 s0 CM SM : Nat) (top0 : Int) (ad0 : Nat → Nat),
  FX E p R s mid c bytes (mtab m).1 (own o) c0 s0 CM SM → chkM ini o bytes 0 (mtab m).2.2.2 = true → (ini = true → meth.name = "<init>") → d + 8 ≤ R.frames → 200 * (d + 8) ≤ R.locals → gCl ν.1 ≤ CM → gSl ν.1 ≤ SM →
  (∀ pc' ls' st' μ', RetI (mtab m).2.1 (look (mtab m).2.2.2 pc') st' μ' r ν → WS E p l e R s mid args below meth c (mtab m).1 c0 s0 top0 ad0 Q pc' ls' st' μ') → WS E p l e R s mid args below meth c (mtab m).1 c0 s0 top0 ad0 Q pc ls st μ
/-- the law's helper, called: owed apart -/
def LEDR (E : ENV) (l : Launch) : Prop := ∀ n, SIM E l n → ∀ (d : Nat) (as : List MV) (μ : MM) (v : Option MV) (ν : MM), enter (runF n) d 1006 as μ = some (v, ν) → ∀ (p : Program) (e : Env) (R : Room) (s : State) (mid : MethodId) (args : Array Value) (below : List Frame) (meth : Method) (c : Code) (Q : State → Prop) (bytes : ByteArray) (o nL : Nat) (c0 s0 CM SM : Nat) (top0 : Int) (ad0 : Nat → Nat) (k pc : Nat) (ls st : List MV),
  FX E p R s mid c bytes nL (own o) c0 s0 CM SM → d + 9 ≤ R.frames → 200 * (d + 9) ≤ R.locals → decode bytes pc = .ok (.invokestatic k, 3) → Cond.methodLink (own o) k yLed ∈ lw_tbl → st.length ≤ 4 → gCl ν.1 ≤ CM → gSl ν.1 ≤ SM →
  WS E p l e R s mid args below meth c nL c0 s0 top0 ad0 Q (pc + 3) ls (v.toList ++ st) ν → WS E p l e R s mid args below meth c nL c0 s0 top0 ad0 Q pc ls (as.reverse ++ st) μ
abbrev cLen : ByteArray := prog_22_method_54_code
abbrev cChr : ByteArray := prog_22_method_56_code
/-- String.length and charAt of the texts: owed apart -/
def STRR (E : ENV) (l : Launch) : Prop := (∀ (d : Nat) (a : Int) (μ : MM), 0 ≤ a → a < 17 → MetOK E l yLen cLen 1 (some .int) d [mR 2 a] μ (some (mI (nth [] jsT a.toNat).length)) μ) ∧ ∀ (d : Nat) (a i : Int) (μ : MM), 0 ≤ a → a < 17 → 0 ≤ i → i < (nth [] jsT a.toNat).length → MetOK E l yChr cChr 2 (some .char) d [mR 2 a, mI i] μ (some (mI (nth 0 (nth [] jsT a.toNat) i.toNat))) μ
def no99i (i : Instr) : Bool := match i with
  | .new 99 => false
  | _ => true
def no99 (k : List (List Instr)) : Bool := k.all fun (l : List Instr) => l.all no99i
theorem nth_all {β : Type} {d : β} {P : β → Bool} (hd : P d = true) : ∀ {l : List β} {k : Nat}, l.all P = true → P (nth d l k) = true
  | [], _, _ => hd
  | x :: l, 0, h => by simp only [List.all_cons, Bool.and_eq_true] at h; exact h.1
  | x :: l, k + 1, h => by
    simp only [List.all_cons, Bool.and_eq_true] at h
    show P (nth d l k) = true
    exact nth_all hd h.2
theorem no99_at {k : List (List Instr)} (h : no99 k = true) (pc : Nat) : look k pc ≠ .new 99 := by
  intro q
  have h1 : (nth [] k (pc / 32)).all no99i = true := nth_all (P := fun (l : List Instr) => l.all no99i) rfl h
  have h2 : no99i (nth .nop (nth [] k (pc / 32)) (pc % 32)) = true := nth_all rfl h1
  unfold look at q
  rw [q] at h2
  cases h2
set_option maxRecDepth 100000 in
theorem no99_all : ∀ m, m < 363 → m ≠ mX10_led → no99 (mtab m).2.2.2 = true := by decide +kernel
section Sim9
variable {E : ENV} {l : Launch}
/-! a method's entry -/
theorem lay_args {ad : Nat → Nat} : ∀ (as : List MV) (j k : Nat) (v : MV), (lay as)[k]? = some v → v = MU ∨ (v ∈ as ∧ (j + k, eTo E ad v) ∈ lv_args j (as.map (eTo E ad)))
  | [], j, k, v, h => by simp [lay] at h
  | w :: as, j, k, v, h => by
    have key : ∀ (n : Nat), (eTo E ad w).category = n → (n = 1 ∨ n = 2) → lay (w :: as) = (if n = 2 then w :: MU :: lay as else w :: lay as) → v = MU ∨ (v ∈ w :: as ∧ (j + k, eTo E ad v) ∈ lv_args j ((w :: as).map (eTo E ad))) := by
      intro n hn hn12 hl
      rw [List.map_cons, lv_args, hn]
      rw [hl] at h
      by_cases h2 : n = 2
      · rw [if_pos h2] at h
        rw [if_pos h2]
        match k, h with
        | 0, h => cases h; exact Or.inr ⟨List.mem_cons_self, List.mem_cons_self⟩
        | 1, h => cases h; exact Or.inl rfl
        | k + 2, h =>
          rcases lay_args as (j + 2) k v h with q | q
          · exact Or.inl q
          · exact Or.inr ⟨List.mem_cons_of_mem _ q.1, List.mem_cons_of_mem _ (by rw [show j + (k + 2) = j + 2 + k by omega]; exact q.2)⟩
      · rw [if_neg h2] at h
        rw [if_neg h2]
        match k, h with
        | 0, h => cases h; exact Or.inr ⟨List.mem_cons_self, List.mem_cons_self⟩
        | k + 1, h =>
          rcases lay_args as (j + 1) k v h with q | q
          · exact Or.inl q
          · exact Or.inr ⟨List.mem_cons_of_mem _ q.1, List.mem_cons_of_mem _ (by rw [show j + (k + 1) = j + 1 + k by omega]; exact q.2)⟩
    match w with
    | Sum.inl x => exact key 1 rfl (Or.inl rfl) rfl
    | Sum.inr (Sum.inl x) => exact key 2 rfl (Or.inr rfl) rfl
    | Sum.inr (Sum.inr (t, x)) => exact key 1 (toV_cat t x) (Or.inl rfl) rfl
theorem lay_len {ad : Nat → Nat} : ∀ as : List MV, (lg_sl (as.map (eTo E ad))).length = (lay as).length
  | [] => rfl
  | w :: as => by
    have ih := lay_len (ad := ad) as
    unfold lg_sl at ih ⊢
    rw [List.map_cons, List.flatMap_cons, List.length_append, ih]
    match w with
    | Sum.inl x => show 1 + _ = _; simp [lay]; omega
    | Sum.inr (Sum.inl x) => show 2 + _ = _; simp [lay]; omega
    | Sum.inr (Sum.inr (t, x)) => rw [if_neg (by rw [toV_cat]; decide)]; simp [lay]; omega
theorem lrep_entry {ad : Nat → Nat} {G : MG} {as : List MV} {nL : Nat} (hle : (lay as).length ≤ nL) (hok : ∀ v ∈ as, okV G v) : LRep E ad G ((lg_sl (as.map (eTo E ad)) ++ List.replicate (nL - (lg_sl (as.map (eTo E ad))).length) Slot.unset).toArray) nL (pad nL (lay as)) := by
  have hl := lv_entry (as.map (eTo E ad)) (n := nL) (by rw [lay_len]; exact hle)
  refine ⟨hl.1, hl.2.1, by simp [pad]; omega, fun k v hv => ?_⟩
  unfold pad at hv
  by_cases hk : k < (lay as).length
  · rw [List.getElem?_append_left hk] at hv
    rcases lay_args (E := E) (ad := ad) as 0 k v hv with q | q
    · exact Or.inl q
    · exact Or.inr ⟨hok v q.1, hl.2.2 (k, eTo E ad v) (by have := q.2; rw [Nat.zero_add] at this; exact this)⟩
  · rw [List.getElem?_append_right (by omega)] at hv
    exact Or.inl (List.eq_of_mem_replicate (List.mem_of_getElem? hv))
theorem rk_int {ret : Option FieldType} {rk : Nat} {x : Int} (h : rkR rk ret) (hx : rk = 1 ∨ rk = 2 ∧ 0 ≤ x ∧ x ≤ 1) : ∃ ty, ret = some ty ∧ narrow ty (.int (Int32.ofInt x)) = .int (Int32.ofInt x) := by
  rcases hx with rfl | ⟨rfl, hx⟩
  · exact ⟨.int, h, rfl⟩
  · refine ⟨.boolean, h, ?_⟩
    rcases (show x = 0 ∨ x = 1 by omega) with rfl | rfl <;> rfl
/-- a method's end -/
theorem fin_ret {p : Program} {e : Env} {R : Room} {s : State} {mid : MethodId} {args : Array Value} {below : List Frame} {meth : Method} {c : Code} {bytes : ByteArray} {nL o : Nat} {ini : Bool} {μ ν μ' : MM} {r : Option MV} {ad : Nat → Nat} {rk : Nat} {ret : Option FieldType} {i : Instr} {pc : Nat} {ls st : List MV} {CM SM : Nat}
    (F : FX E p R s mid c bytes nL (own o) (gCl μ.1) (gSl μ.1) CM SM) (hr : meth.sig.returnType = ret) (hrk : rkR rk ret) (hlocks : meth.locks = false) (hck : chkI ini o bytes pc i = true) (h99 : i ≠ .new 99) (h : RetI rk i st μ' r ν) :
    WS E p l e R s mid args below meth c nL (gCl μ.1) (gSl μ.1) (gTop μ.1) ad (MQ below (Qm E ad μ r ν) args s (gCl ν.1 - gCl μ.1) (gSl ν.1 - gSl μ.1) (eS E)) pc ls st μ' := by
  intro H locs lsR ad' hS hR hL hok ht hx hc hs
  obtain ⟨hx0, hb, hml, hown, hC, -, -⟩ := F
  have hq : ∀ (w : Option Value), w = r.map (eTo E ad') → ν = μ' → (∀ v ∈ r, okV ν.1 v) → ∀ t : State, t.heap = H → s.WarmedH t.vm → Qm E ad μ r ν args s (.returned w) t := by
    intro w hw hν hv t htH _
    refine ⟨ad', hx, by rw [hw], by rw [htH, hν]; exact hR, ⟨by rw [htH]; exact hS.1, fun q h1 h2 => by rw [htH]; exact hS.2.1 q h1 h2⟩, hv⟩
  rcases h with ⟨rfl, x, rfl, rfl, rfl, hrx⟩ | ⟨rfl, x, rfl, rfl, rfl, rfl⟩ | ⟨rfl, t, x, rfl, rfl, rfl, rfl⟩ | ⟨rfl, rfl, rfl, rfl, rfl⟩ | ⟨rfl, -⟩
  · obtain ⟨ty, h1, h2⟩ := rk_int hrk hrx
    exact W.zret hx0 hb (hr.trans h1) h2 (hq _ rfl rfl (by intro v hv; cases hv; exact st_hd hok)) hS.2.2 (dq_of hck) hlocks
  · exact W.lret hx0 hb (hr.trans hrk) (hq _ rfl rfl (by intro v hv; cases hv; exact st_hd hok)) hS.2.2 (dq_of hck) hlocks
  · obtain ⟨nm, h1⟩ := hrk
    refine W.aret (v := eTo E ad' (mR t x)) hx0 hb (hr.trans h1) (Or.inl ⟨_, rfl⟩) ?_ (hq _ rfl rfl (by intro v hv; cases hv; exact st_hd hok)) hS.2.2 (dq_of hck) hlocks
    by_cases hn : x < 0
    · exact Or.inl (by simp [eTo, toV, hn])
    · exact Or.inr (by simp [eTo, toV, hn])
  · exact W.vret hx0 hb (hr.trans hrk) (hq _ rfl rfl (by intro v hv; cases hv)) hS.2.2 (dq_of hck) hlocks
  · exact absurd rfl h99
/-- a call of a method of the table, out of the simulation of its body -/
theorem met_of {n d m : Nat} {as : List MV} {μ ν : MM} {r : Option MV} (hS : SIM E l n) (hm : m < 363) (hl9 : m ≠ mX10_led) (h : enterM (runF n d) m as μ = some (r, ν)) :
    MetOK E l (rtab m).1 (rtab m).2.1 (mtab m).1 (rtab m).2.2.2.1 d as μ r ν := by
  intro ad
  obtain ⟨hcode, hinit, hy, hnp, hpl, hcls, hini, hrk, hinst, hck, hmx⟩ := mf_all m hm
  unfold enterM at h
  obtain ⟨⟨hrok, hle⟩, h⟩ := ite_inv h
  have hg : Gr μ ν := run_grow _ _ _ _ _ _ _ _ _ h
  refine Met.ofW (cc := (rtab m).2.1) (maxL := (mtab m).1) (ret := (rtab m).2.2.2.1) hpl rfl ?_
  intro p e s mid args below meth c s₁ B hml hv
  obtain ⟨rfl, hR, hC, hok⟩ := hv
  have hown : s.vm.findClass (own (rtab m).2.2.1) = some mid.cls := by rw [← hcls]; exact findClass_of_methodNamed B.named
  have F : FX E p (headSpec [Cond.code (rtab m).1 (rtab m).2.1 (mtab m).1 (rtab m).2.2.2.1] (rmD d (gCl ν.1 - gCl μ.1) (gSl ν.1 - gSl μ.1))).room s mid c (rtab m).2.1 (mtab m).1 (own (rtab m).2.2.1) (gCl μ.1) (gSl μ.1) (gCl ν.1) (gSl ν.1) := by
    refine ⟨B.exec, B.bytes, hml, hown, hC, ?_, ?_⟩
    · show gCl ν.1 - gCl μ.1 + gCl μ.1 = gCl ν.1
      have := hg.2.1; omega
    · show gSl ν.1 - gSl μ.1 + gSl μ.1 = gSl ν.1
      have := hg.2.2.1; omega
  have hname : (rtab m).2.2.2.2.2 = true → meth.name = "<init>" := fun q => by
    have := (name_of_methodNamed B.named B.method).1
    rw [this]; exact (hini q).1
  rw [lg_entry_eq]
  have key := hS d m 0 _ [] μ r ν h p e _ s mid ((as.map (eTo E ad)).toArray) below meth c (MQ below (Qm E ad μ r ν) ((as.map (eTo E ad)).toArray) s (gCl ν.1 - gCl μ.1) (gSl ν.1 - gSl μ.1) (eS E)) (rtab m).2.1 (rtab m).2.2.1 (rtab m).2.2.2.2.2 (gCl μ.1) (gSl μ.1) (gCl ν.1) (gSl ν.1) (gTop μ.1) ad F hck hname (Nat.le_refl _) (Nat.le_refl _) (Nat.le_refl _) (Nat.le_refl _)
    (fun pc' ls' st' μ' hret => fin_ret F B.returns hrk B.notSynchronized (chk_at hck pc') (no99_at (no99_all m hm hl9) pc') hret)
    s.heap [] _ ad va_S.rf hR (lrep_entry hle hok) (fun v hv => absurd hv List.not_mem_nil) (Int.le_refl _) (fun _ _ => rfl) (Nat.le_refl _) (Nat.le_refl _)
  rw [Nat.sub_self, Nat.sub_self] at key
  exact key
end Sim9
