theorem rok_inv {rt : Nat} {as : List MV} (h0 : rt ≠ 0) (h : rok rt as = true) : ∃ a as', as = mR rt a :: as' ∧ 0 ≤ a := by
  unfold rok at h
  split at h
  · exact absurd rfl h0
  · split at h
    · simp only [Bool.and_eq_true, Nat.beq_eq] at h
      obtain ⟨rfl, h2⟩ := h
      exact ⟨_, _, rfl, of_decide_eq_true h2⟩
    · cases h
section Math
variable {E : ENV} {p : Program} {l : Launch} {e : Env} {R : Room} {s : State} {mid : MethodId} {args : Array Value} {below : List Frame} {meth : Method} {c : Code} {Q : State → Prop} {bytes : ByteArray} {nL o : Nat} {c0 s0 CM SM : Nat} {top0 : Int} {ad0 : Nat → Nat}
variable {pc : Nat} {ls st : List MV} {μ : MM} {x y : Int} {k : Nat}
theorem ws_mabs (F : FX E p R s mid c bytes nL (own o) c0 s0 CM SM) (hf : 1 ≤ R.frames) (hlo : 200 ≤ R.locals) (hd : decode bytes pc = .ok (.invokestatic k, 3)) (hlk : Cond.methodLink (own o) k Lib.Math.abs.name ∈ lw_tbl) (hrl : st.length ≤ 4) (hCM : gCl μ.1 ≤ CM) (hSM : gSl μ.1 ≤ SM)
    (kk : WS E p l e R s mid args below meth c nL c0 s0 top0 ad0 Q (pc + 3) ls (mI (if x < 0 then w32 (0 - x) else x) :: st) μ) : WS E p l e R s mid args below meth c nL c0 s0 top0 ad0 Q pc ls (mI x :: st) μ := by
  intro H locs lsR ad hS hR hL hok ht hx hc hs
  obtain ⟨hx0, hb, hml, hown, hC, h1, h2⟩ := F
  have hsum := cat_sum (E := E) (ad := ad) st
  have hx1 := st_hd hok
  have kk2 := kk H locs lsR ad hS hR hL (st_ok (show i32 _ by split; exact w32_i _; exact hx1) (st_tl hok)) ht hx hc hs
  refine va_mabs hx0 hb (by rw [hml, hL.1]) hown (hC.word hlk rfl rfl) (hC.word wd_abs1 rfl rfl) (hC.word wd_math rfl rfl) (hC.word wd_abs2 rfl rfl) hf (by omega) (by omega) (by omega) hd ?_
  rw [show (if (0 : Int32) ≤ Int32.ofInt x then Int32.ofInt x else 0 - Int32.ofInt x) = Int32.ofInt (if x < 0 then w32 (0 - x) else x) by
    by_cases q : x < 0
    · rw [if_pos q, if_neg (fun z => by have := (oI_le i32_0 hx1).mp z; omega), ← oI_sub]; rfl
    · rw [if_neg q, if_pos (show (0 : Int32) ≤ Int32.ofInt x from (oI_le i32_0 hx1).mpr (by omega))]]
  exact kk2
theorem ws_mmax (F : FX E p R s mid c bytes nL (own o) c0 s0 CM SM) (hf : 1 ≤ R.frames) (hlo : 200 ≤ R.locals) (hd : decode bytes pc = .ok (.invokestatic k, 3)) (hlk : Cond.methodLink (own o) k Lib.Math.max.name ∈ lw_tbl) (hrl : st.length ≤ 4) (hCM : gCl μ.1 ≤ CM) (hSM : gSl μ.1 ≤ SM)
    (kk : WS E p l e R s mid args below meth c nL c0 s0 top0 ad0 Q (pc + 3) ls (mI (if x < y then y else x) :: st) μ) : WS E p l e R s mid args below meth c nL c0 s0 top0 ad0 Q pc ls (mI y :: mI x :: st) μ := by
  intro H locs lsR ad hS hR hL hok ht hx hc hs
  obtain ⟨hx0, hb, hml, hown, hC, h1, h2⟩ := F
  have hsum := cat_sum (E := E) (ad := ad) st
  have hy1 := st_hd hok
  have hx1 := st_hd (st_tl hok)
  have kk2 := kk H locs lsR ad hS hR hL (st_ok (show i32 _ by split; exact hy1; exact hx1) (st_tl (st_tl hok))) ht hx hc hs
  refine va_mmax hx0 hb (by rw [hml, hL.1]) hown (hC.word hlk rfl rfl) (hC.word wd_max1 rfl rfl) (hC.word wd_math rfl rfl) (hC.word wd_max2 rfl rfl) hf (by omega) (by omega) (by omega) hd ?_
  rw [show (if Int32.ofInt x < Int32.ofInt y then Int32.ofInt y else Int32.ofInt x) = Int32.ofInt (if x < y then y else x) by
    by_cases q : x < y
    · rw [if_pos q, if_pos ((oI_lt hx1 hy1).mpr q)]
    · rw [if_neg q, if_neg (fun z => q ((oI_lt hx1 hy1).mp z))]]
  exact kk2
theorem ws_mmin (F : FX E p R s mid c bytes nL (own o) c0 s0 CM SM) (hf : 1 ≤ R.frames) (hlo : 200 ≤ R.locals) (hd : decode bytes pc = .ok (.invokestatic k, 3)) (hlk : Cond.methodLink (own o) k Lib.Math.min.name ∈ lw_tbl) (hrl : st.length ≤ 4) (hCM : gCl μ.1 ≤ CM) (hSM : gSl μ.1 ≤ SM)
    (kk : WS E p l e R s mid args below meth c nL c0 s0 top0 ad0 Q (pc + 3) ls (mI (if y < x then y else x) :: st) μ) : WS E p l e R s mid args below meth c nL c0 s0 top0 ad0 Q pc ls (mI y :: mI x :: st) μ := by
  intro H locs lsR ad hS hR hL hok ht hx hc hs
  obtain ⟨hx0, hb, hml, hown, hC, h1, h2⟩ := F
  have hsum := cat_sum (E := E) (ad := ad) st
  have hy1 := st_hd hok
  have hx1 := st_hd (st_tl hok)
  have kk2 := kk H locs lsR ad hS hR hL (st_ok (show i32 _ by split; exact hy1; exact hx1) (st_tl (st_tl hok))) ht hx hc hs
  refine va_mmin hx0 hb (by rw [hml, hL.1]) hown (hC.word hlk rfl rfl) (hC.word wd_min1 rfl rfl) (hC.word wd_math rfl rfl) (hC.word wd_min2 rfl rfl) hf (by omega) (by omega) (by omega) hd ?_
  rw [show (if Int32.ofInt y < Int32.ofInt x then Int32.ofInt y else Int32.ofInt x) = Int32.ofInt (if y < x then y else x) by
    by_cases q : y < x
    · rw [if_pos q, if_pos ((oI_lt hy1 hx1).mpr q)]
    · rw [if_neg q, if_neg (fun z => q ((oI_lt hy1 hx1).mp z))]]
  exact kk2
theorem ws_callStr {y9 : MethodName} {by' : ByteArray} {maxL np d : Nat} {ret : Option FieldType} {as' : List MV} {a : Int} {r : Option MV} {ν : MM} (F : FX E p R s mid c bytes nL (own o) c0 s0 CM SM) (hfr : d + 9 ≤ R.frames) (hlo : 200 * (d + 9) ≤ R.locals) (hd : decode bytes pc = .ok (.invokevirtual k, 3)) (hlk : Cond.methodLink (own o) k y9 ∈ lw_tbl) (hcode : Cond.code y9 by' maxL ret ∈ lw_tbl) (hinit : Cond.initialized y9.cls ∈ lw_tbl) (hy : y9.cls ≠ "java/lang/invoke/MethodHandle" ∧ y9.cls ≠ "java/lang/invoke/VarHandle") (hnp : (parseMethodDescriptor y9.desc).map (fun d => d.parameters.length) = some np) (hin : Cond.instanceMethod y9 ∈ lw_tbl) (hcl : y9.cls = "java/lang/String") (hse : Cond.selects y9.cls y9 y9 ∈ lw_tbl) (hmx : maxL ≤ 100)
    (hlen : as'.length = np) (ha : 0 ≤ a ∧ a < 17) (hrl : st.length ≤ 4) (hM : MetOK E l y9 by' maxL ret d (mR 2 a :: as') μ r ν) (hg : Gr μ ν) (hCM : gCl ν.1 ≤ CM) (hSM : gSl ν.1 ≤ SM)
    (kk : WS E p l e R s mid args below meth c nL c0 s0 top0 ad0 Q (pc + 3) ls (r.toList ++ st) ν) : WS E p l e R s mid args below meth c nL c0 s0 top0 ad0 Q pc ls ((mR 2 a :: as').reverse ++ st) μ := by
  intro H locs lsR ad hS hR hL hok ht hx hc hs
  have F0' := F
  obtain ⟨hx0, hb, hml, hown, hC, hc1, hs1⟩ := F
  have hokr : ∀ v ∈ st, okV μ.1 v := fun v hv => hok v (List.mem_append_right _ hv)
  have hoka : ∀ v ∈ mR 2 a :: as', okV μ.1 v := fun v hv => hok v (List.mem_append_left _ (List.mem_reverse.mpr hv))
  have e1 : eTo E ad (mR 2 a) = .ref (eK E a.toNat) := by simp only [eTo, toV]; rw [if_neg (by omega)]; rfl
  have hrv := vk_recv hC.2.2.2.1.1 (i := a.toNat) (by omega) hS
  rw [← hcl] at hrv
  have hsum := cat_sum (E := E) (ad := ad) st
  have hstk : (F0 mid pc lsR (((mR 2 a :: as').reverse ++ st).map (eTo E ad))).stack = (as'.map (eTo E ad)).reverse ++ .ref (eK E a.toNat) :: st.map (eTo E ad) := by
    show ((mR 2 a :: as').reverse ++ st).map (eTo E ad) = _
    rw [List.reverse_cons, List.append_assoc, List.map_append, List.map_reverse, List.map_append]
    rw [show [mR 2 a].map (eTo E ad) = [Value.ref (eK E a.toNat)] from congrArg (fun z => [z]) e1]
    rfl
  have hPc : ∀ U : State, U.heap = H → s.WarmedH U.vm → Pm E ad μ (mR 2 a :: as') (Value.ref (eK E a.toNat) :: as'.map (eTo E ad)).toArray U := by
    intro U hU hW
    refine ⟨?_, by rw [hU]; exact hR, ?_, hoka⟩
    · rw [List.map_cons, e1]
    · rw [hU]; exact hC.warm hW hS.1 hS.2.1
  obtain ⟨b1, b2, b3, b4, b5, b6⟩ := callB9 (ν := ν) (μ := μ) F0' hfr hlo hcode hmx
  have hnp' : ∀ sig, parseMethodDescriptor y9.desc = some sig → np = sig.parameters.length := fun sig h => by rw [h] at hnp; exact (Option.some.inj hnp).symm
  have hf9 : gCl μ.1 - c0 + (gCl ν.1 - gCl μ.1) ≤ R.cells ∧ gSl μ.1 - s0 + (gSl ν.1 - gSl μ.1) ≤ R.slots := ⟨by have := hg.2.1; omega, by have := hg.2.2.1; omega⟩
  exact ws_back hg hS hL hokr ht hx hc hs (va_runV (Ts := []) (n := np) ⟨hx0, hb, hml, hown, fun w h => absurd h List.not_mem_nil⟩ (hM ad) ⟨⟨b1, b2, b3, b4, b5, b6, hC.word hcode rfl rfl, hC.word hinit rfl rfl, hy, hnp', hC.word hlk rfl rfl⟩, hC.word hin rfl rfl, hC.word hse rfl rfl⟩ ⟨Pm_blind, hrv, hPc⟩ rfl (by rw [List.length_map]; exact hlen) hL.1 hstk (by show 2 * 0 + _ ≤ 8; omega) hd hf9) kk
end Math
theorem take_inv {n : Nat} {st : List MV} (h : n ≤ st.length) : ∃ as rest, (st.take n).reverse = as ∧ st.drop n = rest ∧ st = as.reverse ++ rest ∧ as.length = n := ⟨_, _, rfl, rfl, by simp, by simp; omega⟩
theorem abs_int {n d : Nat} {w : MV} {μ : MM} {z : Option MV × MM} (h : enterM (runF n d) 363 [w] μ = some z) : ∃ x, w = mI x := by
  unfold enterM at h
  obtain ⟨⟨-, hle⟩, h⟩ := ite_inv h
  cases n with
  | zero => cases h
  | succ n =>
    rw [runF, show look (mtab 363).2.2.2 0 = .iload_n 0 from rfl] at h
    simp only [stepG] at h
    obtain ⟨x, hx, -⟩ := lI_inv h
    match w, hx with
    | Sum.inl x', _ => exact ⟨x', rfl⟩
    | Sum.inr (Sum.inl x'), hx => cases hx
    | Sum.inr (Sum.inr (t, x')), hx => cases hx
theorem two_int {n d m : Nat} {w u : MV} {μ : MM} {z : Option MV × MM} (h0 : look (mtab m).2.2.2 0 = .iload_n 0) (h1 : look (mtab m).2.2.2 1 = .iload_n 1) (h2 : (mtab m).1 = 2) (h : enterM (runF n d) m [w, u] μ = some z) : ∃ x y, w = mI x ∧ u = mI y := by
  unfold enterM at h
  obtain ⟨⟨-, hle⟩, h⟩ := ite_inv h
  rw [h2] at h
  cases n with
  | zero => cases h
  | succ n =>
    rw [runF, h0] at h
    simp only [stepG] at h
    obtain ⟨x, hx, h⟩ := lI_inv h
    have hw : ∃ x', w = mI x' := by
      match w, hx with
      | Sum.inl x', _ => exact ⟨x', rfl⟩
      | Sum.inr (Sum.inl x'), hx => cases hx
      | Sum.inr (Sum.inr (t, x')), hx => cases hx
    obtain ⟨x', rfl⟩ := hw
    cases n with
    | zero => cases h
    | succ n =>
      rw [runF, show 0 + 1 = 1 from rfl, h1] at h
      simp only [stepG] at h
      obtain ⟨y, hy, -⟩ := lI_inv h
      match u, hy with
      | Sum.inl y', _ => exact ⟨x', y', rfl, rfl⟩
      | Sum.inr (Sum.inl y'), hy => cases hy
      | Sum.inr (Sum.inr (t, y')), hy => cases hy
