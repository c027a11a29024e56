section Heap4
variable {E : ENV} {p : Program} {l : Launch} {e : Env} {R : Room} {s : State} {mid : MethodId} {args : Array Value} {below : List Frame} {meth : Method} {c : Code} {Q : State → Prop} {bytes : ByteArray} {nL o : Nat} {c0 s0 CM SM : Nat} {top0 : Int} {ad0 : Nat → Nat}
variable {pc : Nat} {ls st : List MV} {μ : MM} {x y a i : Int} {t k en : Nat}
theorem LRep.mono {ad ad' : Nat → Nat} {G G' : MG} {lsR : Array Slot} (h : LRep E ad G lsR nL ls) (h1 : gTop G ≤ gTop G') (h2 : ∀ x, 0 ≤ x → x < gTop G → gTy G' x = gTy G x) (hx : ∀ k : Nat, (k : Int) < gTop G → ad' k = ad k) : LRep E ad' G' lsR nL ls := by
  refine ⟨h.1, h.2.1, h.2.2.1, fun k v hv => ?_⟩
  rcases h.2.2.2 k v hv with q | q
  · exact Or.inl q
  · exact Or.inr ⟨okV_mono h1 h2 q.1, by rw [q.2]; exact congrArg (fun z => some (Slot.val z)) (toV_ext hx q.1).symm⟩
theorem map_ext {ad ad' : Nat → Nat} {G : MG} (hx : ∀ k : Nat, (k : Int) < gTop G → ad' k = ad k) (hok : ∀ v ∈ st, okV G v) : st.map (eTo E ad') = st.map (eTo E ad) := List.map_congr_left fun v hv => toV_ext hx (hok v hv)
/-- a new cell at q: all is as it was, and the new cell is blank -/
theorem new_go {H1 : Heap} {locs : List Loc} {lsR : Array Slot} {ad : Nat → Nat} {n q : Nat} (hR : Rep E ad μ H1 ∨ ∃ H, Rep E ad μ H) (hT : okT t n) (hP1 : va_P (eD E) vwCl (eWs E ad μ ++ [(q, eltV (eA E) (eB E) (eK E) (va_up ad (gTop μ.1).toNat q) t n (dv t))]) H1) (hD1 : va_D (eS E) (eWs E ad μ ++ [(q, eltV (eA E) (eB E) (eK E) (va_up ad (gTop μ.1).toNat q) t n (dv t))])) (hS1 : va_S (eS E) s.heap H1 locs)
    (hL : LRep E ad μ.1 lsR nL ls) (hok : ∀ v ∈ st, okV μ.1 v) (ht : top0 ≤ gTop μ.1) (hx : ∀ k : Nat, (k : Int) < top0 → ad k = ad0 k) (hc : c0 ≤ gCl μ.1) (hs : s0 ≤ gSl μ.1) (ht4 : 4 ≤ t)
    (kk : WS E p l e R s mid args below meth c nL c0 s0 top0 ad0 Q pc ls (mR t (gTop μ.1) :: st) (gNew μ.1 t n, cNew μ.1 μ.2 t)) :
    W p l e R s mid args below meth c H1 locs (gCl μ.1 - c0 + 1) (gSl μ.1 - s0 + n) Q (F0 mid pc lsR (.ref q :: st.map (eTo E ad))) := by
  obtain ⟨H, hR⟩ : ∃ H, Rep E ad μ H := hR.elim (fun h => ⟨_, h⟩) id
  have h00 : 0 ≤ gTop μ.1 := hR.2.2.1.1
  rw [← ws_push hR.2.2.1] at hP1 hD1
  have hx2 : ∀ k : Nat, (k : Int) < gTop μ.1 → va_up ad (gTop μ.1).toNat q k = ad k := fun k hk => if_neg (by omega)
  have h1 : gTop μ.1 ≤ gTop (gNew μ.1 t n) := show gTop μ.1 ≤ gTop μ.1 + 1 by omega
  have h2 : ∀ x, 0 ≤ x → x < gTop μ.1 → gTy (gNew μ.1 t n) x = gTy μ.1 x := fun x _ hx => if_neg (by omega)
  have hv : okV (gNew μ.1 t n) (mR t (gTop μ.1)) := by
    obtain ⟨u, rfl⟩ : ∃ u, t = u + 4 := ⟨t - 4, by omega⟩
    exact Or.inr ⟨show gTop μ.1 < gTop μ.1 + 1 by omega, if_pos rfl⟩
  have kk2 := kk H1 locs lsR (va_up ad (gTop μ.1).toNat q) hS1 ⟨hP1, hD1, okM_new hR.2.2.1 hT, ?_, fun i i0 i1 => ?_⟩ (hL.mono h1 h2 hx2) (st_ok hv (fun v hv => okV_mono h1 h2 (hok v hv))) (show top0 ≤ gTop μ.1 + 1 by omega) (fun k hk => by rw [hx2 k (by omega)]; exact hx k hk) (show c0 ≤ gCl μ.1 + 1 by omega) (show s0 ≤ gSl μ.1 + n by omega)
  · rw [List.map_cons, map_ext hx2 hok] at kk2
    rw [show eTo E (va_up ad (gTop μ.1).toNat q) (mR t (gTop μ.1)) = .ref q by rw [show eTo E (va_up ad (gTop μ.1).toNat q) (mR t (gTop μ.1)) = .ref (va_up ad (gTop μ.1).toNat q (gTop μ.1).toNat) from toV_ref ht4 h00]; exact congrArg Value.ref (if_pos rfl)] at kk2
    rw [show gCl (gNew μ.1 t n, cNew μ.1 μ.2 t).1 - c0 = gCl μ.1 - c0 + 1 from (show gCl μ.1 + 1 - c0 = gCl μ.1 - c0 + 1 by omega), show gSl (gNew μ.1 t n, cNew μ.1 μ.2 t).1 - s0 = gSl μ.1 - s0 + n from (show gSl μ.1 + n - s0 = gSl μ.1 - s0 + n by omega)] at kk2
    exact kk2
  · show (if (-1 : Int) = gTop μ.1 then (n : Int) else gLn μ.1 (-1)) = _
    rw [if_neg (by omega)]
    exact hR.2.2.2.1
  · show (if (-1 : Int) = gTop μ.1 then dv t i else μ.2 (-1) i) = _
    rw [if_neg (by omega)]
    exact hR.2.2.2.2 i i0 i1
theorem dv_V {tf : Nat → FieldType} {b : Nat} {adK ad : Nat → Nat} {j : Nat} (hj : j < (fty t).length) (hf : ftR (tf j) ((fty t).getD j 0)) : defaultValue (tf j) = vp_V (fldsV b adK ad (fty t) (dv t)) j := by
  unfold vp_V
  rw [List.getD_eq_getElem?_getD, flds_at hj]
  simp only [Option.getD_some]
  unfold dv
  rw [Int.toNat_natCast]
  generalize (fty t).getD j 0 = f at hf
  match f, hf with
  | 0, hf => rw [show tf j = .int from hf]; rfl
  | 1, hf => rw [show tf j = .long from hf]; rfl
  | 2, hf => rw [show tf j = .boolean from hf]; rfl
  | f + 4, hf =>
    rw [if_pos (by omega)]
    rcases (show (∃ n, tf j = .object n) ∨ ∃ t, tf j = .array t from hf) with ⟨n, h⟩ | ⟨n, h⟩ <;> rw [h] <;> rfl
theorem ws_new (F : FX E p R s mid c bytes nL (own o) c0 s0 CM SM) (hd : decode bytes pc = .ok (.new k, 3)) (h10 : 10 ≤ t) (h19 : t < 19) (hl : ∃ C T N, vwCl[t - 10]? = some (C, T, N) ∧ Cond.classLink (own o) k C ∈ lw_tbl) (hCM : gCl μ.1 + 1 ≤ CM) (hSM : gSl μ.1 + (fty t).length ≤ SM)
    (kk : WS E p l e R s mid args below meth c nL c0 s0 top0 ad0 Q (pc + 3) ls (mR t (gTop μ.1) :: st) (gNew μ.1 t (fty t).length, cNew μ.1 μ.2 t)) : WS E p l e R s mid args below meth c nL c0 s0 top0 ad0 Q pc ls st μ := by
  intro H locs lsR ad hS hR hL hok ht hx hc hs
  obtain ⟨hx0, hb, -, hown, hC, hc1, hs1⟩ := F
  obtain ⟨C, T, N, f5, f6⟩ := hl
  obtain ⟨C', T', N', tf, g1, g2, g3, g4, g5, g6, g7, g8, g9, g10⟩ := cls_ok h10 h19
  obtain ⟨rfl, rfl, rfl⟩ : C' = C ∧ T' = T ∧ N' = N := by have := g1.symm.trans f5; simp only [Option.some.injEq, Prod.mk.injEq] at this; exact this
  have hts : ∀ w ∈ u_ws C' T' N', w.before args s = true := fun w hw => hC.word (g3 w hw) (g4 w hw).1 (g4 w hw).2
  have hb1 := hC.2.2.2.2.2.2.1
  refine va_new (D := eD E) (ci := t - 10) (Ts := u_ws C' T' N') hx0 hb hts (fun w h => h) tf g5 hown (hC.word f6 rfl rfl) (hC.word g9 rfl rfl) (hC.word g8 rfl rfl) hC.1 hR.1 hR.2.1 hS (fun q hq => show eBase E ≤ q by omega) g1 (fs := fldsV (eB E) (eK E) (va_up ad (gTop μ.1).toNat 0) (fty t) (dv t)) (fun j hj => dv_V (by omega) (g7 j hj)) (by omega) (by omega) hd (fun q H1 hP1 hD1 hS1 => ?_)
  have e1 : ∀ ad' : Nat → Nat, fldsV (eB E) (eK E) (va_up ad (gTop μ.1).toNat 0) (fty t) (dv t) = fldsV (eB E) (eK E) ad' (fty t) (dv t) := by
    intro ad'
    unfold fldsV
    apply List.map_congr_left
    intro j _
    unfold dv
    rw [Int.toNat_natCast]
    generalize (fty t).getD j 0 = f
    split
    · rename_i hf
      obtain ⟨u, rfl⟩ : ∃ u, f = u + 4 := ⟨f - 4, by omega⟩
      rfl
    · rename_i hf
      rcases (show f = 0 ∨ f = 1 ∨ f = 2 ∨ f = 3 by omega) with rfl | rfl | rfl | rfl <;> rfl
  rw [e1 (va_up ad (gTop μ.1).toNat q), ← elt_obj (cA := eA E) (n := ((fty t).length : Nat)) h10] at hP1 hD1
  have := new_go (Or.inr ⟨H, hR⟩) (Or.inr ⟨⟨h10, h19⟩, rfl⟩) hP1 hD1 hS1 hL hok ht hx hc hs (by omega) kk
  rw [← g2] at this
  exact this
theorem arr_of {cB : ClassId} {ty : FieldType} (hC : Ctx E s s.heap) {i : Nat} (hi : i < 4) (hty : ∃ z, (tysA (eA E))[i]? = some (z, ty)) (hK : va_K (eD E) vwCl (tysA (eA E) ++ [(cB, ty)]) s) (hp : ty = .int ∨ ty = .long ∨ ty = .byte ∨ ty = .boolean) : cB = eA E (i + 4) := by
  have h := (hK.2 4 (cB, ty) (by rfl)).2
  have h1 : s.vm.findClass ("[" ++ ty.toString) = some cB := by rcases hp with rfl | rfl | rfl | rfl <;> exact h
  obtain ⟨ty', e1, e2⟩ := hC.2.2.2.2.2.2.2.1 (i + 4) (by omega) (by omega)
  obtain ⟨z, hz⟩ := hty
  rw [show i + 4 - 4 = i by omega, hz] at e2
  cases e2
  exact Option.some.inj (h1.symm.trans e1)
theorem ws_newarray (F : FX E p R s mid c bytes nL (own o) c0 s0 CM SM) {z : ArrayType} (hd : decode bytes pc = .ok (.newarray z, 2)) (hz : 4 ≤ atyp z) (hn : 0 ≤ x ∧ x ≤ 100000) (hCM : gCl μ.1 + 1 ≤ CM) (hSM : gSl μ.1 + x.toNat ≤ SM)
    (kk : WS E p l e R s mid args below meth c nL c0 s0 top0 ad0 Q (pc + 2) ls (mR (atyp z) (gTop μ.1) :: st) (gNew μ.1 (atyp z) x.toNat, cNew μ.1 μ.2 (atyp z))) : WS E p l e R s mid args below meth c nL c0 s0 top0 ad0 Q pc ls (mI x :: st) μ := by
  intro H locs lsR ad hS hR hL hok ht hx hc hs
  obtain ⟨hx0, hb, -, hown, hC, hc1, hs1⟩ := F
  have hb1 := hC.2.2.2.2.2.2.1
  have hx1 := st_hd hok
  have hneg : ¬ Int32.ofInt x < 0 := fun q => by have := (oI_lt hx1 i32_0).mp q; omega
  have hA : ∀ q : Nat, s.heap.size ≤ q → eS E q := fun q hq => show eBase E ≤ q by omega
  have hcl := oI_clamp hx1
  have key : ∀ (ty : FieldType) (i : Nat), newarray.typeOf z = ty → i < 4 → atyp z = i + 4 → (∃ q, (tysA (eA E))[i]? = some (q, ty)) → (ty = .int ∨ ty = .long ∨ ty = .byte ∨ ty = .boolean) → Cond.arrayClass ty ∈ lw_tbl → (∀ cB : ClassId, vp_cell cB (x.toNat, arrF (atyp z) (dv (atyp z))) = arrV cB x.toNat (fun _ => defaultValue ty)) → x.toNat * componentBytes ty ≤ 536870912 →
      W p l e R s mid args below meth c H locs (gCl μ.1 - c0) (gSl μ.1 - s0) Q (F0 mid pc lsR ((mI x :: st).map (eTo E ad))) := by
    intro ty i e1 e2 e3 e4 e5 e6 e7 e8
    refine va_newa (D := eD E) hx0 hb (atype := z) (by rw [e1]; exact word_at (State.WarmedH.refl s) (Or.inr ⟨_, rfl⟩) (hC.2.1 _ e6 rfl)) e1 hC.1 hR.1 hR.2.1 hS hA (a0 := (x.toNat, arrF (atyp z) (dv (atyp z)))) e7 hneg hcl e8 (by omega) (by omega) hd (fun q cB H1 hK1 hP1 hD1 hS1 => ?_)
    have e9 : cB = eA E (atyp z) := by rw [e3]; exact arr_of hC e2 e4 hK1 e5
    subst e9
    have e10 : (.inl (eA E (atyp z), x.toNat, arrF (atyp z) (dv (atyp z))) : va_E) = eltV (eA E) (eB E) (eK E) (va_up ad (gTop μ.1).toNat q) (atyp z) (x.toNat : Nat) (dv (atyp z)) := by
      unfold eltV
      rw [if_pos (by omega)]
      rfl
    rw [e10] at hP1 hD1
    exact new_go (Or.inr ⟨H, hR⟩) (Or.inl ⟨by omega, by omega, by omega⟩) hP1 hD1 hS1 hL (st_tl hok) ht hx hc hs hz kk
  have hdv : ∀ t, t < 10 → dv t = fun _ => 0 := fun t h => funext fun j => dv_arr h j
  cases z with
  | int => exact key .int 0 rfl (by omega) rfl ⟨_, rfl⟩ (by simp) (mt_1 (List.mem_of_getElem? (i := 62) rfl)) (fun cB => by rw [hdv _ (by decide)]; rfl) (by show x.toNat * 4 ≤ _; omega)
  | long => exact key .long 1 rfl (by omega) rfl ⟨_, rfl⟩ (by simp) (mt_2 (List.mem_of_getElem? (i := 13) rfl)) (fun cB => by rw [hdv _ (by decide)]; rfl) (by show x.toNat * 8 ≤ _; omega)
  | byte => exact key .byte 2 rfl (by omega) rfl ⟨_, rfl⟩ (by simp) (mt_2 (List.mem_of_getElem? (i := 14) rfl)) (fun cB => by rw [hdv _ (by decide)]; rfl) (by show x.toNat * 1 ≤ _; omega)
  | boolean => exact key .boolean 3 rfl (by omega) rfl ⟨_, rfl⟩ (by simp) (mt_1 (List.mem_of_getElem? (i := 63) rfl)) (fun cB => by rw [hdv _ (by decide)]; rfl) (by show x.toNat * 1 ≤ _; omega)
  | char => exact absurd hz (by decide)
  | float => exact absurd hz (by decide)
  | double => exact absurd hz (by decide)
  | short => exact absurd hz (by decide)
end Heap4
