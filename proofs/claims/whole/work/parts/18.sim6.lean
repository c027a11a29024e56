theorem wd_nat : Cond.native arraycopyName ∈ lw_tbl := mt_5 (List.mem_of_getElem? (i := 99) rfl)
theorem wd_sta : Cond.static arraycopyName ∈ lw_tbl := mt_5 (List.mem_of_getElem? (i := 98) rfl)
theorem wd_ini : Cond.initialized "java/lang/System" ∈ lw_tbl := mt_1 (List.mem_of_getElem? (i := 20) rfl)
theorem wd_oin : Cond.instanceMethod Lib.objectInit ∈ lw_tbl := mt_1 (List.mem_of_getElem? (i := 31) rfl)
theorem wd_oco : Cond.code Lib.objectInit ⟨#[0xb1]⟩ 1 none ∈ lw_tbl := mt_1 (List.mem_of_getElem? (i := 32) rfl)
section Heap5
variable {E : ENV} {p : Program} {l : Launch} {e : Env} {R : Room} {s : State} {mid : MethodId} {args : Array Value} {below : List Frame} {meth : Method} {c : Code} {Q : State → Prop} {bytes : ByteArray} {nL o : Nat} {c0 s0 CM SM : Nat} {top0 : Int} {ad0 : Nat → Nat}
variable {pc : Nat} {ls st : List MV} {μ : MM} {x y a b i j n : Int} {t k en : Nat}
theorem cat_le (v : MV) {ad : Nat → Nat} : (eTo E ad v).category ≤ 2 := by
  rcases lv_cat (eTo E ad v) with h | h <;> omega
theorem cat_sum {ad : Nat → Nat} : ∀ st : List MV, ((st.map (eTo E ad)).map fun v => v.category).sum ≤ 2 * st.length
  | [] => Nat.le_refl 0
  | v :: st => by
    have h1 := cat_sum (ad := ad) st
    have h2 := cat_le (E := E) (ad := ad) v
    simp only [List.map_cons, List.sum_cons, List.length_cons]
    omega
theorem cpy_i (f g : Int → Int) {i j n : Int} (hi : 0 ≤ i) (hj : 0 ≤ j) (hn : 0 ≤ n) : va_cpy (fun k : Nat => Int32.ofInt (f k)) (fun k : Nat => Int32.ofInt (g k)) i.toNat j.toNat n.toNat = fun k : Nat => Int32.ofInt ((fun j' => if j ≤ j' ∧ j' < j + n then f (i + (j' - j)) else g j') (k : Int)) := by
  funext k
  unfold va_cpy
  by_cases h : j.toNat ≤ k ∧ k < j.toNat + n.toNat
  · rw [if_pos h]; simp only; rw [if_pos (by omega)]; congr 2; omega
  · rw [if_neg h]; simp only; rw [if_neg (by omega)]
theorem cpy_l (f g : Int → Int) {i j n : Int} (hi : 0 ≤ i) (hj : 0 ≤ j) (hn : 0 ≤ n) : va_cpy (fun k : Nat => Int64.ofInt (f k)) (fun k : Nat => Int64.ofInt (g k)) i.toNat j.toNat n.toNat = fun k : Nat => Int64.ofInt ((fun j' => if j ≤ j' ∧ j' < j + n then f (i + (j' - j)) else g j') (k : Int)) := by
  funext k
  unfold va_cpy
  by_cases h : j.toNat ≤ k ∧ k < j.toNat + n.toNat
  · rw [if_pos h]; simp only; rw [if_pos (by omega)]; congr 2; omega
  · rw [if_neg h]; simp only; rw [if_neg (by omega)]
theorem ws_copy (F : FX E p R s mid c bytes nL (own o) c0 s0 CM SM) (hf1 : 1 ≤ R.frames) (hl1 : 200 ≤ R.locals) (hd : decode bytes pc = .ok (.invokestatic k, 3)) (hlink : Cond.methodLink (own o) k arraycopyName ∈ lw_tbl) (ht9 : t = 4 ∨ t = 5) (hrl : st.length ≤ 3)
    (hh : 0 ≤ a ∧ 0 ≤ b ∧ 0 ≤ i ∧ 0 ≤ j ∧ 0 ≤ n ∧ i + n ≤ gLn μ.1 a ∧ j + n ≤ gLn μ.1 b)
    (kk : WS E p l e R s mid args below meth c nL c0 s0 top0 ad0 Q (pc + 3) ls st (μ.1, cCopy μ.2 a i b j n)) : WS E p l e R s mid args below meth c nL c0 s0 top0 ad0 Q pc ls (mI n :: mI j :: mR t b :: mI i :: mR t a :: st) μ := by
  intro H locs lsR ad hS hR hL hok ht hx hc hs
  obtain ⟨hx0, hb, hml, hown, hC, -, -⟩ := F
  obtain ⟨h1, h2, h3, h4, h5, h6, h7⟩ := hh
  have qn := st_hd hok
  have qj := st_hd (st_tl hok)
  have qb := st_hd (st_tl (st_tl hok))
  have qi := st_hd (st_tl (st_tl (st_tl hok)))
  have qa := st_hd (st_tl (st_tl (st_tl (st_tl hok))))
  have qr := st_tl (st_tl (st_tl (st_tl (st_tl hok))))
  obtain ⟨o1, o2⟩ := okV_ref qa (by omega) h1
  obtain ⟨o3, o4⟩ := okV_ref qb (by omega) h2
  have hwa := ws_at (cA := eA E) (b := eB E) (adK := eK E) (ad := ad) h1 o1
  have hwb := ws_at (cA := eA E) (b := eB E) (adK := eK E) (ad := ad) h2 o3
  rw [o2] at hwa
  rw [o4] at hwb
  have hsum := cat_sum (E := E) (ad := ad) st
  have hsz : c.maxLocals = lsR.size := by rw [hml, hL.1]
  have hloc : ((st.map (eTo E ad)).map fun v => v.category).sum + (nativeFrameWords "java/lang/System" "arraycopy" 5 + 11) ≤ R.locals := by
    have : nativeFrameWords "java/lang/System" "arraycopy" 5 = 7 := by decide +kernel
    omega
  have neg : ∀ {z : Int}, i32 z → 0 ≤ z → ¬ Int32.ofInt z < 0 := fun hz h0 q => by have := (oI_lt hz i32_0).mp q; omega
  have hM2 : okM (μ.1, cCopy μ.2 a i b j n) := by
    refine ⟨hR.2.2.1.1, fun a' z0 z1 => ⟨(hR.2.2.1.2 a' z0 z1).1, fun j' g0 g1 => ?_⟩⟩
    show okS _ _ _ (cCopy μ.2 a i b j n a' j')
    unfold cCopy
    split
    · rename_i q
      have := (hR.2.2.1.2 a h1 o1).2 (i + (j' - j)) (by omega) (by omega)
      rw [q.1]
      rw [o2] at this
      show okS _ _ (srt (gTy μ.1 b) j') _
      rw [o4]
      rcases ht9 with rfl | rfl <;> exact this
    · exact (hR.2.2.1.2 a' z0 z1).2 j' g0 g1
  have hscr : ∀ i' : Int, 0 ≤ i' → i' < eL E → cCopy μ.2 a i b j n (-1) i' = (eX E i'.toNat).toInt := by
    intro i' g0 g1
    unfold cCopy
    rw [if_neg (by omega)]
    exact hR.2.2.2.2 i' g0 g1
  rw [List.map_cons, List.map_cons, List.map_cons, List.map_cons, List.map_cons, show eTo E ad (mR t a) = .ref (ad a.toNat) from toV_ref (by omega) h1, show eTo E ad (mR t b) = .ref (ad b.toNat) from toV_ref (by omega) h2]
  rcases ht9 with rfl | rfl
  · rw [elt_i (Or.inl rfl)] at hwa hwb
    refine va_copyi hx0 hb hsz hown (hC.word hlink rfl rfl) (hC.word wd_nat rfl rfl) (hC.word wd_sta rfl rfl) (hC.word wd_ini rfl rfl) hC.1 hR.1 hR.2.1 hS a.toNat b.toNat 0 0 hwa hwb rfl rfl rfl (neg qi h3) (neg qj h4) (neg qn h5) (by rw [oI_clamp qi, oI_clamp qn]; omega) (by rw [oI_clamp qj, oI_clamp qn]; omega) (fun _ _ => rfl) hf1 hloc hd (fun H1 locs1 hP1 hD1 hS1 => ?_)
    rw [oI_clamp qi, oI_clamp qj, oI_clamp qn, cpy_i _ _ h3 h4 h5] at hP1 hD1
    rw [ws_set (G := μ.1) (c := μ.2) (c' := cCopy μ.2 a i b j n) h2 o3 (by rw [o4, elt_i (Or.inl rfl)]; congr 4; funext k; congr 1; unfold cCopy; by_cases z : j ≤ (k : Int) ∧ (k : Int) < j + n <;> simp [z]) (fun k hk => by funext j'; unfold cCopy; rw [if_neg (fun q => hk q.1)])] at hP1 hD1
    exact kk H1 locs1 lsR ad hS1 ⟨hP1, hD1, hM2, hR.2.2.2.1, hscr⟩ hL qr ht hx hc hs
  · rw [elt_l] at hwa hwb
    refine va_copyl hx0 hb hsz hown (hC.word hlink rfl rfl) (hC.word wd_nat rfl rfl) (hC.word wd_sta rfl rfl) (hC.word wd_ini rfl rfl) hC.1 hR.1 hR.2.1 hS a.toNat b.toNat 1 1 hwa hwb rfl rfl rfl (neg qi h3) (neg qj h4) (neg qn h5) (by rw [oI_clamp qi, oI_clamp qn]; omega) (by rw [oI_clamp qj, oI_clamp qn]; omega) (fun _ _ => rfl) hf1 hloc hd (fun H1 locs1 hP1 hD1 hS1 => ?_)
    rw [oI_clamp qi, oI_clamp qj, oI_clamp qn, cpy_l _ _ h3 h4 h5] at hP1 hD1
    rw [ws_set (G := μ.1) (c := μ.2) (c' := cCopy μ.2 a i b j n) h2 o3 (by rw [o4, elt_l]; congr 5; funext k; congr 1; unfold cCopy; by_cases z : j ≤ (k : Int) ∧ (k : Int) < j + n <;> simp [z]) (fun k hk => by funext j'; unfold cCopy; rw [if_neg (fun q => hk q.1)])] at hP1 hD1
    exact kk H1 locs1 lsR ad hS1 ⟨hP1, hD1, hM2, hR.2.2.2.1, hscr⟩ hL qr ht hx hc hs
theorem ws_objInit (F : FX E p R s mid c bytes nL (own o) c0 s0 CM SM) (hf1 : 1 ≤ R.frames) (hl1 : 200 ≤ R.locals) (hd : decode bytes pc = .ok (.invokespecial k, 3)) (hlink : Cond.methodLink (own o) k Lib.objectInit ∈ lw_tbl) (ht9 : 4 ≤ t) (ha : 0 ≤ a) (hrl : st.length ≤ 4)
    (kk : WS E p l e R s mid args below meth c nL c0 s0 top0 ad0 Q (pc + 3) ls st μ) : WS E p l e R s mid args below meth c nL c0 s0 top0 ad0 Q pc ls (mR t a :: st) μ := by
  intro H locs lsR ad hS hR hL hok ht hx hc hs
  obtain ⟨hx0, hb, hml, hown, hC, -, -⟩ := F
  have hsum := cat_sum (E := E) (ad := ad) st
  rw [List.map_cons, show eTo E ad (mR t a) = .ref (ad a.toNat) from toV_ref (by omega) ha]
  refine W.objInit hx0 hb hown (hC.word hlink rfl rfl) (hC.word wd_oin rfl rfl) (hC.word wd_oco rfl rfl) rfl (by rw [hml]; exact hL.1) rfl hd hf1 (by show 2 * 0 + _ + 12 ≤ _; omega) ?_
  exact kk H locs lsR ad hS hR hL (st_tl hok) ht hx hc hs
theorem ws_ldc (F : FX E p R s mid c bytes nL (own o) c0 s0 CM SM) (hd : decode bytes pc = .ok (.ldc k, 2)) (hl : Cond.constant (own o) k (Int32.ofInt x) ∈ lw_tbl) (hx9 : i32 x)
    (kk : WS E p l e R s mid args below meth c nL c0 s0 top0 ad0 Q (pc + 2) ls (mI x :: st) μ) : WS E p l e R s mid args below meth c nL c0 s0 top0 ad0 Q pc ls st μ := by
  intro H locs lsR ad hS hR hL hok ht hx hc hs
  obtain ⟨hx0, hb, hml, hown, hC, -, -⟩ := F
  exact lv_ldc hx0 hb hown (hC.word hl rfl rfl) hd (kk H locs lsR ad hS hR hL (st_ok hx9 hok) ht hx hc hs)
theorem ws_ldcw (F : FX E p R s mid c bytes nL (own o) c0 s0 CM SM) (hd : decode bytes pc = .ok (.ldc_w k, 3)) (hl : Cond.constant (own o) k (Int32.ofInt x) ∈ lw_tbl) (hx9 : i32 x)
    (kk : WS E p l e R s mid args below meth c nL c0 s0 top0 ad0 Q (pc + 3) ls (mI x :: st) μ) : WS E p l e R s mid args below meth c nL c0 s0 top0 ad0 Q pc ls st μ := by
  intro H locs lsR ad hS hR hL hok ht hx hc hs
  obtain ⟨hx0, hb, hml, hown, hC, -, -⟩ := F
  exact lv_ldcw hx0 hb hown (hC.word hl rfl rfl) hd (kk H locs lsR ad hS hR hL (st_ok hx9 hok) ht hx hc hs)
theorem ws_ldc2 (F : FX E p R s mid c bytes nL (own o) c0 s0 CM SM) (hd : decode bytes pc = .ok (.ldc2_w k, 3)) (hl : Cond.constantLong (own o) k (Int64.ofInt x) ∈ lw_tbl) (hx9 : i64 x)
    (kk : WS E p l e R s mid args below meth c nL c0 s0 top0 ad0 Q (pc + 3) ls (mL x :: st) μ) : WS E p l e R s mid args below meth c nL c0 s0 top0 ad0 Q pc ls st μ := by
  intro H locs lsR ad hS hR hL hok ht hx hc hs
  obtain ⟨hx0, hb, hml, hown, hC, -, -⟩ := F
  exact lv_ldc2 hx0 hb hown (hC.word hl rfl rfl) hd (kk H locs lsR ad hS hR hL (st_ok hx9 hok) ht hx hc hs)
theorem ldcw_S {T : State} {locs : List Loc} {cells slots : Nat} (X : Stand p l e R s mid args below meth c T locs cells slots) (hexec : p.tables.exec = Jvm.exec) {own text : String} {index : Nat} {a : Addr} (hown : s.vm.findClass own = some mid.cls)
    (hconst : (Cond.stringRef own index text).before args s = true) (hev : (Term.string own index).eval args s none [] s = some (.ref a)) {g : JFrame} (hg : g.method = mid) (hdg : decode c.code g.pc = .ok (.ldc_w index, 3)) :
    ∀ target, Steps p.tables e below (T.setTop { g with pc := g.pc + 3, stack := .ref a :: g.stack }) target → Steps p.tables e below (T.setTop g) target := by
  obtain ⟨k, cf, i, a', hk, hcf, hcp, -, hr, hev'⟩ := Cond.stringRef_spec hown hconst
  cases hev.symm.trans hev'
  obtain ⟨k', hk', he⟩ := X.warmed.alike.2.2 _ _ hk
  have hr' : k'.resolved[index]? = some (some (.string a)) := by
    rcases X.warmed.entry hk hk' index with h | ⟨h, -⟩
    · rw [h]; exact hr
    · rw [hr] at h; cases h
  intro target hrest
  subst hg
  jvm_step X.here [hexec, hdg, ldc_w.wp_string (e := e) (s := T) (f := g) X.here.top hk' (by rw [he]; exact hcf) hcp hr']
  exact hrest
theorem ws_ldcS (F : FX E p R s mid c bytes nL (own o) c0 s0 CM SM) (hd : decode bytes pc = .ok (.ldc k, 2)) {tx : String} {q : Nat} (hl : (own o, k, tx, q) ∈ jsR) (hq : q < 17)
    (kk : WS E p l e R s mid args below meth c nL c0 s0 top0 ad0 Q (pc + 2) ls (mR 2 (q : Nat) :: st) μ) : WS E p l e R s mid args below meth c nL c0 s0 top0 ad0 Q pc ls st μ := by
  intro H locs lsR ad hS hR hL hok ht hx hc hs
  obtain ⟨hx0, hb, hml, hown, hC, -, -⟩ := F
  have kk2 := kk H locs lsR ad hS hR hL (st_ok (show 0 ≤ (q : Int) ∧ (q : Int) < 17 by omega) hok) ht hx hc hs
  rw [List.map_cons, show eTo E ad (mR 2 (q : Nat)) = .ref (eK E q) by simp only [eTo, toV]; rw [if_neg (by omega)]; rfl] at kk2
  exact va_ldcS hx0 hb hown (hC.2.2.1 _ hl) hd kk2
theorem ws_ldcwS (F : FX E p R s mid c bytes nL (own o) c0 s0 CM SM) (hd : decode bytes pc = .ok (.ldc_w k, 3)) {tx : String} {q : Nat} (hl : (own o, k, tx, q) ∈ jsR) (hq : q < 17)
    (kk : WS E p l e R s mid args below meth c nL c0 s0 top0 ad0 Q (pc + 3) ls (mR 2 (q : Nat) :: st) μ) : WS E p l e R s mid args below meth c nL c0 s0 top0 ad0 Q pc ls st μ := by
  intro H locs lsR ad hS hR hL hok ht hx hc hs
  obtain ⟨hx0, hb, hml, hown, hC, -, -⟩ := F
  have kk2 := kk H locs lsR ad hS hR hL (st_ok (show 0 ≤ (q : Int) ∧ (q : Int) < 17 by omega) hok) ht hx hc hs
  rw [List.map_cons, show eTo E ad (mR 2 (q : Nat)) = .ref (eK E q) by simp only [eTo, toV]; rw [if_neg (by omega)]; rfl] at kk2
  intro T hT X
  obtain ⟨t, a1, b1⟩ := kk2 T hT X
  have hZ := hC.2.2.1 _ hl
  refine ⟨t, ldcw_S X hx0 hown (text := tx) (a := eK E q) hZ.1 hZ.2 (g := F0 mid pc lsR (st.map (eTo E ad))) rfl (by rw [hb]; exact hd) t a1, b1⟩
theorem ws_tabIn (F : FX E p R s mid c bytes nL (own o) c0 s0 CM SM) {d' lo hi : Int} {os : Array Int} {len tgt : Nat} {off : Int} (hd : decode bytes pc = .ok (.tableswitch d' lo hi os, len)) (h1 : lo ≤ x) (h2 : x ≤ hi) (ho : os[(x - lo).toNat]? = some off) (ht9 : (pc : Int) + off = tgt)
    (kk : WS E p l e R s mid args below meth c nL c0 s0 top0 ad0 Q tgt ls st μ) : WS E p l e R s mid args below meth c nL c0 s0 top0 ad0 Q pc ls (mI x :: st) μ := by
  intro H locs lsR ad hS hR hL hok ht hx hc hs
  have hx1 := st_hd hok
  have e1 := oI_to hx1
  exact lv_tableIn F.1 F.2.1 hd (by rw [e1]; omega) (by rw [e1]; omega) (by rw [e1]; exact ho) ht9 (kk H locs lsR ad hS hR hL (st_tl hok) ht hx hc hs)
theorem ws_tabOut (F : FX E p R s mid c bytes nL (own o) c0 s0 CM SM) {d' lo hi : Int} {os : Array Int} {len tgt : Nat} (hd : decode bytes pc = .ok (.tableswitch d' lo hi os, len)) (h1 : x < lo ∨ hi < x) (ht9 : (pc : Int) + d' = tgt)
    (kk : WS E p l e R s mid args below meth c nL c0 s0 top0 ad0 Q tgt ls st μ) : WS E p l e R s mid args below meth c nL c0 s0 top0 ad0 Q pc ls (mI x :: st) μ := by
  intro H locs lsR ad hS hR hL hok ht hx hc hs
  have hx1 := st_hd hok
  have e1 := oI_to hx1
  exact lv_tableOut F.1 F.2.1 hd (by rw [e1]; exact h1) ht9 (kk H locs lsR ad hS hR hL (st_tl hok) ht hx hc hs)
end Heap5
