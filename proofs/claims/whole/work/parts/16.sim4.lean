section Heap3
variable {E : ENV} {p : Program} {l : Launch} {e : Env} {R : Room} {s : State} {mid : MethodId} {args : Array Value} {below : List Frame} {meth : Method} {c : Code} {Q : State → Prop} {bytes : ByteArray} {nL o : Nat} {c0 s0 CM SM : Nat} {top0 : Int} {ad0 : Nat → Nat}
variable {pc : Nat} {ls st : List MV} {μ : MM} {x y a i : Int} {t k en : Nat}
theorem arr_ln (hM : okM μ) (ha : 0 ≤ a) (h1 : a < gTop μ.1) (ht : gTy μ.1 a < 10) : 0 ≤ gLn μ.1 a ∧ gLn μ.1 a ≤ 100000 := by
  rcases (hM.2 a ha h1).1 with q | q
  · exact q.2
  · omega
theorem up_scr {G : MG} {c : MC} {a j v : Int} {L : Nat} {xs : Nat → Int32} (ha : 0 ≤ a) (h : ∀ i : Int, 0 ≤ i → i < L → c (-1) i = (xs i.toNat).toInt) : ∀ i : Int, 0 ≤ i → i < L → up c a j v (-1) i = (xs i.toNat).toInt := by
  intro i h0 h1
  unfold up
  rw [if_neg (by omega)]
  exact h i h0 h1
theorem ws_alen (F : FX E p R s mid c bytes nL (own o) c0 s0 CM SM) (hd : decode bytes pc = .ok (.arraylength, 1)) (ht9 : t = 4 ∨ t = 5 ∨ t = 6 ∨ t = 7) (ha : 0 ≤ a)
    (kk : WS E p l e R s mid args below meth c nL c0 s0 top0 ad0 Q (pc + 1) ls (mI (gLn μ.1 a) :: st) μ) : WS E p l e R s mid args below meth c nL c0 s0 top0 ad0 Q pc ls (mR t a :: st) μ := by
  intro H locs lsR ad hS hR hL hok ht hx hc hs
  obtain ⟨hx0, hb, -, hown, hC, -, -⟩ := F
  obtain ⟨o1, o2⟩ := okV_ref (st_hd hok) (by omega) ha
  obtain ⟨z1, z2⟩ := arr_ln hR.2.2.1 ha o1 (by omega)
  have hw := ws_at (cA := eA E) (b := eB E) (adK := eK E) (ad := ad) ha o1
  rw [o2] at hw
  have kk2 := kk H locs lsR ad hS hR hL (st_ok (show i32 _ by unfold i32; omega) (st_tl hok)) ht hx hc hs
  rw [List.map_cons, show eTo E ad (mR t a) = .ref (ad a.toNat) from toV_ref (by omega) ha]
  have hv : Int32.ofNat (gLn μ.1 a).toNat = Int32.ofInt (gLn μ.1 a) := by rw [← Int32.ofInt_eq_ofNat, Int.toNat_of_nonneg z1]
  rcases ht9 with rfl | rfl | rfl | rfl
  · exact va_alen hx0 hb hC.1 hR.1 a.toNat 0 hw rfl hv hd kk2
  · exact va_alen hx0 hb hC.1 hR.1 a.toNat 1 hw rfl hv hd kk2
  · exact va_alen hx0 hb hC.1 hR.1 a.toNat 2 hw rfl hv hd kk2
  · exact va_alen hx0 hb hC.1 hR.1 a.toNat 3 hw rfl hv hd kk2
theorem ws_slen (F : FX E p R s mid c bytes nL (own o) c0 s0 CM SM) (hd : decode bytes pc = .ok (.arraylength, 1)) (ha : 0 ≤ a)
    (kk : WS E p l e R s mid args below meth c nL c0 s0 top0 ad0 Q (pc + 1) ls (mI (gLn μ.1 (-1)) :: st) μ) : WS E p l e R s mid args below meth c nL c0 s0 top0 ad0 Q pc ls (mR 1 a :: st) μ := by
  intro H locs lsR ad hS hR hL hok ht hx hc hs
  obtain ⟨hx0, hb, -, hown, hC, -, -⟩ := F
  have hl := hC.2.2.2.2.2.2.2.2
  have kk2 := kk H locs lsR ad hS hR hL (st_ok (show i32 _ by rw [hR.2.2.2.1]; unfold i32; omega) (st_tl hok)) ht hx hc hs
  rw [List.map_cons, show eTo E ad (mR 1 a) = .ref (eB E) by simp only [eTo, toV]; rw [if_neg (by omega)]; rfl]
  rw [List.map_cons, show eTo E ad (mI (gLn μ.1 (-1))) = .int (Int32.ofNat (eL E)) by rw [hR.2.2.2.1]; exact congrArg Value.int Int32.ofInt_eq_ofNat] at kk2
  exact va_slen hx0 hb hC.2.2.2.2.1 (by have := hC.2.2.2.2.2.1; have := hC.2.2.2.2.2.2.1; omega) (by have := hC.2.2.2.2.2.1; show ¬ _ ≤ _; omega) hS hd kk2
theorem ws_sald (F : FX E p R s mid c bytes nL (own o) c0 s0 CM SM) (hd : decode bytes pc = .ok (.iaload, 1)) (ha : 0 ≤ i ∧ i < gLn μ.1 (-1)) (ha0 : 0 ≤ a)
    (kk : WS E p l e R s mid args below meth c nL c0 s0 top0 ad0 Q (pc + 1) ls (mI (μ.2 (-1) i) :: st) μ) : WS E p l e R s mid args below meth c nL c0 s0 top0 ad0 Q pc ls (mI i :: mR 1 a :: st) μ := by
  intro H locs lsR ad hS hR hL hok ht hx hc hs
  obtain ⟨hx0, hb, -, hown, hC, -, -⟩ := F
  have hl := hC.2.2.2.2.2.2.2.2
  have hi := st_hd hok
  have hln := hR.2.2.2.1
  have hv := hR.2.2.2.2 i ha.1 (by rw [← hln]; exact ha.2)
  have kk2 := kk H locs lsR ad hS hR hL (st_ok (show i32 _ by rw [hv]; exact i32_to _) (st_tl (st_tl hok))) ht hx hc hs
  rw [List.map_cons, List.map_cons, show eTo E ad (mR 1 a) = .ref (eB E) by simp only [eTo, toV]; rw [if_neg (by omega)]; rfl]
  rw [List.map_cons, show eTo E ad (mI (μ.2 (-1) i)) = .int (eX E (Int32.ofInt i).toNatClampNeg) by rw [hv, oI_clamp hi]; exact congrArg Value.int (Int32.ofInt_toInt _)] at kk2
  exact va_sld hx0 hb hC.2.2.2.2.1 (by have := hC.2.2.2.2.2.1; have := hC.2.2.2.2.2.2.1; omega) (by have := hC.2.2.2.2.2.1; show ¬ _ ≤ _; omega) hS (oI_in hi ha.1 (by rw [← hln]; exact ha.2)) hd kk2
theorem ws_iald (F : FX E p R s mid c bytes nL (own o) c0 s0 CM SM) (hd : decode bytes pc = .ok (.iaload, 1)) (ha : 0 ≤ a ∧ 0 ≤ i ∧ i < gLn μ.1 a)
    (kk : WS E p l e R s mid args below meth c nL c0 s0 top0 ad0 Q (pc + 1) ls (mI (μ.2 a i) :: st) μ) : WS E p l e R s mid args below meth c nL c0 s0 top0 ad0 Q pc ls (mI i :: mR 4 a :: st) μ := by
  intro H locs lsR ad hS hR hL hok ht hx hc hs
  obtain ⟨hx0, hb, -, hown, hC, -, -⟩ := F
  have hi := st_hd hok
  obtain ⟨o1, o2⟩ := okV_ref (st_hd (st_tl hok)) (by omega) ha.1
  have hw := ws_at (cA := eA E) (b := eB E) (adK := eK E) (ad := ad) ha.1 o1
  rw [o2, elt_i (Or.inl rfl)] at hw
  have hv := (hR.2.2.1.2 a ha.1 o1).2 i ha.2.1 ha.2.2
  rw [o2] at hv
  have kk2 := kk H locs lsR ad hS hR hL (st_ok hv (st_tl (st_tl hok))) ht hx hc hs
  rw [List.map_cons, List.map_cons, show eTo E ad (mR 4 a) = .ref (ad a.toNat) from toV_ref (by omega) ha.1]
  rw [List.map_cons, show eTo E ad (mI (μ.2 a i)) = .int ((fun j : Nat => Int32.ofInt (μ.2 a j)) (Int32.ofInt i).toNatClampNeg) by rw [oI_clamp hi]; show Value.int _ = Value.int (Int32.ofInt (μ.2 a (i.toNat : Int))); rw [Int.toNat_of_nonneg ha.2.1]] at kk2
  exact va_iald hx0 hb hC.1 hR.1 a.toNat 0 hw rfl (oI_in hi ha.2.1 (by rw [Int.toNat_of_nonneg (by omega)]; exact ha.2.2)) hd kk2
theorem ws_bald (F : FX E p R s mid c bytes nL (own o) c0 s0 CM SM) (hd : decode bytes pc = .ok (.baload, 1)) (ht9 : t = 6 ∨ t = 7) (ha : 0 ≤ a ∧ 0 ≤ i ∧ i < gLn μ.1 a)
    (kk : WS E p l e R s mid args below meth c nL c0 s0 top0 ad0 Q (pc + 1) ls (mI (μ.2 a i) :: st) μ) : WS E p l e R s mid args below meth c nL c0 s0 top0 ad0 Q pc ls (mI i :: mR t a :: st) μ := by
  intro H locs lsR ad hS hR hL hok ht hx hc hs
  obtain ⟨hx0, hb, -, hown, hC, -, -⟩ := F
  have hi := st_hd hok
  obtain ⟨o1, o2⟩ := okV_ref (st_hd (st_tl hok)) (by omega) ha.1
  have hw := ws_at (cA := eA E) (b := eB E) (adK := eK E) (ad := ad) ha.1 o1
  rw [o2, elt_i (by omega)] at hw
  have hv := (hR.2.2.1.2 a ha.1 o1).2 i ha.2.1 ha.2.2
  rw [o2] at hv
  have hv2 : i32 (μ.2 a i) := by
    rcases ht9 with rfl | rfl
    · have : -128 ≤ μ.2 a i ∧ μ.2 a i < 128 := hv; unfold i32; omega
    · have : 0 ≤ μ.2 a i ∧ μ.2 a i ≤ 1 := hv; unfold i32; omega
  have kk2 := kk H locs lsR ad hS hR hL (st_ok hv2 (st_tl (st_tl hok))) ht hx hc hs
  rw [List.map_cons, List.map_cons, show eTo E ad (mR t a) = .ref (ad a.toNat) from toV_ref (by omega) ha.1]
  rw [List.map_cons, show eTo E ad (mI (μ.2 a i)) = .int ((fun j : Nat => Int32.ofInt (μ.2 a j)) (Int32.ofInt i).toNatClampNeg) by rw [oI_clamp hi]; show Value.int _ = Value.int (Int32.ofInt (μ.2 a (i.toNat : Int))); rw [Int.toNat_of_nonneg ha.2.1]] at kk2
  have hin := oI_in hi ha.2.1 (n := (gLn μ.1 a).toNat) (by rw [Int.toNat_of_nonneg (by omega)]; exact ha.2.2)
  rcases ht9 with rfl | rfl
  · exact va_bald hx0 hb hC.1 hR.1 a.toNat 2 hw rfl hin hd kk2
  · exact va_zald hx0 hb hC.1 hR.1 a.toNat 3 hw rfl hin hd kk2
theorem ws_lald (F : FX E p R s mid c bytes nL (own o) c0 s0 CM SM) (hd : decode bytes pc = .ok (.laload, 1)) (ha : 0 ≤ a ∧ 0 ≤ i ∧ i < gLn μ.1 a)
    (kk : WS E p l e R s mid args below meth c nL c0 s0 top0 ad0 Q (pc + 1) ls (mL (μ.2 a i) :: st) μ) : WS E p l e R s mid args below meth c nL c0 s0 top0 ad0 Q pc ls (mI i :: mR 5 a :: st) μ := by
  intro H locs lsR ad hS hR hL hok ht hx hc hs
  obtain ⟨hx0, hb, -, hown, hC, -, -⟩ := F
  have hi := st_hd hok
  obtain ⟨o1, o2⟩ := okV_ref (st_hd (st_tl hok)) (by omega) ha.1
  have hw := ws_at (cA := eA E) (b := eB E) (adK := eK E) (ad := ad) ha.1 o1
  rw [o2, elt_l] at hw
  have hv := (hR.2.2.1.2 a ha.1 o1).2 i ha.2.1 ha.2.2
  rw [o2] at hv
  have kk2 := kk H locs lsR ad hS hR hL (st_ok hv (st_tl (st_tl hok))) ht hx hc hs
  rw [List.map_cons, List.map_cons, show eTo E ad (mR 5 a) = .ref (ad a.toNat) from toV_ref (by omega) ha.1]
  rw [List.map_cons, show eTo E ad (mL (μ.2 a i)) = .long ((fun j : Nat => Int64.ofInt (μ.2 a j)) (Int32.ofInt i).toNatClampNeg) by rw [oI_clamp hi]; show Value.long _ = Value.long (Int64.ofInt (μ.2 a (i.toNat : Int))); rw [Int.toNat_of_nonneg ha.2.1]] at kk2
  exact va_lald hx0 hb hC.1 hR.1 a.toNat 1 hw rfl (oI_in hi ha.2.1 (by rw [Int.toNat_of_nonneg (by omega)]; exact ha.2.2)) hd kk2
theorem updI (f : Int → Int) {i : Int} (hi : i32 i) (h0 : 0 ≤ i) (x : Int) : upd (fun j : Nat => Int32.ofInt (f j)) (Int32.ofInt i).toNatClampNeg (Int32.ofInt x) = fun j : Nat => Int32.ofInt ((fun j' => if j' = i then x else f j') (j : Int)) := by
  funext j
  unfold upd
  rw [oI_clamp hi]
  by_cases h : j = i.toNat
  · rw [if_pos h]; simp only; rw [if_pos (by omega)]
  · rw [if_neg h]; simp only; rw [if_neg (by omega)]
theorem updL9 (f : Int → Int) {i : Int} (hi : i32 i) (h0 : 0 ≤ i) (x : Int) : vp_updL (fun j : Nat => Int64.ofInt (f j)) (Int32.ofInt i).toNatClampNeg (Int64.ofInt x) = fun j : Nat => Int64.ofInt ((fun j' => if j' = i then x else f j') (j : Int)) := by
  funext j
  unfold vp_updL
  rw [oI_clamp hi]
  by_cases h : j = i.toNat
  · rw [if_pos h]; simp only; rw [if_pos (by omega)]
  · rw [if_neg h]; simp only; rw [if_neg (by omega)]
theorem ws_iast (F : FX E p R s mid c bytes nL (own o) c0 s0 CM SM) (hd : decode bytes pc = .ok (.iastore, 1)) (ha : 0 ≤ a ∧ 0 ≤ i ∧ i < gLn μ.1 a)
    (kk : WS E p l e R s mid args below meth c nL c0 s0 top0 ad0 Q (pc + 1) ls st (μ.1, up μ.2 a i x)) : WS E p l e R s mid args below meth c nL c0 s0 top0 ad0 Q pc ls (mI x :: mI i :: mR 4 a :: st) μ := by
  intro H locs lsR ad hS hR hL hok ht hx hc hs
  obtain ⟨hx0, hb, -, hown, hC, -, -⟩ := F
  have hi := st_hd (st_tl hok)
  obtain ⟨o1, o2⟩ := okV_ref (st_hd (st_tl (st_tl hok))) (by omega) ha.1
  have hw := ws_at (cA := eA E) (b := eB E) (adK := eK E) (ad := ad) ha.1 o1
  rw [o2, elt_i (Or.inl rfl)] at hw
  rw [List.map_cons, List.map_cons, List.map_cons, show eTo E ad (mR 4 a) = .ref (ad a.toNat) from toV_ref (by omega) ha.1]
  refine va_iast hx0 hb hC.1 hR.1 hR.2.1 hS a.toNat 0 hw rfl (oI_in hi ha.2.1 (by rw [Int.toNat_of_nonneg (by omega)]; exact ha.2.2)) hd (fun H1 locs1 hP1 hD1 hS1 => ?_)
  rw [updI (μ.2 a) hi ha.2.1] at hP1 hD1
  rw [ws_up (G := μ.1) (c := μ.2) (j := i) (v := x) ha.1 o1 (by rw [o2, elt_i (Or.inl rfl)])] at hP1 hD1
  exact kk H1 locs1 lsR ad hS1 ⟨hP1, hD1, okM_up hR.2.2.1 (by rw [o2]; exact st_hd hok), hR.2.2.2.1, up_scr (G := μ.1) ha.1 hR.2.2.2.2⟩ hL (st_tl (st_tl (st_tl hok))) ht hx hc hs
theorem ws_last (F : FX E p R s mid c bytes nL (own o) c0 s0 CM SM) (hd : decode bytes pc = .ok (.lastore, 1)) (ha : 0 ≤ a ∧ 0 ≤ i ∧ i < gLn μ.1 a)
    (kk : WS E p l e R s mid args below meth c nL c0 s0 top0 ad0 Q (pc + 1) ls st (μ.1, up μ.2 a i x)) : WS E p l e R s mid args below meth c nL c0 s0 top0 ad0 Q pc ls (mL x :: mI i :: mR 5 a :: st) μ := by
  intro H locs lsR ad hS hR hL hok ht hx hc hs
  obtain ⟨hx0, hb, -, hown, hC, -, -⟩ := F
  have hi := st_hd (st_tl hok)
  obtain ⟨o1, o2⟩ := okV_ref (st_hd (st_tl (st_tl hok))) (by omega) ha.1
  have hw := ws_at (cA := eA E) (b := eB E) (adK := eK E) (ad := ad) ha.1 o1
  rw [o2, elt_l] at hw
  rw [List.map_cons, List.map_cons, List.map_cons, show eTo E ad (mR 5 a) = .ref (ad a.toNat) from toV_ref (by omega) ha.1]
  refine va_last hx0 hb hC.1 hR.1 hR.2.1 hS a.toNat 1 hw rfl (oI_in hi ha.2.1 (by rw [Int.toNat_of_nonneg (by omega)]; exact ha.2.2)) hd (fun H1 locs1 hP1 hD1 hS1 => ?_)
  rw [updL9 (μ.2 a) hi ha.2.1] at hP1 hD1
  rw [ws_up (G := μ.1) (c := μ.2) (j := i) (v := x) ha.1 o1 (by rw [o2, elt_l])] at hP1 hD1
  exact kk H1 locs1 lsR ad hS1 ⟨hP1, hD1, okM_up hR.2.2.1 (by rw [o2]; exact st_hd hok), hR.2.2.2.1, up_scr (G := μ.1) ha.1 hR.2.2.2.2⟩ hL (st_tl (st_tl (st_tl hok))) ht hx hc hs
theorem ws_bast (F : FX E p R s mid c bytes nL (own o) c0 s0 CM SM) (hd : decode bytes pc = .ok (.bastore, 1)) (ht9 : t = 6 ∧ -128 ≤ x ∧ x < 128 ∨ t = 7 ∧ 0 ≤ x ∧ x ≤ 1) (ha : 0 ≤ a ∧ 0 ≤ i ∧ i < gLn μ.1 a)
    (kk : WS E p l e R s mid args below meth c nL c0 s0 top0 ad0 Q (pc + 1) ls st (μ.1, up μ.2 a i x)) : WS E p l e R s mid args below meth c nL c0 s0 top0 ad0 Q pc ls (mI x :: mI i :: mR t a :: st) μ := by
  intro H locs lsR ad hS hR hL hok ht hx hc hs
  obtain ⟨hx0, hb, -, hown, hC, -, -⟩ := F
  have hi := st_hd (st_tl hok)
  obtain ⟨o1, o2⟩ := okV_ref (st_hd (st_tl (st_tl hok))) (by omega) ha.1
  have hw := ws_at (cA := eA E) (b := eB E) (adK := eK E) (ad := ad) ha.1 o1
  rw [o2, elt_i (by omega)] at hw
  rw [List.map_cons, List.map_cons, List.map_cons, show eTo E ad (mR t a) = .ref (ad a.toNat) from toV_ref (by omega) ha.1]
  have hin := oI_in hi ha.2.1 (n := (gLn μ.1 a).toNat) (by rw [Int.toNat_of_nonneg (by omega)]; exact ha.2.2)
  rcases ht9 with ⟨rfl, hb9⟩ | ⟨rfl, hb9⟩
  · refine va_bast hx0 hb hC.1 hR.1 hR.2.1 hS a.toNat 2 hw rfl hin hd (fun H1 locs1 hP1 hD1 hS1 => ?_)
    rw [nar_byte hb9, updI (μ.2 a) hi ha.2.1] at hP1 hD1
    rw [ws_up (G := μ.1) (c := μ.2) (j := i) (v := x) ha.1 o1 (by rw [o2, elt_i (by omega)])] at hP1 hD1
    exact kk H1 locs1 lsR ad hS1 ⟨hP1, hD1, okM_up hR.2.2.1 (by rw [o2]; exact hb9), hR.2.2.2.1, up_scr (G := μ.1) ha.1 hR.2.2.2.2⟩ hL (st_tl (st_tl (st_tl hok))) ht hx hc hs
  · refine va_zast hx0 hb hC.1 hR.1 hR.2.1 hS a.toNat 3 hw rfl hin hd (fun H1 locs1 hP1 hD1 hS1 => ?_)
    rw [nar_bool hb9, updI (μ.2 a) hi ha.2.1] at hP1 hD1
    rw [ws_up (G := μ.1) (c := μ.2) (j := i) (v := x) ha.1 o1 (by rw [o2, elt_i (by omega)])] at hP1 hD1
    exact kk H1 locs1 lsR ad hS1 ⟨hP1, hD1, okM_up hR.2.2.1 (by rw [o2]; exact hb9), hR.2.2.2.1, up_scr (G := μ.1) ha.1 hR.2.2.2.2⟩ hL (st_tl (st_tl (st_tl hok))) ht hx hc hs
end Heap3
