/-! the rows of the heap -/
section Heap1
variable {cA : Nat → ClassId} {b : Nat} {adK ad : Nat → Nat}
theorem okV_ref {G : MG} {t : Nat} {a : Int} (h : okV G (mR t a)) (ht : 4 ≤ t) (ha : 0 ≤ a) : a < gTop G ∧ gTy G a = t := by
  obtain ⟨u, rfl⟩ : ∃ u, t = u + 4 := ⟨t - 4, by omega⟩
  rcases (show a < 0 ∨ (a < gTop G ∧ gTy G a = u + 4) from h) with h | h
  · omega
  · exact h
theorem toV_ref {t : Nat} {a : Int} (ht : 4 ≤ t) (ha : 0 ≤ a) : toV b adK ad (mR t a) = .ref (ad a.toNat) := by
  simp only [toV]
  rw [if_neg (by omega), if_neg (by omega), if_neg (by omega)]
theorem okS_ld {G : MG} {f : Nat} {x : Int} (h : okS (gTop G) (gTy G) f x) : okV G (ld f x) := by
  match f, h with
  | 0, h => exact h
  | 1, h => exact h
  | 2, h => exact (show i32 x by have : 0 ≤ x ∧ x ≤ 1 := h; unfold i32; omega)
  | 3, h => exact (show i32 x by have : -128 ≤ x ∧ x < 128 := h; unfold i32; omega)
  | t + 4, h => exact h
theorem ld_V {f : Nat} {x : Int} : ∃ v, toV b adK ad (ld f x) = v := ⟨_, rfl⟩
theorem elt_obj {t : Nat} {n : Int} {f : Int → Int} (h : 10 ≤ t) : eltV cA b adK ad t n f = .inr (t - 10, fldsV b adK ad (fty t) f) := by
  unfold eltV
  rw [if_neg (by omega)]
theorem elt_i {t : Nat} {n : Int} {f : Int → Int} (h : t = 4 ∨ t = 6 ∨ t = 7) : eltV cA b adK ad t n f = .inl (cA t, n.toNat, .inl (fun j => Int32.ofInt (f j))) := by
  unfold eltV arrF
  rw [if_pos (by omega), if_neg (by omega)]
theorem elt_l {n : Int} {f : Int → Int} : eltV cA b adK ad 5 n f = .inl (cA 5, n.toNat, .inr (.inl (fun j => Int64.ofInt (f j)))) := rfl
theorem nar_fit {ty : FieldType} {top : Int} {tg : Int → Nat} {f : Nat} {x : Int} (hf : ftR ty f) (h : okS top tg f x) : narrow ty (toV b adK ad (ld f x)) = toV b adK ad (ld f x) ∧ fits ty (toV b adK ad (ld f x)) = true := by
  match f, hf, h with
  | 0, hf, h => cases hf; exact ⟨rfl, rfl⟩
  | 1, hf, h => cases hf; exact ⟨rfl, rfl⟩
  | 2, hf, h =>
    cases hf
    have h : 0 ≤ x ∧ x ≤ 1 := h
    rcases (show x = 0 ∨ x = 1 by omega) with rfl | rfl
    · exact ⟨rfl, show fits .boolean (.int (Int32.ofInt 0)) = true by decide⟩
    · exact ⟨rfl, show fits .boolean (.int (Int32.ofInt 1)) = true by decide⟩
  | t + 4, hf, h =>
    show narrow ty (toV b adK ad (mR (t + 4) x)) = _ ∧ _
    by_cases hx : x < 0
    · rw [show toV b adK ad (ld (t + 4) x) = .null by simp [ld, toV, hx]]
      rw [show toV b adK ad (mR (t + 4) x) = .null by simp [toV, hx]]
      rcases hf with ⟨n, rfl⟩ | ⟨n, rfl⟩ <;> exact ⟨rfl, rfl⟩
    · have e : toV b adK ad (mR (t + 4) x) = .ref (ad x.toNat) := toV_ref (by omega) (by omega)
      rw [show toV b adK ad (ld (t + 4) x) = .ref (ad x.toNat) from e, e]
      rcases hf with ⟨n, rfl⟩ | ⟨n, rfl⟩ <;> exact ⟨rfl, rfl⟩
theorem dv_arr {t : Nat} (h : t < 10) (j : Int) : dv t j = 0 := by
  unfold dv
  match t, h with
  | 0, _ => rfl
  | 1, _ => rfl
  | 2, _ => rfl
  | 3, _ => rfl
  | 4, _ => rfl
  | 5, _ => rfl
  | 6, _ => rfl
  | 7, _ => rfl
  | 8, _ => rfl
  | 9, _ => rfl
  | t + 10, h => omega
/-- a cell more -/
theorem ws_push {μ : MM} (hM : okM μ) (t n q : Nat) : wsV9 cA b adK (va_up ad (gTop μ.1).toNat q) (gNew μ.1 t n, cNew μ.1 μ.2 t) = wsV9 cA b adK ad μ ++ [(q, eltV cA b adK (va_up ad (gTop μ.1).toNat q) t n (dv t))] := by
  obtain ⟨h0, hM⟩ := hM
  unfold wsV9
  have e : (gTop (gNew μ.1 t n)).toNat = (gTop μ.1).toNat + 1 := by show (gTop μ.1 + 1).toNat = _; omega
  dsimp only
  rw [e, List.range_succ, List.map_append]
  congr 1
  · apply List.map_congr_left
    intro k hk
    have hk : k < (gTop μ.1).toNat := List.mem_range.mp hk
    have hkt : ((k : Nat) : Int) ≠ gTop μ.1 := by omega
    have e1 : gTy (gNew μ.1 t n) k = gTy μ.1 k := by show (if (k : Int) = gTop μ.1 then t else gTy μ.1 k) = _; rw [if_neg hkt]
    have e2 : gLn (gNew μ.1 t n) k = gLn μ.1 k := by show (if (k : Int) = gTop μ.1 then (n : Int) else gLn μ.1 k) = _; rw [if_neg hkt]
    have e3 : cNew μ.1 μ.2 t k = μ.2 k := by funext j; show (if (k : Int) = gTop μ.1 then dv t j else μ.2 k j) = _; rw [if_neg hkt]
    rw [e1, e2, e3]
    have e4 : va_up ad (gTop μ.1).toNat q k = ad k := by unfold va_up; rw [if_neg (by omega)]
    rw [e4]
    congr 1
    obtain ⟨hT, hs⟩ := hM k (by omega) (by omega)
    rcases hT with ⟨ht, _⟩ | ⟨ht, hlen⟩
    · unfold eltV
      rw [if_pos (by omega), if_pos (by omega)]
    · rw [elt_obj ht.1, elt_obj ht.1]
      congr 2
      unfold fldsV
      apply List.map_congr_left
      intro j hj
      have hj : j < (fty (gTy μ.1 k)).length := List.mem_range.mp hj
      have hss := hs j (by omega) (by omega)
      have e5 : srt (gTy μ.1 k) j = (fty (gTy μ.1 k)).getD j 0 := by
        unfold srt
        rw [if_neg (by omega), if_neg (by omega), if_neg (by omega), if_neg (by omega)]
        rfl
      rw [e5] at hss
      refine toV_ext (G := μ.1) (fun k' hk' => ?_) (okS_ld hss)
      unfold va_up
      rw [if_neg (by omega)]
  · simp only [List.map_cons, List.map_nil]
    have e6 : (((gTop μ.1).toNat : Nat) : Int) = gTop μ.1 := Int.toNat_of_nonneg h0
    rw [e6]
    have e1 : gTy (gNew μ.1 t n) (gTop μ.1) = t := if_pos rfl
    have e2 : gLn (gNew μ.1 t n) (gTop μ.1) = n := if_pos rfl
    have e3 : cNew μ.1 μ.2 t (gTop μ.1) = dv t := by funext j; exact if_pos rfl
    rw [e1, e2, e3]
    congr 2
    unfold va_up
    exact if_pos rfl
end Heap1
theorem okS_mono {top top' : Int} {ty ty' : Int → Nat} (h1 : top ≤ top') (h2 : ∀ x, 0 ≤ x → x < top → ty' x = ty x) {f : Nat} {x : Int} (h : okS top ty f x) : okS top' ty' f x := by
  match f, h with
  | 0, h => exact h
  | 1, h => exact h
  | 2, h => exact h
  | 3, h => exact h
  | t + 4, h =>
    rcases (show x < 0 ∨ (x < top ∧ ty x = t + 4) from h) with h | h
    · exact Or.inl h
    · by_cases hx : x < 0
      · exact Or.inl hx
      · exact Or.inr ⟨by omega, by rw [h2 x (by omega) h.1]; exact h.2⟩
theorem okV_mono {G G' : MG} (h1 : gTop G ≤ gTop G') (h2 : ∀ x, 0 ≤ x → x < gTop G → gTy G' x = gTy G x) {v : MV} (h : okV G v) : okV G' v := by
  match v, h with
  | Sum.inl x, h => exact h
  | Sum.inr (Sum.inl x), h => exact h
  | Sum.inr (Sum.inr (0, x)), h => exact h
  | Sum.inr (Sum.inr (1, x)), h => exact h
  | Sum.inr (Sum.inr (2, x)), h => exact h
  | Sum.inr (Sum.inr (3, x)), h => exact h
  | Sum.inr (Sum.inr (t + 4, x)), h =>
    rcases (show x < 0 ∨ (x < gTop G ∧ gTy G x = t + 4) from h) with h | h
    · exact Or.inl h
    · by_cases hx : x < 0
      · exact Or.inl hx
      · exact Or.inr ⟨by omega, by rw [h2 x (by omega) h.1]; exact h.2⟩
theorem srt_obj {t : Nat} (h : 10 ≤ t) (j : Int) : srt t j = (fty t).getD j.toNat 0 := by
  unfold srt
  rw [if_neg (by omega), if_neg (by omega), if_neg (by omega), if_neg (by omega)]
theorem okM_up {G : MG} {c : MC} {a j v : Int} (hM : okM (G, c)) (hv : okS (gTop G) (gTy G) (srt (gTy G a) j) v) : okM (G, up c a j v) := by
  refine ⟨hM.1, fun a' h0 h1 => ⟨(hM.2 a' h0 h1).1, fun j' g0 g1 => ?_⟩⟩
  show okS _ _ _ (up c a j v a' j')
  unfold up
  split
  · rename_i q; rw [q.1, q.2]; exact hv
  · exact (hM.2 a' h0 h1).2 j' g0 g1
theorem okM_new {G : MG} {c : MC} {t n : Nat} (hM : okM (G, c)) (hT : okT t n) : okM (gNew G t n, cNew G c t) := by
  have h00 := hM.1
  refine ⟨show 0 ≤ gTop G + 1 by have : 0 ≤ gTop G := h00; omega, fun a h0 h1 => ?_⟩
  have h1 : a < gTop G + 1 := h1
  have hty : ∀ x, 0 ≤ x → x < gTop G → gTy (gNew G t n) x = gTy G x := fun x _ hx => if_neg (by omega)
  by_cases ha : a = gTop G
  · have e1 : gTy (gNew G t n) a = t := if_pos ha
    have e2 : gLn (gNew G t n) a = n := if_pos ha
    show okT (gTy (gNew G t n) a) (gLn (gNew G t n) a) ∧ ∀ j, 0 ≤ j → j < gLn (gNew G t n) a → okS _ _ (srt (gTy (gNew G t n) a) j) (cNew G c t a j)
    rw [e1, e2]
    refine ⟨hT, fun j g0 g1 => ?_⟩
    have e3 : cNew G c t a j = dv t j := if_pos ha
    rw [e3]
    rcases hT with ⟨ht, _⟩ | ⟨ht, hl⟩
    · rw [dv_arr (by omega)]
      rcases ht with rfl | rfl | rfl | rfl
      · exact i32_0
      · exact i64_0
      · exact (show (-128 : Int) ≤ 0 ∧ (0 : Int) < 128 by omega)
      · exact (show (0 : Int) ≤ 0 ∧ (0 : Int) ≤ 1 by omega)
    · rw [srt_obj ht.1]
      unfold dv
      generalize (fty t).getD j.toNat 0 = f
      split
      · rename_i hf
        obtain ⟨u, rfl⟩ : ∃ u, f = u + 4 := ⟨f - 4, by omega⟩
        exact Or.inl (by omega)
      · rename_i hf
        rcases (show f = 0 ∨ f = 1 ∨ f = 2 ∨ f = 3 by omega) with rfl | rfl | rfl | rfl
        · exact i32_0
        · exact i64_0
        · exact (show (0 : Int) ≤ 0 ∧ (0 : Int) ≤ 1 by omega)
        · exact (show (-128 : Int) ≤ 0 ∧ (0 : Int) < 128 by omega)
  · have e1 : gTy (gNew G t n) a = gTy G a := if_neg ha
    have e2 : gLn (gNew G t n) a = gLn G a := if_neg ha
    show okT (gTy (gNew G t n) a) (gLn (gNew G t n) a) ∧ ∀ j, 0 ≤ j → j < gLn (gNew G t n) a → okS _ _ (srt (gTy (gNew G t n) a) j) (cNew G c t a j)
    rw [e1, e2]
    obtain ⟨q1, q2⟩ := hM.2 a h0 (show a < gTop G by omega)
    refine ⟨q1, fun j g0 g1 => ?_⟩
    have e3 : cNew G c t a j = c a j := if_neg ha
    rw [e3]
    exact okS_mono (show gTop G ≤ gTop G + 1 by omega) hty (q2 j g0 g1)
section Heap2
variable {E : ENV} {p : Program} {l : Launch} {e : Env} {R : Room} {s : State} {mid : MethodId} {args : Array Value} {below : List Frame} {meth : Method} {c : Code} {Q : State → Prop} {bytes : ByteArray} {nL o : Nat} {c0 s0 CM SM : Nat} {top0 : Int} {ad0 : Nat → Nat}
variable {pc : Nat} {ls st : List MV} {μ : MM} {x y a : Int} {t k en : Nat}
theorem ws_getfield (F : FX E p R s mid c bytes nL (own o) c0 s0 CM SM) (hd : decode bytes pc = .ok (.getfield k, 3)) (hp : (o, k, en) ∈ poolF) (ha : 0 ≤ a)
    (kk : WS E p l e R s mid args below meth c nL c0 s0 top0 ad0 Q (pc + 3) ls (ld (en % 64) (μ.2 a ((en / 64 % 64 : Nat) : Int)) :: st) μ) : WS E p l e R s mid args below meth c nL c0 s0 top0 ad0 Q pc ls (mR (en / 4096) a :: st) μ := by
  intro H locs lsR ad hS hR hL hok ht hx hc hs
  obtain ⟨hx0, hb, -, hown, hC, -, -⟩ := F
  obtain ⟨f1, f2, f3, f4, C, T, N, f5, f6⟩ := pf_ok _ hp
  dsimp only at f1 f2 f3 f4 f5 f6
  obtain ⟨C', T', N', tf, g1, g2, g3, g4, g5, g6, g7, g8, g9, g10⟩ := cls_ok f1 f2
  obtain ⟨rfl, rfl, rfl⟩ : C' = C ∧ T' = T ∧ N' = N := by have := g1.symm.trans f5; simp only [Option.some.injEq, Prod.mk.injEq] at this; exact this
  obtain ⟨o1, o2⟩ := okV_ref (st_hd hok) (by omega) ha
  have hw : (eWs E ad μ)[a.toNat]? = some (ad a.toNat, .inr (en / 4096 - 10, fldsV (eB E) (eK E) ad (fty (en / 4096)) (μ.2 a))) := by
    rw [ws_at ha o1, o2, elt_obj f1]
  have hts : ∀ w ∈ u_ws C' T' N', w.before args s = true := fun w hw => hC.word (g3 w hw) (g4 w hw).1 (g4 w hw).2
  have hval := flds_at (b := eB E) (adK := eK E) (ad := ad) (f := μ.2 a) f3
  rw [← f4] at hval
  obtain ⟨-, hM⟩ := hR.2.2.1.2 a ha o1
  have hln : gLn μ.1 a = (fty (en / 4096)).length := by
    rcases (hR.2.2.1.2 a ha o1).1 with q | q
    · omega
    · rw [q.2, o2]
  have hok2 := hM ((en / 64 % 64 : Nat) : Int) (by omega) (by rw [hln]; omega)
  rw [o2, srt_obj f1, Int.toNat_natCast, ← f4] at hok2
  have kk2 := kk H locs lsR ad hS hR hL (st_ok (okS_ld hok2) (st_tl hok)) ht hx hc hs
  rw [List.map_cons, show eTo E ad (mR (en / 4096) a) = .ref (ad a.toNat) from toV_ref (by omega) ha]
  rcases f6 with f6 | ⟨host, f6⟩
  · exact va_get (D := eD E) (ci := en / 4096 - 10) (C := C') (T := T') (N := N') (Ts := u_ws C' T' N') hx0 hb hts (fun w h => h) hown hC.1 hR.1 a.toNat hw g1 (en / 64 % 64) (by omega) (hC.word f6 rfl rfl) (fun _ h9 => h9) hval hd kk2
  · exact va_getN (D := eD E) (ci := en / 4096 - 10) (C := C') (T := T') (N := N') (Ts := u_ws C' T' N') hx0 hb hts (fun w h => h) hown hC.1 hR.1 a.toNat hw g1 (en / 64 % 64) (by omega) (hC.word f6 rfl rfl) (fun _ h9 => h9) hval hd kk2
theorem ws_putfield (F : FX E p R s mid c bytes nL (own o) c0 s0 CM SM) {ini : Bool} (hini : ini = true → meth.name = "<init>") (hd : decode bytes pc = .ok (.putfield k, 3)) (hp : (o, k, en) ∈ poolF) (hf : finE.contains (en / 64) = true → ini = true ∧ (o, k, en) ∈ poolFF) (ha : 0 ≤ a) (hv : en % 64 = 2 → 0 ≤ x ∧ x ≤ 1)
    (kk : WS E p l e R s mid args below meth c nL c0 s0 top0 ad0 Q (pc + 3) ls st (μ.1, up μ.2 a ((en / 64 % 64 : Nat) : Int) x)) : WS E p l e R s mid args below meth c nL c0 s0 top0 ad0 Q pc ls (ld (en % 64) x :: mR (en / 4096) a :: st) μ := by
  intro H locs lsR ad hS hR hL hok ht hx hc hs
  obtain ⟨hx0, hb, -, hown, hC, -, -⟩ := F
  obtain ⟨f1, f2, f3, f4, C, T, N, f5, f6⟩ := pf_ok _ hp
  dsimp only at f1 f2 f3 f4 f5 f6
  obtain ⟨C', T', N', tf, g1, g2, g3, g4, g5, g6, g7, g8, g9, g10⟩ := cls_ok f1 f2
  obtain ⟨rfl, rfl, rfl⟩ : C' = C ∧ T' = T ∧ N' = N := by have := g1.symm.trans f5; simp only [Option.some.injEq, Prod.mk.injEq] at this; exact this
  obtain ⟨o1, o2⟩ := okV_ref (st_hd (st_tl hok)) (by omega) ha
  have hw : (eWs E ad μ)[a.toNat]? = some (ad a.toNat, .inr (en / 4096 - 10, fldsV (eB E) (eK E) ad (fty (en / 4096)) (μ.2 a))) := by
    rw [ws_at ha o1, o2, elt_obj f1]
  have hts : ∀ w ∈ u_ws C' T' N', w.before args s = true := fun w hw => hC.word (g3 w hw) (g4 w hw).1 (g4 w hw).2
  have hoS : okS (gTop μ.1) (gTy μ.1) (en % 64) x := by
    have h9 := st_hd hok
    have h7 := g7 (en / 64 % 64) (by omega)
    rw [← f4] at h7
    generalize en % 64 = f at h9 hv h7
    match f, h9, hv, h7 with
    | 0, h9, _, _ => exact h9
    | 1, h9, _, _ => exact h9
    | 2, _, hv, _ => exact hv rfl
    | f + 4, h9, _, _ => exact h9
  have hft := g7 (en / 64 % 64) (by omega)
  rw [← f4] at hft
  obtain ⟨n1, n2⟩ := nar_fit (b := eB E) (adK := eK E) (ad := ad) hft hoS
  have hset : (eWs E ad μ).set a.toNat (ad a.toNat, .inr (en / 4096 - 10, (fldsV (eB E) (eK E) ad (fty (en / 4096)) (μ.2 a)).set (en / 64 % 64) (eTo E ad (ld (en % 64) x)))) = eWs E ad (μ.1, up μ.2 a ((en / 64 % 64 : Nat) : Int) x) := by
    refine ws_up (G := μ.1) (c := μ.2) ha o1 ?_
    rw [o2, elt_obj f1, flds_set f3 (by rw [← f4])]
  have hgo : ∀ (H1 : Heap) (locs1 : List Loc), va_P (eD E) vwCl ((eWs E ad μ).set a.toNat (ad a.toNat, .inr (en / 4096 - 10, (fldsV (eB E) (eK E) ad (fty (en / 4096)) (μ.2 a)).set (en / 64 % 64) (eTo E ad (ld (en % 64) x))))) H1 → va_D (eS E) ((eWs E ad μ).set a.toNat (ad a.toNat, .inr (en / 4096 - 10, (fldsV (eB E) (eK E) ad (fty (en / 4096)) (μ.2 a)).set (en / 64 % 64) (eTo E ad (ld (en % 64) x))))) → va_S (eS E) s.heap H1 locs1 → W p l e R s mid args below meth c H1 locs1 (gCl μ.1 - c0) (gSl μ.1 - s0) Q (F0 mid (pc + 3) lsR (st.map (eTo E ad))) := by
    intro H1 locs1 hP1 hD1 hS1
    rw [hset] at hP1 hD1
    refine kk H1 locs1 lsR ad hS1 ⟨hP1, hD1, okM_up hR.2.2.1 ?_, hR.2.2.2.1, fun i i0 i1 => ?_⟩ hL (st_tl (st_tl hok)) ht hx hc hs
    · rw [o2, srt_obj f1, Int.toNat_natCast, ← f4]; exact hoS
    · show up μ.2 a _ x (-1) i = _
      unfold up
      rw [if_neg (by omega)]
      exact hR.2.2.2.2 i i0 i1
  rw [List.map_cons, List.map_cons, show eTo E ad (mR (en / 4096) a) = .ref (ad a.toNat) from toV_ref (by omega) ha]
  have hfl : en / 64 % 64 < (fldsV (eB E) (eK E) ad (fty (en / 4096)) (μ.2 a)).length := by rw [flds_len]; exact f3
  have hfe : finE.contains (en / 64) = (T' (en / 64 % 64)).2.2.2 := by
    rw [← g10 (en / 64 % 64) (by omega)]
    congr 1
    omega
  by_cases hfin : (T' (en / 64 % 64)).2.2.2 = true
  · obtain ⟨i1, i2⟩ := hf (hfe.trans hfin)
    obtain ⟨C2, T2, N2, j1, j2, j3⟩ := pff_ok _ i2
    dsimp only at j1 j2 j3
    obtain ⟨rfl, rfl, rfl⟩ : C2 = C' ∧ T2 = T' ∧ N2 = N' := by have := j1.symm.trans f5; simp only [Option.some.injEq, Prod.mk.injEq] at this; exact this
    exact va_putF (D := eD E) (ci := en / 4096 - 10) (Ts := u_ws C2 T2 N2) hx0 hb hts (fun w h => h) tf g5 g6 hown hC.1 hR.1 hR.2.1 hS a.toNat hw g1 (en / 64 % 64) (by omega) (hC.word j2 rfl rfl) (fun _ h9 => h9) hfin (hini i1) j3 (g5 _ (by omega)) n1 n2 hfl hd hgo
  · have hfin : (T' (en / 64 % 64)).2.2.2 = false := by simpa using hfin
    rcases f6 with f6 | ⟨host, f6⟩
    · exact va_put (D := eD E) (ci := en / 4096 - 10) (Ts := u_ws C' T' N') hx0 hb hts (fun w h => h) tf g5 g6 hown hC.1 hR.1 hR.2.1 hS a.toNat hw g1 (en / 64 % 64) (by omega) (hC.word f6 rfl rfl) (fun _ h9 => h9) hfin (g5 _ (by omega)) n1 n2 hfl hd hgo
    · exact va_putN (D := eD E) (ci := en / 4096 - 10) (Ts := u_ws C' T' N') hx0 hb hts (fun w h => h) tf g5 g6 hown hC.1 hR.1 hR.2.1 hS a.toNat hw g1 (en / 64 % 64) (by omega) (hC.word f6 rfl rfl) (fun _ h9 => h9) hfin (g5 _ (by omega)) n1 n2 hfl hd hgo
end Heap2
