theorem wd_len1 : Cond.code yLen cLen 1 (some .int) ∈ lw_tbl := mt_1 (List.mem_of_getElem? (i := 151) rfl)
theorem wd_len2 : Cond.instanceMethod yLen ∈ lw_tbl := mt_1 (List.mem_of_getElem? (i := 149) rfl)
theorem wd_len3 : Cond.selects yLen.cls yLen yLen ∈ lw_tbl := mt_1 (List.mem_of_getElem? (i := 150) rfl)
theorem wd_chr1 : Cond.code yChr cChr 2 (some .char) ∈ lw_tbl := mt_1 (List.mem_of_getElem? (i := 162) rfl)
theorem wd_chr2 : Cond.instanceMethod yChr ∈ lw_tbl := mt_1 (List.mem_of_getElem? (i := 160) rfl)
theorem wd_chr3 : Cond.selects yChr.cls yChr yChr ∈ lw_tbl := mt_1 (List.mem_of_getElem? (i := 161) rfl)
theorem wd_str : Cond.initialized "java/lang/String" ∈ lw_tbl := mt_1 (List.mem_of_getElem? (i := 5) rfl)
/-- THE SIMULATION: what the mini machine does, the machine does -/
theorem sim_all {E : ENV} {l : Launch} (hStr : STRR E l) (hLed : LEDR E l) : ∀ n, SIM E l n := by
  intro n
  induction n with
  | zero => intro d m pc ls st μ r ν h; cases h
  | succ n ih =>
    intro d m pc ls st μ r ν h p e R s mid args below meth c Q bytes o ini c0 s0 CM SM top0 ad0 F hck hini hfr hlo hCM hSM hfin
    rw [runF] at h
    have hK : ∀ pc' ls' st' μ', runF n d m pc' ls' st' μ' = some (r, ν) → WS E p l e R s mid args below meth c (mtab m).1 c0 s0 top0 ad0 Q pc' ls' st' μ' := fun pc' ls' st' μ' hk => ih d m pc' ls' st' μ' r ν hk p e R s mid args below meth c Q bytes o ini c0 s0 CM SM top0 ad0 F hck hini hfr hlo hCM hSM hfin
    have hgr : ∀ pc' ls' st' μ', runF n d m pc' ls' st' μ' = some (r, ν) → Gr μ' ν := fun pc' ls' st' μ' hk => run_grow _ _ _ _ _ _ _ _ _ hk
    refine sim_step (K := fun pc ls st μ => runF n d m pc ls st μ) F (look (mtab m).2.2.2 pc) (chk_at hck pc) hini (by omega) (by omega) hCM hSM hK hgr (hfin pc ls st μ) ?_ ?_ ?_ ?_ h
    · intro k en hd htok hne n1 n2 hc
      obtain ⟨as, rest, e1, e2, rfl, e4⟩ := take_inv n1
      rw [e1, e2] at hc
      rw [e2] at n2
      cases d with
      | zero => cases hc
      | succ d =>
        dsimp only at hc
        split at hc
        · rename_i v ν1 hq
          have kk := hK _ _ _ _ hc
          have hg2 := hgr _ _ _ _ hc
          have hg1 : Gr μ ν1 := rg_enter (run_grow n) d _ as μ _ _ hq
          have hCM1 := Nat.le_trans hg2.2.1 hCM
          have hSM1 := Nat.le_trans hg2.2.2.1 hSM
          rcases htok with ⟨hm, hlk, hn, hrt, hl9⟩ | ⟨hm, -⟩ | ⟨hm, hlk, hn⟩ | ⟨hm, hlk, hn⟩ | ⟨hm, hlk, hn⟩ | ⟨hm, hlk, hn⟩
          · have hm : en / 128 < 363 := hm
            unfold enter at hq
            rw [if_pos (by omega)] at hq
            obtain ⟨hcode, hinit, hy, hnp, -, -, -, -, hinst, -, hmx⟩ := mf_all _ hm
            rcases hinst with ⟨-, hst⟩ | hinst
            · exact ws_callS F (by omega) (by omega) hd hlk hcode hinit hy hnp hst hmx (by rw [e4]; exact hn) n2 (met_of ih hm hl9 hq) hg1 hCM1 hSM1 kk
            · have hrt : (mtab (en / 128)).2.2.1 = 0 := hrt
              have h10 := hinst.1
              rw [hrt] at h10
              exact absurd h10 (by decide)
          · exact absurd hm hne
          · rw [hm] at hq
            exact hLed n ih d as μ v ν1 hq p e R s mid args below meth c Q bytes o _ c0 s0 CM SM top0 ad0 k pc ls rest F (by omega) (by omega) hd hlk n2 hCM1 hSM1 kk
          · rw [hm] at hq
            obtain ⟨w, rfl⟩ : ∃ w, as = [w] := by
              match as, e4 with
              | [w], _ => exact ⟨w, rfl⟩
              | [], e => rw [hn] at e; cases e
              | _ :: _ :: _, e => rw [hn] at e; simp at e
            have hq' := hq
            unfold enter at hq'
            rw [if_pos (by decide)] at hq'
            obtain ⟨x, rfl⟩ := abs_int hq'
            have hE := ev_is1 hq (ev_J9_abs_0f7a4 d (fun z ν => z = (if x < 0 then w32 (0 - x) else x) ∧ ν = μ) μ.1 μ.2 x (by split <;> rename_i q <;> simp [q]))
            unfold QI at hE
            split at hE
            · rename_i z
              obtain ⟨rfl, rfl⟩ := hE
              exact ws_mabs F (by omega) (by omega) hd hlk n2 hCM1 hSM1 kk
            · exact hE.elim
          · rw [hm] at hq
            obtain ⟨w, u, rfl⟩ : ∃ w u, as = [w, u] := by
              match as, e4 with
              | [w, u], _ => exact ⟨w, u, rfl⟩
              | [], e => rw [hn] at e; cases e
              | [_], e => rw [hn] at e; cases e
              | _ :: _ :: _ :: _, e => rw [hn] at e; simp at e
            have hq' := hq
            unfold enter at hq'
            rw [if_pos (by decide)] at hq'
            obtain ⟨x, y, rfl, rfl⟩ := two_int rfl rfl rfl hq'
            have hE := ev_is1 hq (ev_J9_max_7cf53 d (fun z ν => z = (if x < y then y else x) ∧ ν = μ) μ.1 μ.2 x y (by split <;> rename_i q <;> simp [q]))
            unfold QI at hE
            split at hE
            · rename_i z
              obtain ⟨rfl, rfl⟩ := hE
              exact ws_mmax F (by omega) (by omega) hd hlk n2 hCM1 hSM1 kk
            · exact hE.elim
          · rw [hm] at hq
            obtain ⟨w, u, rfl⟩ : ∃ w u, as = [w, u] := by
              match as, e4 with
              | [w, u], _ => exact ⟨w, u, rfl⟩
              | [], e => rw [hn] at e; cases e
              | [_], e => rw [hn] at e; cases e
              | _ :: _ :: _ :: _, e => rw [hn] at e; simp at e
            have hq' := hq
            unfold enter at hq'
            rw [if_pos (by decide)] at hq'
            obtain ⟨x, y, rfl, rfl⟩ := two_int rfl rfl rfl hq'
            have hE := ev_is1 hq (ev_J9_min_7cf53 d (fun z ν => z = (if y < x then y else x) ∧ ν = μ) μ.1 μ.2 x y (by split <;> rename_i q <;> simp [q]))
            unfold QI at hE
            split at hE
            · rename_i z
              obtain ⟨rfl, rfl⟩ := hE
              exact ws_mmin F (by omega) (by omega) hd hlk n2 hCM1 hSM1 kk
            · exact hE.elim
        · cases hc
    · intro k en hd hvok n1 n2 hc
      obtain ⟨as, rest, e1, e2, rfl, e4⟩ := take_inv n1
      rw [e1, e2] at hc
      rw [e2] at n2
      cases d with
      | zero => cases hc
      | succ d =>
        dsimp only at hc
        split at hc
        · rename_i v ν1 hq
          have kk := hK _ _ _ _ hc
          have hg2 := hgr _ _ _ _ hc
          have hg1 : Gr μ ν1 := rg_enter (run_grow n) d _ as μ _ _ hq
          have hCM1 := Nat.le_trans hg2.2.1 hCM
          have hSM1 := Nat.le_trans hg2.2.2.1 hSM
          rcases hvok with ⟨hm, hlk, hn, hrt, hnini, hl9⟩ | ⟨hm, hlk, hn⟩ | ⟨hm, hlk, hn⟩
          · have hm : en / 128 < 363 := hm
            unfold enter at hq
            rw [if_pos (by omega)] at hq
            obtain ⟨hcode, hinit, hy, hnp, -, -, -, -, hinst, -, hmx⟩ := mf_all _ hm
            rcases hinst with ⟨z, -⟩ | ⟨h10, h19, hin, hse, T, N, hcl⟩
            · exact absurd z hrt
            · have hq' := hq
              unfold enterM at hq'
              obtain ⟨⟨hrok, -⟩, -⟩ := ite_inv hq'
              obtain ⟨a, as', rfl, ha⟩ := rok_inv hrt hrok
              have hse : Cond.selects (rtab (en / 128)).1.cls (rtab (en / 128)).1 (rtab (en / 128)).1 ∈ lw_tbl := by
                rcases hse with z | z
                · rw [show (rtab (en / 128)).2.2.2.2.2 = false from hnini] at z; cases z
                · exact z
              exact ws_callV F (by omega) (by omega) hd hlk hcode hinit hy hnp hin hse hmx rfl (by have : (mR (mtab (en / 128)).2.2.1 a :: as').length = en % 16 := e4; rw [show en % 16 = _ from hn] at this; simpa using this) h10 ⟨T, N, hcl⟩ ha n2 (met_of ih hm hl9 hq) hg1 hCM1 hSM1 kk
          · rw [hm] at hq
            unfold enter at hq
            rw [if_neg (by decide), if_pos (by decide)] at hq
            split at hq
            · rename_i a
              obtain ⟨ha, hq⟩ := ite_inv hq
              cases hq
              exact ws_callStr (np := 0) F (by omega) (by omega) hd hlk wd_len1 wd_str ⟨by decide, by decide⟩ (by decide +kernel) wd_len2 rfl wd_len3 (by decide) rfl ha n2 (hStr.1 d a μ ha.1 ha.2) Gr.rf hCM1 hSM1 kk
            · cases hq
          · rw [hm] at hq
            unfold enter at hq
            rw [if_neg (by decide), if_neg (by decide), if_pos (by decide)] at hq
            split at hq
            · rename_i a i
              obtain ⟨ha, hq⟩ := ite_inv hq
              cases hq
              exact ws_callStr (np := 1) F (by omega) (by omega) hd hlk wd_chr1 wd_str ⟨by decide, by decide⟩ (by decide +kernel) wd_chr2 rfl wd_chr3 (by decide) rfl ⟨ha.1, ha.2.1⟩ n2 (hStr.2 d a i μ ha.1 ha.2.1 ha.2.2.1 ha.2.2.2) Gr.rf hCM1 hSM1 kk
            · cases hq
        · cases hc
    · intro k en hd hiok hne n1 n2 hc
      obtain ⟨as, rest, e1, e2, rfl, e4⟩ := take_inv n1
      rw [e1, e2] at hc
      rw [e2] at n2
      cases d with
      | zero => cases hc
      | succ d =>
        dsimp only at hc
        split at hc
        · rename_i v ν1 hq
          have kk := hK _ _ _ _ hc
          have hg2 := hgr _ _ _ _ hc
          have hg1 : Gr μ ν1 := rg_enter (run_grow n) d _ as μ _ _ hq
          have hCM1 := Nat.le_trans hg2.2.1 hCM
          have hSM1 := Nat.le_trans hg2.2.2.1 hSM
          rcases hiok with ⟨hm, hlk, hn, hrt, hisi, hl9⟩ | ⟨hm, -⟩
          · have hm : en / 128 < 363 := hm
            unfold enter at hq
            rw [if_pos (by omega)] at hq
            have hmet := met_of ih hm hl9 hq
            obtain ⟨hcode, hinit, hy, hnp, -, -, hini9, hrk, hinst, -, hmx⟩ := mf_all _ hm
            obtain ⟨hnm, hrk0⟩ := hini9 hisi
            rw [hrk0] at hrk
            have hret : (rtab (en / 128)).2.2.2.1 = none := hrk
            rw [hret] at hcode hmet
            rcases hinst with ⟨z, -⟩ | ⟨h10, h19, hin, hse, T, N, hcl⟩
            · exact absurd z hrt
            · have hq' := hq
              unfold enterM at hq'
              obtain ⟨⟨hrok, -⟩, -⟩ := ite_inv hq'
              obtain ⟨a, as', rfl, ha⟩ := rok_inv hrt hrok
              exact ws_callI F (by omega) (by omega) hd hlk hcode hinit hy hnp hin hnm hmx rfl (by have : (mR (mtab (en / 128)).2.2.1 a :: as').length = en % 16 := e4; rw [show en % 16 = _ from hn] at this; simpa using this) h10 ha n2 hmet hg1 hCM1 hSM1 kk
          · exact absurd hm hne
        · cases hc
    · intro en h99 hc
      cases d with
      | zero => cases hc
      | succ d =>
        dsimp only at hc
        rw [h99] at hc
        rw [show enter (runF n) d 1999 (List.take (en % 16) st).reverse μ = none by unfold enter; rfl] at hc
        cases hc
