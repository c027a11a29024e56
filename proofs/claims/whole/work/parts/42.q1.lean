/-! a call on both, one after the other -/
def IV0 (G : MG) (c : MC) : Prop := ∃ t z, SH G c t z ∧ (NV c t ∨ TU G c t)
theorem IV0.kp {G : MG} {c c' : MC} (h : IV0 G c) (e : ∀ a j, KI a j → c' a j = c a j) : IV0 G c' := by
  obtain ⟨t, z, hs, hv⟩ := h
  refine ⟨t, z, hs.kp e, ?_⟩
  rcases hv with hv | hv
  · exact Or.inl (hv.kp e)
  · exact Or.inr (hv.kp e)
theorem ki_up7 {c : MC} {v : Int} : ∀ a j, KI a j → up c 0 6 v a j = c a j := fun a j k => by
  by_cases e : a = 0
  · exact up_nj (by unfold KI at k; omega)
  · exact up_na e
theorem ki_agr {c c' : MC} (h : Agr c c') : ∀ a j, KI a j → c' a j = c a j := fun a j k => h a j k.2.2.2
theorem IV.fin {G : MG} {c1 c2 : MC} {v : Int} (H : IV0 G c1) (t1 : c1 0 6 = v) (hv : v ≠ 4) (a : Agr c1 c2) : IV G (mtr c2 v) := by
  have ag : Agr c1 (mtr c2 v) := a.tr (agr_mtr c2 v)
  have e7 : mtr c2 v 0 6 = v := by rw [ag 0 6 (by unfold scr; omega)]; exact t1
  exact ⟨⟨by rw [mtr_t, e7], by rw [mtr_w, e7, if_neg hv]⟩, H.kp (ki_agr ag)⟩
theorem IV.q {G : MG} {c c2 : MC} {v : Int} (H : IV0 G c) (hv : v ≠ 4) (a : Agr (up c 0 6 v) c2) : IV G (mtr c2 v) := IV.fin (H.kp ki_up7) up_eq hv a
abbrev K2 (G : MG) (r1 r2 : Int) (ν2 : MM) : Prop := ∃ _ : r1 = r2, ν2.1 = G ∧ IV G ν2.2
theorem agr_0 (c : MC) : Agr c (up c 62 0 0) := Agr.rf.u (by unfold scr; omega)
theorem whoF_congr {v v' : Int → Int} {m k : Int} (h : ∀ p, 0 ≤ p → p < m → v p = v' p) : whoF v m k = whoF v' m k := by
  unfold whoF
  apply fi_congr
  intro p h1 h2
  rw [h p h1 (by omega)]
  exact ⟨rfl, rfl⟩
theorem k_slot (d : Nat) (G : MG) (c : MC) (a : Int) (H : IV G c) : EvI (d + 40) mX10_slot [mR 16 0, mI a] (G, c) (fun r1 ν1 => EvI (d + 40) mX12_slot [mR 18 62, mI a] (ν1.1, ν1.2) (fun r2 ν2 => K2 G r1 r2 ν2)) := by
  obtain ⟨hr, t, z, S, V⟩ := H
  have H0 : IV0 G c := ⟨t, z, S, V⟩
  rcases V with V | ⟨T, n, m, u, q, w, x, s, ka, ki, g, V⟩
  · have I := S.ciN V
    have e1 := V.e1; have e3 := V.e3; have e4 := V.e4; have N := V.T
    have N1 : ∀ wy, up (up c 0 6 wy) 62 0 0 62 3 = -1 := fun wy => by rw [up_nj (by decide), up_na (by decide)]; exact N
    refine ev_X10_slot (d + 39) _ G c 0 a (by decide) ?_
    simp only [q_isSlot _ _ _ _ t I, e1]
    rw [if_neg (show ¬ (0 ≤ a ∧ a < 0) by omega), if_pos rfl]
    simp only [q_refused]
    refine ev_X12_slot (d + 39) _ G _ 62 a (by decide) ⟨by decide, ?_⟩
    rintro _ rfl
    simp only [q_nisSlot _ _ _ _ (N1 1), q_mrefused, if_true]
    exact ⟨rfl, rfl, IV.q H0 (by decide) (agr_0 _)⟩
  · have I := S.ciT V
    have M := V.M; have hT := M.T; have ht := V.t
    have v1 := V.v1; have v3 := V.v3; have v4 := V.v4; have e0 := V.e0; have e1 := V.e1; have e3 := V.e3; have e4 := V.e4; have e5 := V.e5
    have b0 := M.b0; have b1 := M.b1; have b3 := M.b3; have b4 := M.b4
    rw [v1] at b1; rw [v3] at b3; rw [v4] at b4
    have M1 : ∀ wy, MDs G (up (up c 0 6 wy) 62 0 0) T := fun wy => (M.ki ki_up7).agr (agr_0 _)
    have r64 : ∀ wy, up (up c 0 6 wy) 62 0 0 64 = c 64 := fun wy => by funext j; rw [up_na (by decide), up_na (by decide)]
    have rT : ∀ wy k, up (up c 0 6 wy) 62 0 0 T k = c T k := fun wy k => by rw [up_na (by omega), up_na (by omega)]
    have rTT : ∀ wy a, 1 ≤ a → up (up c 0 6 wy) 62 0 0 (T + a) = c (T + a) := fun wy a ha => by funext j; rw [up_na (by omega), up_na (by omega)]
    refine ev_X10_slot (d + 39) _ G c 0 a (by decide) ?_
    simp only [q_isSlot _ _ _ _ t I, e1, q_whoIsIn _ _ _ _ t I, q_fine, q_refused, e3]
    by_cases h : 0 ≤ a ∧ a < n
    · rw [if_pos h, if_neg (by decide)]
      refine ev_X12_slot (d + 39) _ G _ 62 a (by decide) ⟨by decide, ?_⟩
      rintro _ rfl
      simp only [q_misSlot _ _ _ _ T (M1 0), q_whoIn _ _ _ _ T (M1 0), q_mgood, rT, v1, v3, r64]
      rw [if_pos h, if_neg (by decide)]
      exact ⟨whoF_congr (fun p h1 h2 => (V.sv p h1 h2).1), rfl, IV.q H0 (by decide) (agr_0 _)⟩
    · rw [if_neg h, if_pos rfl]
      refine ev_X12_slot (d + 39) _ G _ 62 a (by decide) ⟨by decide, ?_⟩
      rintro _ rfl
      simp only [q_misSlot _ _ _ _ T (M1 1), q_mrefused, rT, v1]
      rw [if_neg h, if_pos rfl]
      exact ⟨rfl, rfl, IV.q H0 (by decide) (agr_0 _)⟩
