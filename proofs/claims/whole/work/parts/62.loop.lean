/-! the law: call by call -/
def LwN (d : Nat) (P : Int → MM → Prop) (G : MG) (c : MC) (i : Int) : Prop := ∀ G' c', IV G' c' → gCl G' ≤ gCl G + 14 → gSl G' ≤ gSl G + 277 → (∀ j, c' (-1) j = c (-1) j) → gLn G' (-1) = gLn G (-1) → At (d + 41) mL_law 2214 [mR 1 0, mR 16 0, mR 18 62, mR 5 79, mI i, MU, MU] [] (G', c') (QI P)
def LwS (G : MG) (c : MC) (i : Int) : Prop := (0 ≤ i ∧ i + 6 ≤ gLn G (-1) ∧ gLn G (-1) ≤ 3072) ∧ ∀ j, -2147483648 ≤ c (-1) j ∧ c (-1) j < 2147483648
theorem iv_top {G : MG} {c : MC} (H : IV G c) : 0 ≤ gTop G := by
  obtain ⟨_, t, z, S, _⟩ := H
  have := S.g
  omega
section
variable (d : Nat) (P : Int → MM → Prop) {G : MG} {c : MC} {i : Int}
theorem ln_2 (N : LwN d P G c i) {r1 r2 : Int} {ν1 ν2 : MM} (H : 0 ≤ gTop G) (s1 : Sc (G, c) ν1) (s2 : Sc (ν1.1, ν1.2) ν2) (q : K2 G r1 r2 ν2) : At (d + 41) mL_law 2214 [mR 1 0, mR 16 0, mR 18 62, mR 5 79, mI i, MU, MU] [] (ν2.1, ν2.2) (QI P) := by
  obtain ⟨e, g, iv⟩ := q
  obtain ⟨a1, a2, a3⟩ := s1 H
  obtain ⟨b1, b2, b3⟩ := s2 a1
  exact N ν2.1 ν2.2 (by rw [g]; exact iv) (by rw [g]; exact Nat.le_add_right _ _) (by rw [g]; exact Nat.le_add_right _ _) (fun j => (b2 j).trans (a2 j)) (b3.trans a3)
theorem ln_3 (N : LwN d P G c i) {r1 r2 : Int} {ν1 ν2 : MM} (H : 0 ≤ gTop G) (s1 : Sc (G, c) ν1) (s2 : Sc (ν1.1, ν1.2) ν2) (q : K3 G r1 r2 ν2) : At (d + 41) mL_law 2214 [mR 1 0, mR 16 0, mR 18 62, mR 5 79, mI i, MU, MU] [] (ν2.1, ν2.2) (QI P) := by
  obtain ⟨e, iv, g1, g2⟩ := q
  obtain ⟨a1, a2, a3⟩ := s1 H
  obtain ⟨b1, b2, b3⟩ := s2 a1
  exact N ν2.1 ν2.2 iv g1 g2 (fun j => (b2 j).trans (a2 j)) (b3.trans a3)
theorem c_312 (H : IV G c) (L : LwS G c i) (N : LwN d P G c i) : At (d + 41) mL_law 312 [mR 1 0, mR 16 0, mR 18 62, mR 5 79, mI i, MU, MU] [] (G, c) (QI P) := by
  have hL := L.1
  have hg := iv_top H
  apply wp_L_law_312
  simp only [w32i (show -2147483648 ≤ i + 1 by omega) (show i + 1 < 2147483648 by omega), w32i (show -2147483648 ≤ i + 2 by omega) (show i + 2 < 2147483648 by omega), w32i (show -2147483648 ≤ i + 3 by omega) (show i + 3 < 2147483648 by omega), w32i (show -2147483648 ≤ i + 4 by omega) (show i + 4 < 2147483648 by omega), w32i (show -2147483648 ≤ i + 5 by omega) (show i + 5 < 2147483648 by omega)]
  refine ⟨⟨by omega, by omega⟩, ⟨by omega, by omega⟩, ⟨by omega, by omega⟩, ⟨by omega, by omega⟩, ⟨by omega, by omega⟩, evI_keep (k_feed d G c (c (-1) (i + 1)) (c (-1) (i + 2)) (c (-1) (i + 3)) (c (-1) (i + 4)) (c (-1) (i + 5)) H) (fun r1 ν1 s1 q1 => ?_)⟩
  obtain ⟨x1, x2, x3⟩ := s1 hg
  dsimp only at x2 x3
  simp only [x2, x3]
  refine ⟨⟨by omega, by omega⟩, ⟨by omega, by omega⟩, ⟨by omega, by omega⟩, ⟨by omega, by omega⟩, ⟨by omega, by omega⟩, evI_keep q1 (fun r2 ν2 s2 q2 => ?_)⟩
  rw [if_pos (q2.elim fun e _ => e)]
  exact ln_2 d P N hg s1 s2 q2
theorem c_385 (H : IV G c) (L : LwS G c i) (N : LwN d P G c i) : At (d + 41) mL_law 385 [mR 1 0, mR 16 0, mR 18 62, mR 5 79, mI i, MU, MU] [] (G, c) (QI P) := by
  have hL := L.1
  have hg := iv_top H
  apply wp_L_law_385
  simp only [w32i (show -2147483648 ≤ i + 1 by omega) (show i + 1 < 2147483648 by omega)]
  refine ⟨⟨by omega, by omega⟩, evI_keep (k_tube d G c (c (-1) (i + 1)) H) (fun r1 ν1 s1 q1 => ?_)⟩
  obtain ⟨x1, x2, x3⟩ := s1 hg
  dsimp only at x2 x3
  simp only [x2, x3]
  refine ⟨⟨by omega, by omega⟩, evI_keep q1 (fun r2 ν2 s2 q2 => ?_)⟩
  rw [if_pos (q2.elim fun e _ => e)]
  exact ln_3 d P N hg s1 s2 q2
theorem c_410 (H : IV G c) (L : LwS G c i) (N : LwN d P G c i) : At (d + 41) mL_law 410 [mR 1 0, mR 16 0, mR 18 62, mR 5 79, mI i, MU, MU] [] (G, c) (QI P) := by
  have hL := L.1
  have hg := iv_top H
  apply wp_L_law_410
  refine evI_keep (k_fault d G c  H) (fun r1 ν1 s1 q1 => ?_)
  obtain ⟨x1, x2, x3⟩ := s1 hg
  dsimp only at x2 x3
  refine evI_keep q1 (fun r2 ν2 s2 q2 => ?_)
  rw [if_pos (q2.elim fun e _ => e)]
  exact ln_2 d P N hg s1 s2 q2
theorem c_423 (H : IV G c) (L : LwS G c i) (N : LwN d P G c i) : At (d + 41) mL_law 423 [mR 1 0, mR 16 0, mR 18 62, mR 5 79, mI i, MU, MU] [] (G, c) (QI P) := by
  have hL := L.1
  have hg := iv_top H
  apply wp_L_law_423
  refine evI_keep (k_where d G c  H) (fun r1 ν1 s1 q1 => ?_)
  obtain ⟨x1, x2, x3⟩ := s1 hg
  dsimp only at x2 x3
  refine evI_keep q1 (fun r2 ν2 s2 q2 => ?_)
  rw [if_pos (q2.elim fun e _ => e)]
  exact ln_2 d P N hg s1 s2 q2
theorem c_436 (H : IV G c) (L : LwS G c i) (N : LwN d P G c i) : At (d + 41) mL_law 436 [mR 1 0, mR 16 0, mR 18 62, mR 5 79, mI i, MU, MU] [] (G, c) (QI P) := by
  have hL := L.1
  have hg := iv_top H
  apply wp_L_law_436
  simp only [w32i (show -2147483648 ≤ i + 1 by omega) (show i + 1 < 2147483648 by omega), w32i (show -2147483648 ≤ i + 2 by omega) (show i + 2 < 2147483648 by omega)]
  refine ⟨⟨by omega, by omega⟩, ⟨by omega, by omega⟩, evI_keep (k_person d G c (c (-1) (i + 1)) (c (-1) (i + 2)) H) (fun r1 ν1 s1 q1 => ?_)⟩
  obtain ⟨x1, x2, x3⟩ := s1 hg
  dsimp only at x2 x3
  simp only [x2, x3]
  refine ⟨⟨by omega, by omega⟩, ⟨by omega, by omega⟩, evI_keep q1 (fun r2 ν2 s2 q2 => ?_)⟩
  rw [if_pos (q2.elim fun e _ => e)]
  exact ln_2 d P N hg s1 s2 q2
theorem c_473 (H : IV G c) (L : LwS G c i) (N : LwN d P G c i) : At (d + 41) mL_law 473 [mR 1 0, mR 16 0, mR 18 62, mR 5 79, mI i, MU, MU] [] (G, c) (QI P) := by
  have hL := L.1
  have hg := iv_top H
  apply wp_L_law_473
  simp only [w32i (show -2147483648 ≤ i + 1 by omega) (show i + 1 < 2147483648 by omega)]
  refine ⟨⟨by omega, by omega⟩, evI_keep (k_slot d G c (c (-1) (i + 1)) H) (fun r1 ν1 s1 q1 => ?_)⟩
  obtain ⟨x1, x2, x3⟩ := s1 hg
  dsimp only at x2 x3
  simp only [x2, x3]
  refine ⟨⟨by omega, by omega⟩, evI_keep q1 (fun r2 ν2 s2 q2 => ?_)⟩
  rw [if_pos (q2.elim fun e _ => e)]
  exact ln_2 d P N hg s1 s2 q2
theorem c_498 (H : IV G c) (L : LwS G c i) (N : LwN d P G c i) : At (d + 41) mL_law 498 [mR 1 0, mR 16 0, mR 18 62, mR 5 79, mI i, MU, MU] [] (G, c) (QI P) := by
  have hL := L.1
  have hg := iv_top H
  apply wp_L_law_498
  simp only [w32i (show -2147483648 ≤ i + 1 by omega) (show i + 1 < 2147483648 by omega), w32i (show -2147483648 ≤ i + 2 by omega) (show i + 2 < 2147483648 by omega)]
  refine ⟨⟨by omega, by omega⟩, ⟨by omega, by omega⟩, evI_keep (k_turned d G c (c (-1) (i + 1)) (c (-1) (i + 2)) H) (fun r1 ν1 s1 q1 => ?_)⟩
  obtain ⟨x1, x2, x3⟩ := s1 hg
  dsimp only at x2 x3
  simp only [x2, x3]
  refine ⟨⟨by omega, by omega⟩, ⟨by omega, by omega⟩, evI_keep q1 (fun r2 ν2 s2 q2 => ?_)⟩
  rw [if_pos (q2.elim fun e _ => e)]
  exact ln_2 d P N hg s1 s2 q2
theorem c_535 (H : IV G c) (L : LwS G c i) (N : LwN d P G c i) : At (d + 41) mL_law 535 [mR 1 0, mR 16 0, mR 18 62, mR 5 79, mI i, MU, MU] [] (G, c) (QI P) := by
  have hL := L.1
  have hg := iv_top H
  apply wp_L_law_535
  refine evI_keep (k_quarrels d G c  H) (fun r1 ν1 s1 q1 => ?_)
  obtain ⟨x1, x2, x3⟩ := s1 hg
  dsimp only at x2 x3
  refine evI_keep q1 (fun r2 ν2 s2 q2 => ?_)
  rw [if_pos (q2.elim fun e _ => e)]
  exact ln_2 d P N hg s1 s2 q2
theorem c_548 (H : IV G c) (L : LwS G c i) (N : LwN d P G c i) : At (d + 41) mL_law 548 [mR 1 0, mR 16 0, mR 18 62, mR 5 79, mI i, MU, MU] [] (G, c) (QI P) := by
  have hL := L.1
  have hg := iv_top H
  apply wp_L_law_548
  refine evI_keep (k_met d G c  H) (fun r1 ν1 s1 q1 => ?_)
  obtain ⟨x1, x2, x3⟩ := s1 hg
  dsimp only at x2 x3
  refine evI_keep q1 (fun r2 ν2 s2 q2 => ?_)
  rw [if_pos (q2.elim fun e _ => e)]
  exact ln_2 d P N hg s1 s2 q2
theorem c_561 (H : IV G c) (L : LwS G c i) (N : LwN d P G c i) : At (d + 41) mL_law 561 [mR 1 0, mR 16 0, mR 18 62, mR 5 79, mI i, MU, MU] [] (G, c) (QI P) := by
  have hL := L.1
  have hg := iv_top H
  apply wp_L_law_561
  simp only [w32i (show -2147483648 ≤ i + 1 by omega) (show i + 1 < 2147483648 by omega)]
  refine ⟨⟨by omega, by omega⟩, evI_keep (k_ring d G c (c (-1) (i + 1)) H) (fun r1 ν1 s1 q1 => ?_)⟩
  obtain ⟨x1, x2, x3⟩ := s1 hg
  dsimp only at x2 x3
  simp only [x2, x3]
  refine ⟨⟨by omega, by omega⟩, evI_keep q1 (fun r2 ν2 s2 q2 => ?_)⟩
  rw [if_pos (q2.elim fun e _ => e)]
  exact ln_2 d P N hg s1 s2 q2
theorem c_586 (H : IV G c) (L : LwS G c i) (N : LwN d P G c i) : At (d + 41) mL_law 586 [mR 1 0, mR 16 0, mR 18 62, mR 5 79, mI i, MU, MU] [] (G, c) (QI P) := by
  have hL := L.1
  have hg := iv_top H
  apply wp_L_law_586
  simp only [w32i (show -2147483648 ≤ i + 1 by omega) (show i + 1 < 2147483648 by omega)]
  refine ⟨⟨by omega, by omega⟩, evI_keep (k_truth d G c (c (-1) (i + 1)) H) (fun r1 ν1 s1 q1 => ?_)⟩
  obtain ⟨x1, x2, x3⟩ := s1 hg
  dsimp only at x2 x3
  simp only [x2, x3]
  refine ⟨⟨by omega, by omega⟩, evI_keep q1 (fun r2 ν2 s2 q2 => ?_)⟩
  rw [if_pos (q2.elim fun e _ => e)]
  exact ln_2 d P N hg s1 s2 q2
theorem c_611 (H : IV G c) (L : LwS G c i) (N : LwN d P G c i) : At (d + 41) mL_law 611 [mR 1 0, mR 16 0, mR 18 62, mR 5 79, mI i, MU, MU] [] (G, c) (QI P) := by
  have hL := L.1
  have hg := iv_top H
  apply wp_L_law_611
  simp only [w32i (show -2147483648 ≤ i + 1 by omega) (show i + 1 < 2147483648 by omega), w32i (show -2147483648 ≤ i + 2 by omega) (show i + 2 < 2147483648 by omega)]
  refine ⟨⟨by omega, by omega⟩, ⟨by omega, by omega⟩, evI_keep (k_image d G c (c (-1) (i + 1)) (c (-1) (i + 2)) H) (fun r1 ν1 s1 q1 => ?_)⟩
  obtain ⟨x1, x2, x3⟩ := s1 hg
  dsimp only at x2 x3
  simp only [x2, x3]
  refine ⟨⟨by omega, by omega⟩, ⟨by omega, by omega⟩, evI_keep q1 (fun r2 ν2 s2 q2 => ?_)⟩
  rw [if_pos (q2.elim fun e _ => e)]
  exact ln_2 d P N hg s1 s2 q2
theorem c_648 (H : IV G c) (L : LwS G c i) (N : LwN d P G c i) : At (d + 41) mL_law 648 [mR 1 0, mR 16 0, mR 18 62, mR 5 79, mI i, MU, MU] [] (G, c) (QI P) := by
  have hL := L.1
  have hg := iv_top H
  apply wp_L_law_648
  refine evI_keep (k_selves d G c  H) (fun r1 ν1 s1 q1 => ?_)
  obtain ⟨x1, x2, x3⟩ := s1 hg
  dsimp only at x2 x3
  refine evI_keep q1 (fun r2 ν2 s2 q2 => ?_)
  rw [if_pos (q2.elim fun e _ => e)]
  exact ln_2 d P N hg s1 s2 q2
theorem c_661 (H : IV G c) (L : LwS G c i) (N : LwN d P G c i) : At (d + 41) mL_law 661 [mR 1 0, mR 16 0, mR 18 62, mR 5 79, mI i, MU, MU] [] (G, c) (QI P) := by
  have hL := L.1
  have hg := iv_top H
  apply wp_L_law_661
  simp only [w32i (show -2147483648 ≤ i + 1 by omega) (show i + 1 < 2147483648 by omega), w32i (show -2147483648 ≤ i + 2 by omega) (show i + 2 < 2147483648 by omega)]
  refine ⟨⟨by omega, by omega⟩, ⟨by omega, by omega⟩, evI_keep (k_near d G c (c (-1) (i + 1)) (c (-1) (i + 2)) H) (fun r1 ν1 s1 q1 => ?_)⟩
  obtain ⟨x1, x2, x3⟩ := s1 hg
  dsimp only at x2 x3
  simp only [x2, x3]
  refine ⟨⟨by omega, by omega⟩, ⟨by omega, by omega⟩, evI_keep q1 (fun r2 ν2 s2 q2 => ?_)⟩
  rw [if_pos (q2.elim fun e _ => e)]
  exact ln_2 d P N hg s1 s2 q2
theorem c_698 (H : IV G c) (L : LwS G c i) (N : LwN d P G c i) : At (d + 41) mL_law 698 [mR 1 0, mR 16 0, mR 18 62, mR 5 79, mI i, MU, MU] [] (G, c) (QI P) := by
  have hL := L.1
  have hg := iv_top H
  apply wp_L_law_698
  simp only [w32i (show -2147483648 ≤ i + 1 by omega) (show i + 1 < 2147483648 by omega)]
  refine ⟨⟨by omega, by omega⟩, evI_keep (k_seenIn d G c (c (-1) (i + 1)) H) (fun r1 ν1 s1 q1 => ?_)⟩
  obtain ⟨x1, x2, x3⟩ := s1 hg
  dsimp only at x2 x3
  simp only [x2, x3]
  refine ⟨⟨by omega, by omega⟩, evI_keep q1 (fun r2 ν2 s2 q2 => ?_)⟩
  rw [if_pos (q2.elim fun e _ => e)]
  exact ln_2 d P N hg s1 s2 q2
theorem c_723 (H : IV G c) (L : LwS G c i) (N : LwN d P G c i) : At (d + 41) mL_law 723 [mR 1 0, mR 16 0, mR 18 62, mR 5 79, mI i, MU, MU] [] (G, c) (QI P) := by
  have hL := L.1
  have hg := iv_top H
  apply wp_L_law_723
  simp only [w32i (show -2147483648 ≤ i + 1 by omega) (show i + 1 < 2147483648 by omega), w32i (show -2147483648 ≤ i + 2 by omega) (show i + 2 < 2147483648 by omega), w32i (show -2147483648 ≤ i + 3 by omega) (show i + 3 < 2147483648 by omega)]
  refine ⟨⟨by omega, by omega⟩, ⟨by omega, by omega⟩, ⟨by omega, by omega⟩, evI_keep (k_slides d G c (c (-1) (i + 1)) (c (-1) (i + 2)) (c (-1) (i + 3)) H (L.2 (i + 2)).2) (fun r1 ν1 s1 q1 => ?_)⟩
  obtain ⟨x1, x2, x3⟩ := s1 hg
  dsimp only at x2 x3
  simp only [x2, x3]
  refine ⟨⟨by omega, by omega⟩, ⟨by omega, by omega⟩, ⟨by omega, by omega⟩, evI_keep q1 (fun r2 ν2 s2 q2 => ?_)⟩
  rw [if_pos (q2.elim fun e _ => e)]
  exact ln_2 d P N hg s1 s2 q2
theorem c_772 (H : IV G c) (L : LwS G c i) (N : LwN d P G c i) : At (d + 41) mL_law 772 [mR 1 0, mR 16 0, mR 18 62, mR 5 79, mI i, MU, MU] [] (G, c) (QI P) := by
  have hL := L.1
  have hg := iv_top H
  apply wp_L_law_772
  simp only [w32i (show -2147483648 ≤ i + 1 by omega) (show i + 1 < 2147483648 by omega), w32i (show -2147483648 ≤ i + 2 by omega) (show i + 2 < 2147483648 by omega)]
  refine ⟨⟨by omega, by omega⟩, ⟨by omega, by omega⟩, evI_keep (k_round d G c (c (-1) (i + 1)) (c (-1) (i + 2)) H (L.2 (i + 1)).2) (fun r1 ν1 s1 q1 => ?_)⟩
  obtain ⟨x1, x2, x3⟩ := s1 hg
  dsimp only at x2 x3
  simp only [x2, x3]
  refine ⟨⟨by omega, by omega⟩, ⟨by omega, by omega⟩, evI_keep q1 (fun r2 ν2 s2 q2 => ?_)⟩
  rw [if_pos (q2.elim fun e _ => e)]
  exact ln_2 d P N hg s1 s2 q2
theorem c_809 (H : IV G c) (L : LwS G c i) (N : LwN d P G c i) : At (d + 41) mL_law 809 [mR 1 0, mR 16 0, mR 18 62, mR 5 79, mI i, MU, MU] [] (G, c) (QI P) := by
  have hL := L.1
  have hg := iv_top H
  apply wp_L_law_809
  simp only [w32i (show -2147483648 ≤ i + 1 by omega) (show i + 1 < 2147483648 by omega), w32i (show -2147483648 ≤ i + 2 by omega) (show i + 2 < 2147483648 by omega)]
  refine ⟨⟨by omega, by omega⟩, ⟨by omega, by omega⟩, evI_keep (k_even d G c (c (-1) (i + 1)) (c (-1) (i + 2)) H (L.2 (i + 1)).2) (fun r1 ν1 s1 q1 => ?_)⟩
  obtain ⟨x1, x2, x3⟩ := s1 hg
  dsimp only at x2 x3
  simp only [x2, x3]
  refine ⟨⟨by omega, by omega⟩, ⟨by omega, by omega⟩, evI_keep q1 (fun r2 ν2 s2 q2 => ?_)⟩
  rw [if_pos (q2.elim fun e _ => e)]
  exact ln_2 d P N hg s1 s2 q2
theorem c_846 (H : IV G c) (L : LwS G c i) (N : LwN d P G c i) : At (d + 41) mL_law 846 [mR 1 0, mR 16 0, mR 18 62, mR 5 79, mI i, MU, MU] [] (G, c) (QI P) := by
  have hL := L.1
  have hg := iv_top H
  apply wp_L_law_846
  simp only [w32i (show -2147483648 ≤ i + 1 by omega) (show i + 1 < 2147483648 by omega), w32i (show -2147483648 ≤ i + 2 by omega) (show i + 2 < 2147483648 by omega)]
  refine ⟨⟨by omega, by omega⟩, ⟨by omega, by omega⟩, evI_keep (k_fixes d G c (c (-1) (i + 1)) (c (-1) (i + 2)) H (L.2 (i + 1)).2) (fun r1 ν1 s1 q1 => ?_)⟩
  obtain ⟨x1, x2, x3⟩ := s1 hg
  dsimp only at x2 x3
  simp only [x2, x3]
  refine ⟨⟨by omega, by omega⟩, ⟨by omega, by omega⟩, evI_keep q1 (fun r2 ν2 s2 q2 => ?_)⟩
  rw [if_pos (q2.elim fun e _ => e)]
  exact ln_2 d P N hg s1 s2 q2
theorem c_883 (H : IV G c) (L : LwS G c i) (N : LwN d P G c i) : At (d + 41) mL_law 883 [mR 1 0, mR 16 0, mR 18 62, mR 5 79, mI i, MU, MU] [] (G, c) (QI P) := by
  have hL := L.1
  have hg := iv_top H
  apply wp_L_law_883
  simp only [w32i (show -2147483648 ≤ i + 1 by omega) (show i + 1 < 2147483648 by omega), w32i (show -2147483648 ≤ i + 2 by omega) (show i + 2 < 2147483648 by omega)]
  refine ⟨⟨by omega, by omega⟩, ⟨by omega, by omega⟩, evI_keep (k_commute d G c (c (-1) (i + 1)) (c (-1) (i + 2)) H) (fun r1 ν1 s1 q1 => ?_)⟩
  obtain ⟨x1, x2, x3⟩ := s1 hg
  dsimp only at x2 x3
  simp only [x2, x3]
  refine ⟨⟨by omega, by omega⟩, ⟨by omega, by omega⟩, evI_keep q1 (fun r2 ν2 s2 q2 => ?_)⟩
  rw [if_pos (q2.elim fun e _ => e)]
  exact ln_2 d P N hg s1 s2 q2
theorem c_920 (H : IV G c) (L : LwS G c i) (N : LwN d P G c i) : At (d + 41) mL_law 920 [mR 1 0, mR 16 0, mR 18 62, mR 5 79, mI i, MU, MU] [] (G, c) (QI P) := by
  have hL := L.1
  have hg := iv_top H
  apply wp_L_law_920
  simp only [w32i (show -2147483648 ≤ i + 1 by omega) (show i + 1 < 2147483648 by omega), w32i (show -2147483648 ≤ i + 2 by omega) (show i + 2 < 2147483648 by omega)]
  refine ⟨⟨by omega, by omega⟩, ⟨by omega, by omega⟩, evI_keep (k_undoing d G c (c (-1) (i + 1)) (c (-1) (i + 2)) H (L.2 (i + 1)).2) (fun r1 ν1 s1 q1 => ?_)⟩
  obtain ⟨x1, x2, x3⟩ := s1 hg
  dsimp only at x2 x3
  simp only [x2, x3]
  refine ⟨⟨by omega, by omega⟩, ⟨by omega, by omega⟩, evI_keep q1 (fun r2 ν2 s2 q2 => ?_)⟩
  rw [if_pos (q2.elim fun e _ => e)]
  exact ln_2 d P N hg s1 s2 q2
theorem c_957 (H : IV G c) (L : LwS G c i) (N : LwN d P G c i) : At (d + 41) mL_law 957 [mR 1 0, mR 16 0, mR 18 62, mR 5 79, mI i, MU, MU] [] (G, c) (QI P) := by
  have hL := L.1
  have hg := iv_top H
  apply wp_L_law_957
  refine evI_keep (k_reach d G c  H) (fun r1 ν1 s1 q1 => ?_)
  obtain ⟨x1, x2, x3⟩ := s1 hg
  dsimp only at x2 x3
  refine evI_keep q1 (fun r2 ν2 s2 q2 => ?_)
  rw [if_pos (q2.elim fun e _ => e)]
  exact ln_2 d P N hg s1 s2 q2
theorem c_970 (H : IV G c) (L : LwS G c i) (N : LwN d P G c i) : At (d + 41) mL_law 970 [mR 1 0, mR 16 0, mR 18 62, mR 5 79, mI i, MU, MU] [] (G, c) (QI P) := by
  have hL := L.1
  have hg := iv_top H
  apply wp_L_law_970
  refine evI_keep (k_deepest d G c  H) (fun r1 ν1 s1 q1 => ?_)
  obtain ⟨x1, x2, x3⟩ := s1 hg
  dsimp only at x2 x3
  refine evI_keep q1 (fun r2 ν2 s2 q2 => ?_)
  rw [if_pos (q2.elim fun e _ => e)]
  exact ln_2 d P N hg s1 s2 q2
theorem c_983 (H : IV G c) (L : LwS G c i) (N : LwN d P G c i) : At (d + 41) mL_law 983 [mR 1 0, mR 16 0, mR 18 62, mR 5 79, mI i, MU, MU] [] (G, c) (QI P) := by
  have hL := L.1
  have hg := iv_top H
  apply wp_L_law_983
  refine evI_keep (k_evens d G c  H) (fun r1 ν1 s1 q1 => ?_)
  obtain ⟨x1, x2, x3⟩ := s1 hg
  dsimp only at x2 x3
  refine evI_keep q1 (fun r2 ν2 s2 q2 => ?_)
  rw [if_pos (q2.elim fun e _ => e)]
  exact ln_2 d P N hg s1 s2 q2
theorem c_996 (H : IV G c) (L : LwS G c i) (N : LwN d P G c i) : At (d + 41) mL_law 996 [mR 1 0, mR 16 0, mR 18 62, mR 5 79, mI i, MU, MU] [] (G, c) (QI P) := by
  have hL := L.1
  have hg := iv_top H
  apply wp_L_law_996
  simp only [w32i (show -2147483648 ≤ i + 1 by omega) (show i + 1 < 2147483648 by omega)]
  refine ⟨⟨by omega, by omega⟩, evI_keep (k_orbit d G c (c (-1) (i + 1)) H) (fun r1 ν1 s1 q1 => ?_)⟩
  obtain ⟨x1, x2, x3⟩ := s1 hg
  dsimp only at x2 x3
  simp only [x2, x3]
  refine ⟨⟨by omega, by omega⟩, evI_keep q1 (fun r2 ν2 s2 q2 => ?_)⟩
  rw [if_pos (q2.elim fun e _ => e)]
  exact ln_2 d P N hg s1 s2 q2
theorem c_1021 (H : IV G c) (L : LwS G c i) (N : LwN d P G c i) : At (d + 41) mL_law 1021 [mR 1 0, mR 16 0, mR 18 62, mR 5 79, mI i, MU, MU] [] (G, c) (QI P) := by
  have hL := L.1
  have hg := iv_top H
  apply wp_L_law_1021
  simp only [w32i (show -2147483648 ≤ i + 1 by omega) (show i + 1 < 2147483648 by omega)]
  refine ⟨⟨by omega, by omega⟩, evI_keep (k_keeps d G c (c (-1) (i + 1)) H) (fun r1 ν1 s1 q1 => ?_)⟩
  obtain ⟨x1, x2, x3⟩ := s1 hg
  dsimp only at x2 x3
  simp only [x2, x3]
  refine ⟨⟨by omega, by omega⟩, evI_keep q1 (fun r2 ν2 s2 q2 => ?_)⟩
  rw [if_pos (q2.elim fun e _ => e)]
  exact ln_2 d P N hg s1 s2 q2
theorem c_1046 (H : IV G c) (L : LwS G c i) (N : LwN d P G c i) : At (d + 41) mL_law 1046 [mR 1 0, mR 16 0, mR 18 62, mR 5 79, mI i, MU, MU] [] (G, c) (QI P) := by
  have hL := L.1
  have hg := iv_top H
  apply wp_L_law_1046
  refine evI_keep (k_pairs d G c  H) (fun r1 ν1 s1 q1 => ?_)
  obtain ⟨x1, x2, x3⟩ := s1 hg
  dsimp only at x2 x3
  refine evI_keep q1 (fun r2 ν2 s2 q2 => ?_)
  rw [if_pos (q2.elim fun e _ => e)]
  exact ln_2 d P N hg s1 s2 q2
theorem c_1059 (H : IV G c) (L : LwS G c i) (N : LwN d P G c i) : At (d + 41) mL_law 1059 [mR 1 0, mR 16 0, mR 18 62, mR 5 79, mI i, MU, MU] [] (G, c) (QI P) := by
  have hL := L.1
  have hg := iv_top H
  apply wp_L_law_1059
  refine evI_keep (k_centre d G c  H) (fun r1 ν1 s1 q1 => ?_)
  obtain ⟨x1, x2, x3⟩ := s1 hg
  dsimp only at x2 x3
  refine evI_keep q1 (fun r2 ν2 s2 q2 => ?_)
  rw [if_pos (q2.elim fun e _ => e)]
  exact ln_2 d P N hg s1 s2 q2
theorem c_1072 (H : IV G c) (L : LwS G c i) (N : LwN d P G c i) : At (d + 41) mL_law 1072 [mR 1 0, mR 16 0, mR 18 62, mR 5 79, mI i, MU, MU] [] (G, c) (QI P) := by
  have hL := L.1
  have hg := iv_top H
  apply wp_L_law_1072
  refine evI_keep (k_errand d G c  H) (fun r1 ν1 s1 q1 => ?_)
  obtain ⟨x1, x2, x3⟩ := s1 hg
  dsimp only at x2 x3
  refine evI_keep q1 (fun r2 ν2 s2 q2 => ?_)
  rw [if_pos (q2.elim fun e _ => e)]
  exact ln_2 d P N hg s1 s2 q2
theorem c_1085 (H : IV G c) (L : LwS G c i) (N : LwN d P G c i) : At (d + 41) mL_law 1085 [mR 1 0, mR 16 0, mR 18 62, mR 5 79, mI i, MU, MU] [] (G, c) (QI P) := by
  have hL := L.1
  have hg := iv_top H
  apply wp_L_law_1085
  simp only [w32i (show -2147483648 ≤ i + 1 by omega) (show i + 1 < 2147483648 by omega)]
  refine ⟨⟨by omega, by omega⟩, evI_keep (k_errandAt d G c (c (-1) (i + 1)) H) (fun r1 ν1 s1 q1 => ?_)⟩
  obtain ⟨x1, x2, x3⟩ := s1 hg
  dsimp only at x2 x3
  simp only [x2, x3]
  refine ⟨⟨by omega, by omega⟩, evI_keep q1 (fun r2 ν2 s2 q2 => ?_)⟩
  rw [if_pos (q2.elim fun e _ => e)]
  exact ln_2 d P N hg s1 s2 q2
theorem c_1110 (H : IV G c) (L : LwS G c i) (N : LwN d P G c i) : At (d + 41) mL_law 1110 [mR 1 0, mR 16 0, mR 18 62, mR 5 79, mI i, MU, MU] [] (G, c) (QI P) := by
  have hL := L.1
  have hg := iv_top H
  apply wp_L_law_1110
  refine evI_keep (k_peace d G c  H) (fun r1 ν1 s1 q1 => ?_)
  obtain ⟨x1, x2, x3⟩ := s1 hg
  dsimp only at x2 x3
  refine evI_keep q1 (fun r2 ν2 s2 q2 => ?_)
  rw [if_pos (q2.elim fun e _ => e)]
  exact ln_2 d P N hg s1 s2 q2
theorem c_1123 (H : IV G c) (L : LwS G c i) (N : LwN d P G c i) : At (d + 41) mL_law 1123 [mR 1 0, mR 16 0, mR 18 62, mR 5 79, mI i, MU, MU] [] (G, c) (QI P) := by
  have hL := L.1
  have hg := iv_top H
  apply wp_L_law_1123
  simp only [w32i (show -2147483648 ≤ i + 1 by omega) (show i + 1 < 2147483648 by omega)]
  refine ⟨⟨by omega, by omega⟩, evI_keep (k_peaceAt d G c (c (-1) (i + 1)) H) (fun r1 ν1 s1 q1 => ?_)⟩
  obtain ⟨x1, x2, x3⟩ := s1 hg
  dsimp only at x2 x3
  simp only [x2, x3]
  refine ⟨⟨by omega, by omega⟩, evI_keep q1 (fun r2 ν2 s2 q2 => ?_)⟩
  rw [if_pos (q2.elim fun e _ => e)]
  exact ln_2 d P N hg s1 s2 q2
theorem c_1148 (H : IV G c) (L : LwS G c i) (N : LwN d P G c i) : At (d + 41) mL_law 1148 [mR 1 0, mR 16 0, mR 18 62, mR 5 79, mI i, MU, MU] [] (G, c) (QI P) := by
  have hL := L.1
  have hg := iv_top H
  apply wp_L_law_1148
  simp only [w32i (show -2147483648 ≤ i + 1 by omega) (show i + 1 < 2147483648 by omega), w32i (show -2147483648 ≤ i + 2 by omega) (show i + 2 < 2147483648 by omega)]
  refine ⟨⟨by omega, by omega⟩, ⟨by omega, by omega⟩, evI_keep (k_bring d G c (c (-1) (i + 1)) (c (-1) (i + 2)) H) (fun r1 ν1 s1 q1 => ?_)⟩
  obtain ⟨x1, x2, x3⟩ := s1 hg
  dsimp only at x2 x3
  simp only [x2, x3]
  refine ⟨⟨by omega, by omega⟩, ⟨by omega, by omega⟩, evI_keep q1 (fun r2 ν2 s2 q2 => ?_)⟩
  rw [if_pos (q2.elim fun e _ => e)]
  exact ln_2 d P N hg s1 s2 q2
theorem c_1185 (H : IV G c) (L : LwS G c i) (N : LwN d P G c i) : At (d + 41) mL_law 1185 [mR 1 0, mR 16 0, mR 18 62, mR 5 79, mI i, MU, MU] [] (G, c) (QI P) := by
  have hL := L.1
  have hg := iv_top H
  apply wp_L_law_1185
  refine evI_keep (k_calmest d G c  H) (fun r1 ν1 s1 q1 => ?_)
  obtain ⟨x1, x2, x3⟩ := s1 hg
  dsimp only at x2 x3
  refine evI_keep q1 (fun r2 ν2 s2 q2 => ?_)
  rw [if_pos (q2.elim fun e _ => e)]
  exact ln_2 d P N hg s1 s2 q2
theorem c_1198 (H : IV G c) (L : LwS G c i) (N : LwN d P G c i) : At (d + 41) mL_law 1198 [mR 1 0, mR 16 0, mR 18 62, mR 5 79, mI i, MU, MU] [] (G, c) (QI P) := by
  have hL := L.1
  have hg := iv_top H
  apply wp_L_law_1198
  simp only [w32i (show -2147483648 ≤ i + 1 by omega) (show i + 1 < 2147483648 by omega)]
  refine ⟨⟨by omega, by omega⟩, evL_keep (k_colourings d G c (c (-1) (i + 1)) H) (fun r1 ν1 s1 q1 => ?_)⟩
  obtain ⟨x1, x2, x3⟩ := s1 hg
  dsimp only at x2 x3
  simp only [x2, x3]
  refine ⟨⟨by omega, by omega⟩, evL_keep q1 (fun r2 ν2 s2 q2 => ?_)⟩
  rw [if_pos (lcmp_eq.2 (q2.elim fun e _ => e))]
  exact ln_2 d P N hg s1 s2 q2
theorem c_1224 (H : IV G c) (L : LwS G c i) (N : LwN d P G c i) : At (d + 41) mL_law 1224 [mR 1 0, mR 16 0, mR 18 62, mR 5 79, mI i, MU, MU] [] (G, c) (QI P) := by
  have hL := L.1
  have hg := iv_top H
  apply wp_L_law_1224
  simp only [w32i (show -2147483648 ≤ i + 1 by omega) (show i + 1 < 2147483648 by omega)]
  refine ⟨⟨by omega, by omega⟩, evL_keep (k_mirrored d G c (c (-1) (i + 1)) H) (fun r1 ν1 s1 q1 => ?_)⟩
  obtain ⟨x1, x2, x3⟩ := s1 hg
  dsimp only at x2 x3
  simp only [x2, x3]
  refine ⟨⟨by omega, by omega⟩, evL_keep q1 (fun r2 ν2 s2 q2 => ?_)⟩
  rw [if_pos (lcmp_eq.2 (q2.elim fun e _ => e))]
  exact ln_2 d P N hg s1 s2 q2
theorem c_1250 (H : IV G c) (L : LwS G c i) (N : LwN d P G c i) : At (d + 41) mL_law 1250 [mR 1 0, mR 16 0, mR 18 62, mR 5 79, mI i, MU, MU] [] (G, c) (QI P) := by
  have hL := L.1
  have hg := iv_top H
  apply wp_L_law_1250
  simp only [w32i (show -2147483648 ≤ i + 1 by omega) (show i + 1 < 2147483648 by omega), w32i (show -2147483648 ≤ i + 2 by omega) (show i + 2 < 2147483648 by omega)]
  refine ⟨⟨by omega, by omega⟩, ⟨by omega, by omega⟩, evL_keep (k_necklaces d G c (c (-1) (i + 1)) (c (-1) (i + 2)) H) (fun r1 ν1 s1 q1 => ?_)⟩
  obtain ⟨x1, x2, x3⟩ := s1 hg
  dsimp only at x2 x3
  simp only [x2, x3]
  refine ⟨⟨by omega, by omega⟩, ⟨by omega, by omega⟩, evL_keep q1 (fun r2 ν2 s2 q2 => ?_)⟩
  rw [if_pos (lcmp_eq.2 (q2.elim fun e _ => e))]
  exact ln_2 d P N hg s1 s2 q2
theorem c_1288 (H : IV G c) (L : LwS G c i) (N : LwN d P G c i) : At (d + 41) mL_law 1288 [mR 1 0, mR 16 0, mR 18 62, mR 5 79, mI i, MU, MU] [] (G, c) (QI P) := by
  have hL := L.1
  have hg := iv_top H
  apply wp_L_law_1288
  simp only [w32i (show -2147483648 ≤ i + 1 by omega) (show i + 1 < 2147483648 by omega), w32i (show -2147483648 ≤ i + 2 by omega) (show i + 2 < 2147483648 by omega)]
  refine ⟨⟨by omega, by omega⟩, ⟨by omega, by omega⟩, evL_keep (k_bracelets d G c (c (-1) (i + 1)) (c (-1) (i + 2)) H) (fun r1 ν1 s1 q1 => ?_)⟩
  obtain ⟨x1, x2, x3⟩ := s1 hg
  dsimp only at x2 x3
  simp only [x2, x3]
  refine ⟨⟨by omega, by omega⟩, ⟨by omega, by omega⟩, evL_keep q1 (fun r2 ν2 s2 q2 => ?_)⟩
  rw [if_pos (lcmp_eq.2 (q2.elim fun e _ => e))]
  exact ln_2 d P N hg s1 s2 q2
theorem c_1326 (H : IV G c) (L : LwS G c i) (N : LwN d P G c i) : At (d + 41) mL_law 1326 [mR 1 0, mR 16 0, mR 18 62, mR 5 79, mI i, MU, MU] [] (G, c) (QI P) := by
  have hL := L.1
  have hg := iv_top H
  apply wp_L_law_1326
  refine evI_keep (k_fits d G c  H) (fun r1 ν1 s1 q1 => ?_)
  obtain ⟨x1, x2, x3⟩ := s1 hg
  dsimp only at x2 x3
  refine evI_keep q1 (fun r2 ν2 s2 q2 => ?_)
  rw [if_pos (q2.elim fun e _ => e)]
  exact ln_2 d P N hg s1 s2 q2
theorem c_1339 (H : IV G c) (L : LwS G c i) (N : LwN d P G c i) : At (d + 41) mL_law 1339 [mR 1 0, mR 16 0, mR 18 62, mR 5 79, mI i, MU, MU] [] (G, c) (QI P) := by
  have hL := L.1
  have hg := iv_top H
  apply wp_L_law_1339
  simp only [w32i (show -2147483648 ≤ i + 1 by omega) (show i + 1 < 2147483648 by omega)]
  refine ⟨⟨by omega, by omega⟩, evI_keep (k_fitAt d G c (c (-1) (i + 1)) H (L.2 (i + 1)).2) (fun r1 ν1 s1 q1 => ?_)⟩
  obtain ⟨x1, x2, x3⟩ := s1 hg
  dsimp only at x2 x3
  simp only [x2, x3]
  refine ⟨⟨by omega, by omega⟩, evI_keep q1 (fun r2 ν2 s2 q2 => ?_)⟩
  rw [if_pos (q2.elim fun e _ => e)]
  exact ln_2 d P N hg s1 s2 q2
theorem c_1364 (H : IV G c) (L : LwS G c i) (N : LwN d P G c i) : At (d + 41) mL_law 1364 [mR 1 0, mR 16 0, mR 18 62, mR 5 79, mI i, MU, MU] [] (G, c) (QI P) := by
  have hL := L.1
  have hg := iv_top H
  apply wp_L_law_1364
  refine evI_keep (k_could d G c  H) (fun r1 ν1 s1 q1 => ?_)
  obtain ⟨x1, x2, x3⟩ := s1 hg
  dsimp only at x2 x3
  refine evI_keep q1 (fun r2 ν2 s2 q2 => ?_)
  rw [if_pos (q2.elim fun e _ => e)]
  exact ln_2 d P N hg s1 s2 q2
theorem c_1377 (H : IV G c) (L : LwS G c i) (N : LwN d P G c i) : At (d + 41) mL_law 1377 [mR 1 0, mR 16 0, mR 18 62, mR 5 79, mI i, MU, MU] [] (G, c) (QI P) := by
  have hL := L.1
  have hg := iv_top H
  apply wp_L_law_1377
  refine evI_keep (k_surely d G c  H) (fun r1 ν1 s1 q1 => ?_)
  obtain ⟨x1, x2, x3⟩ := s1 hg
  dsimp only at x2 x3
  refine evI_keep q1 (fun r2 ν2 s2 q2 => ?_)
  rw [if_pos (q2.elim fun e _ => e)]
  exact ln_2 d P N hg s1 s2 q2
theorem c_1390 (H : IV G c) (L : LwS G c i) (N : LwN d P G c i) : At (d + 41) mL_law 1390 [mR 1 0, mR 16 0, mR 18 62, mR 5 79, mI i, MU, MU] [] (G, c) (QI P) := by
  have hL := L.1
  have hg := iv_top H
  apply wp_L_law_1390
  refine evI_keep (k_ask d G c  H) (fun r1 ν1 s1 q1 => ?_)
  obtain ⟨x1, x2, x3⟩ := s1 hg
  dsimp only at x2 x3
  refine evI_keep q1 (fun r2 ν2 s2 q2 => ?_)
  rw [if_pos (q2.elim fun e _ => e)]
  exact ln_2 d P N hg s1 s2 q2
theorem c_1403 (H : IV G c) (L : LwS G c i) (N : LwN d P G c i) : At (d + 41) mL_law 1403 [mR 1 0, mR 16 0, mR 18 62, mR 5 79, mI i, MU, MU] [] (G, c) (QI P) := by
  have hL := L.1
  have hg := iv_top H
  apply wp_L_law_1403
  refine evI_keep (k_askLeaves d G c  H) (fun r1 ν1 s1 q1 => ?_)
  obtain ⟨x1, x2, x3⟩ := s1 hg
  dsimp only at x2 x3
  refine evI_keep q1 (fun r2 ν2 s2 q2 => ?_)
  rw [if_pos (q2.elim fun e _ => e)]
  exact ln_2 d P N hg s1 s2 q2
theorem c_1416 (H : IV G c) (L : LwS G c i) (N : LwN d P G c i) : At (d + 41) mL_law 1416 [mR 1 0, mR 16 0, mR 18 62, mR 5 79, mI i, MU, MU] [] (G, c) (QI P) := by
  have hL := L.1
  have hg := iv_top H
  apply wp_L_law_1416
  refine evI_keep (k_judge d G c  H) (fun r1 ν1 s1 q1 => ?_)
  obtain ⟨x1, x2, x3⟩ := s1 hg
  dsimp only at x2 x3
  refine evI_keep q1 (fun r2 ν2 s2 q2 => ?_)
  rw [if_pos (q2.elim fun e _ => e)]
  exact ln_2 d P N hg s1 s2 q2
theorem c_1429 (H : IV G c) (L : LwS G c i) (N : LwN d P G c i) : At (d + 41) mL_law 1429 [mR 1 0, mR 16 0, mR 18 62, mR 5 79, mI i, MU, MU] [] (G, c) (QI P) := by
  have hL := L.1
  have hg := iv_top H
  apply wp_L_law_1429
  simp only [w32i (show -2147483648 ≤ i + 1 by omega) (show i + 1 < 2147483648 by omega), w32i (show -2147483648 ≤ i + 2 by omega) (show i + 2 < 2147483648 by omega), w32i (show -2147483648 ≤ i + 3 by omega) (show i + 3 < 2147483648 by omega)]
  refine ⟨⟨by omega, by omega⟩, ⟨by omega, by omega⟩, ⟨by omega, by omega⟩, evI_keep (k_gets d G c (c (-1) (i + 1)) (c (-1) (i + 2)) (c (-1) (i + 3)) H) (fun r1 ν1 s1 q1 => ?_)⟩
  obtain ⟨x1, x2, x3⟩ := s1 hg
  dsimp only at x2 x3
  simp only [x2, x3]
  refine ⟨⟨by omega, by omega⟩, ⟨by omega, by omega⟩, ⟨by omega, by omega⟩, evI_keep q1 (fun r2 ν2 s2 q2 => ?_)⟩
  rw [if_pos (q2.elim fun e _ => e)]
  exact ln_2 d P N hg s1 s2 q2
theorem c_1478 (H : IV G c) (L : LwS G c i) (N : LwN d P G c i) : At (d + 41) mL_law 1478 [mR 1 0, mR 16 0, mR 18 62, mR 5 79, mI i, MU, MU] [] (G, c) (QI P) := by
  have hL := L.1
  have hg := iv_top H
  apply wp_L_law_1478
  simp only [w32i (show -2147483648 ≤ i + 1 by omega) (show i + 1 < 2147483648 by omega), w32i (show -2147483648 ≤ i + 2 by omega) (show i + 2 < 2147483648 by omega), w32i (show -2147483648 ≤ i + 3 by omega) (show i + 3 < 2147483648 by omega)]
  refine ⟨⟨by omega, by omega⟩, ⟨by omega, by omega⟩, ⟨by omega, by omega⟩, evI_keep (k_getsBy d G c (c (-1) (i + 1)) (c (-1) (i + 2)) (c (-1) (i + 3)) H) (fun r1 ν1 s1 q1 => ?_)⟩
  obtain ⟨x1, x2, x3⟩ := s1 hg
  dsimp only at x2 x3
  simp only [x2, x3]
  refine ⟨⟨by omega, by omega⟩, ⟨by omega, by omega⟩, ⟨by omega, by omega⟩, evI_keep q1 (fun r2 ν2 s2 q2 => ?_)⟩
  rw [if_pos (q2.elim fun e _ => e)]
  exact ln_2 d P N hg s1 s2 q2
theorem c_1636 (H : IV G c) (L : LwS G c i) (N : LwN d P G c i) : At (d + 41) mL_law 1636 [mR 1 0, mR 16 0, mR 18 62, mR 5 79, mI i, MU, MU] [] (G, c) (QI P) := by
  have hL := L.1
  have hg := iv_top H
  apply wp_L_law_1636
  simp only [w32i (show -2147483648 ≤ i + 1 by omega) (show i + 1 < 2147483648 by omega)]
  refine ⟨⟨by omega, by omega⟩, evI_keep (k_rests d G c (c (-1) (i + 1)) H) (fun r1 ν1 s1 q1 => ?_)⟩
  obtain ⟨x1, x2, x3⟩ := s1 hg
  dsimp only at x2 x3
  simp only [x2, x3]
  refine ⟨⟨by omega, by omega⟩, evI_keep q1 (fun r2 ν2 s2 q2 => ?_)⟩
  rw [if_pos (q2.elim fun e _ => e)]
  exact ln_2 d P N hg s1 s2 q2
theorem c_1661 (H : IV G c) (L : LwS G c i) (N : LwN d P G c i) : At (d + 41) mL_law 1661 [mR 1 0, mR 16 0, mR 18 62, mR 5 79, mI i, MU, MU] [] (G, c) (QI P) := by
  have hL := L.1
  have hg := iv_top H
  apply wp_L_law_1661
  simp only [w32i (show -2147483648 ≤ i + 1 by omega) (show i + 1 < 2147483648 by omega)]
  refine ⟨⟨by omega, by omega⟩, evI_keep (k_rest d G c (c (-1) (i + 1)) H) (fun r1 ν1 s1 q1 => ?_)⟩
  obtain ⟨x1, x2, x3⟩ := s1 hg
  dsimp only at x2 x3
  simp only [x2, x3]
  refine ⟨⟨by omega, by omega⟩, evI_keep q1 (fun r2 ν2 s2 q2 => ?_)⟩
  rw [if_pos (q2.elim fun e _ => e)]
  exact ln_2 d P N hg s1 s2 q2
theorem c_1896 (H : IV G c) (L : LwS G c i) (N : LwN d P G c i) : At (d + 41) mL_law 1896 [mR 1 0, mR 16 0, mR 18 62, mR 5 79, mI i, MU, MU] [] (G, c) (QI P) := by
  have hL := L.1
  have hg := iv_top H
  apply wp_L_law_1896
  simp only [w32i (show -2147483648 ≤ i + 1 by omega) (show i + 1 < 2147483648 by omega), w32i (show -2147483648 ≤ i + 2 by omega) (show i + 2 < 2147483648 by omega), w32i (show -2147483648 ≤ i + 3 by omega) (show i + 3 < 2147483648 by omega)]
  refine ⟨⟨by omega, by omega⟩, ⟨by omega, by omega⟩, ⟨by omega, by omega⟩, evI_keep (k_shaken d G c (c (-1) (i + 1)) (c (-1) (i + 2)) (c (-1) (i + 3)) H) (fun r1 ν1 s1 q1 => ?_)⟩
  obtain ⟨x1, x2, x3⟩ := s1 hg
  dsimp only at x2 x3
  simp only [x2, x3]
  refine ⟨⟨by omega, by omega⟩, ⟨by omega, by omega⟩, ⟨by omega, by omega⟩, evI_keep q1 (fun r2 ν2 s2 q2 => ?_)⟩
  rw [if_pos (q2.elim fun e _ => e)]
  exact ln_2 d P N hg s1 s2 q2
theorem c_1945 (H : IV G c) (L : LwS G c i) (N : LwN d P G c i) : At (d + 41) mL_law 1945 [mR 1 0, mR 16 0, mR 18 62, mR 5 79, mI i, MU, MU] [] (G, c) (QI P) := by
  have hL := L.1
  have hg := iv_top H
  apply wp_L_law_1945
  simp only [w32i (show -2147483648 ≤ i + 1 by omega) (show i + 1 < 2147483648 by omega), w32i (show -2147483648 ≤ i + 2 by omega) (show i + 2 < 2147483648 by omega)]
  refine ⟨⟨by omega, by omega⟩, ⟨by omega, by omega⟩, evI_keep (k_peaceIn d G c (c (-1) (i + 1)) (c (-1) (i + 2)) H) (fun r1 ν1 s1 q1 => ?_)⟩
  obtain ⟨x1, x2, x3⟩ := s1 hg
  dsimp only at x2 x3
  simp only [x2, x3]
  refine ⟨⟨by omega, by omega⟩, ⟨by omega, by omega⟩, evI_keep q1 (fun r2 ν2 s2 q2 => ?_)⟩
  rw [if_pos (q2.elim fun e _ => e)]
  exact ln_2 d P N hg s1 s2 q2
theorem c_1982 (H : IV G c) (L : LwS G c i) (N : LwN d P G c i) : At (d + 41) mL_law 1982 [mR 1 0, mR 16 0, mR 18 62, mR 5 79, mI i, MU, MU] [] (G, c) (QI P) := by
  have hL := L.1
  have hg := iv_top H
  apply wp_L_law_1982
  simp only [w32i (show -2147483648 ≤ i + 1 by omega) (show i + 1 < 2147483648 by omega)]
  refine ⟨⟨by omega, by omega⟩, evI_keep (k_turn d G c (c (-1) (i + 1)) H) (fun r1 ν1 s1 q1 => ?_)⟩
  obtain ⟨x1, x2, x3⟩ := s1 hg
  dsimp only at x2 x3
  simp only [x2, x3]
  refine ⟨⟨by omega, by omega⟩, evI_keep q1 (fun r2 ν2 s2 q2 => ?_)⟩
  rw [if_pos (q2.elim fun e _ => e)]
  exact ln_2 d P N hg s1 s2 q2
theorem c_2007 (H : IV G c) (L : LwS G c i) (N : LwN d P G c i) : At (d + 41) mL_law 2007 [mR 1 0, mR 16 0, mR 18 62, mR 5 79, mI i, MU, MU] [] (G, c) (QI P) := by
  have hL := L.1
  have hg := iv_top H
  apply wp_L_law_2007
  simp only [w32i (show -2147483648 ≤ i + 1 by omega) (show i + 1 < 2147483648 by omega)]
  refine ⟨⟨by omega, by omega⟩, evI_keep (k_turnBack d G c (c (-1) (i + 1)) H) (fun r1 ν1 s1 q1 => ?_)⟩
  obtain ⟨x1, x2, x3⟩ := s1 hg
  dsimp only at x2 x3
  simp only [x2, x3]
  refine ⟨⟨by omega, by omega⟩, evI_keep q1 (fun r2 ν2 s2 q2 => ?_)⟩
  rw [if_pos (q2.elim fun e _ => e)]
  exact ln_2 d P N hg s1 s2 q2
theorem c_2032 (H : IV G c) (L : LwS G c i) (N : LwN d P G c i) : At (d + 41) mL_law 2032 [mR 1 0, mR 16 0, mR 18 62, mR 5 79, mI i, MU, MU] [] (G, c) (QI P) := by
  have hL := L.1
  have hg := iv_top H
  apply wp_L_law_2032
  simp only [w32i (show -2147483648 ≤ i + 1 by omega) (show i + 1 < 2147483648 by omega), w32i (show -2147483648 ≤ i + 2 by omega) (show i + 2 < 2147483648 by omega)]
  refine ⟨⟨by omega, by omega⟩, ⟨by omega, by omega⟩, evI_keep (k_move d G c (c (-1) (i + 1)) (c (-1) (i + 2)) H) (fun r1 ν1 s1 q1 => ?_)⟩
  obtain ⟨x1, x2, x3⟩ := s1 hg
  dsimp only at x2 x3
  simp only [x2, x3]
  refine ⟨⟨by omega, by omega⟩, ⟨by omega, by omega⟩, evI_keep q1 (fun r2 ν2 s2 q2 => ?_)⟩
  rw [if_pos (q2.elim fun e _ => e)]
  exact ln_2 d P N hg s1 s2 q2
theorem c_2069 (H : IV G c) (L : LwS G c i) (N : LwN d P G c i) : At (d + 41) mL_law 2069 [mR 1 0, mR 16 0, mR 18 62, mR 5 79, mI i, MU, MU] [] (G, c) (QI P) := by
  have hL := L.1
  have hg := iv_top H
  apply wp_L_law_2069
  refine evI_keep (k_undo d G c  H) (fun r1 ν1 s1 q1 => ?_)
  obtain ⟨x1, x2, x3⟩ := s1 hg
  dsimp only at x2 x3
  refine evI_keep q1 (fun r2 ν2 s2 q2 => ?_)
  rw [if_pos (q2.elim fun e _ => e)]
  exact ln_2 d P N hg s1 s2 q2
theorem c_2082 (H : IV G c) (L : LwS G c i) (N : LwN d P G c i) : At (d + 41) mL_law 2082 [mR 1 0, mR 16 0, mR 18 62, mR 5 79, mI i, MU, MU] [] (G, c) (QI P) := by
  have hL := L.1
  have hg := iv_top H
  apply wp_L_law_2082
  refine evI_keep (k_keep d G c  H) (fun r1 ν1 s1 q1 => ?_)
  obtain ⟨x1, x2, x3⟩ := s1 hg
  dsimp only at x2 x3
  refine evI_keep q1 (fun r2 ν2 s2 q2 => ?_)
  rw [if_pos (q2.elim fun e _ => e)]
  exact ln_2 d P N hg s1 s2 q2
theorem c_2095 (H : IV G c) (L : LwS G c i) (N : LwN d P G c i) : At (d + 41) mL_law 2095 [mR 1 0, mR 16 0, mR 18 62, mR 5 79, mI i, MU, MU] [] (G, c) (QI P) := by
  have hL := L.1
  have hg := iv_top H
  apply wp_L_law_2095
  simp only [w32i (show -2147483648 ≤ i + 1 by omega) (show i + 1 < 2147483648 by omega)]
  refine ⟨⟨by omega, by omega⟩, evI_keep (k_back d G c (c (-1) (i + 1)) H) (fun r1 ν1 s1 q1 => ?_)⟩
  obtain ⟨x1, x2, x3⟩ := s1 hg
  dsimp only at x2 x3
  simp only [x2, x3]
  refine ⟨⟨by omega, by omega⟩, evI_keep q1 (fun r2 ν2 s2 q2 => ?_)⟩
  rw [if_pos (q2.elim fun e _ => e)]
  exact ln_2 d P N hg s1 s2 q2
theorem c_2176 (H : IV G c) (L : LwS G c i) (N : LwN d P G c i) : At (d + 41) mL_law 2176 [mR 1 0, mR 16 0, mR 18 62, mR 5 79, mI i, MU, MU] [] (G, c) (QI P) := by
  have hL := L.1
  have hg := iv_top H
  apply wp_L_law_2176
  simp only [w32i (show -2147483648 ≤ i + 1 by omega) (show i + 1 < 2147483648 by omega)]
  refine ⟨⟨by omega, by omega⟩, evI_keep (k_size d G c (c (-1) (i + 1)) H) (fun r1 ν1 s1 q1 => ?_)⟩
  obtain ⟨x1, x2, x3⟩ := s1 hg
  dsimp only at x2 x3
  simp only [x2, x3]
  refine ⟨⟨by omega, by omega⟩, evI_keep q1 (fun r2 ν2 s2 q2 => ?_)⟩
  rw [if_pos (q2.elim fun e _ => e)]
  exact ln_2 d P N hg s1 s2 q2
theorem c_2201 (H : IV G c) (L : LwS G c i) (N : LwN d P G c i) : At (d + 41) mL_law 2201 [mR 1 0, mR 16 0, mR 18 62, mR 5 79, mI i, MU, MU] [] (G, c) (QI P) := by
  have hL := L.1
  have hg := iv_top H
  apply wp_L_law_2201
  refine evI_keep (k_trouble d G c  H) (fun r1 ν1 s1 q1 => ?_)
  obtain ⟨x1, x2, x3⟩ := s1 hg
  dsimp only at x2 x3
  refine evI_keep q1 (fun r2 ν2 s2 q2 => ?_)
  rw [if_pos (q2.elim fun e _ => e)]
  exact ln_2 d P N hg s1 s2 q2
theorem c_1686 (H : IV G c) (L : LwS G c i) (N : LwN d P G c i) : At (d + 41) mL_law 1686 [mR 1 0, mR 16 0, mR 18 62, mR 5 79, mI i, MU, MU] [] (G, c) (QI P) := by
  have hL := L.1
  have hg := iv_top H
  apply wp_L_law_1686
  simp only [w32i (show -2147483648 ≤ i + 1 by omega) (show i + 1 < 2147483648 by omega), w32i (show -2147483648 ≤ i + 2 by omega) (show i + 2 < 2147483648 by omega), w32i (show -2147483648 ≤ i + 3 by omega) (show i + 3 < 2147483648 by omega), w32i (show -2147483648 ≤ i + 4 by omega) (show i + 4 < 2147483648 by omega)]
  refine ⟨⟨by omega, by omega⟩, ⟨by omega, by omega⟩, ⟨by omega, by omega⟩, ⟨by omega, by omega⟩, ?_⟩
  by_cases h : c (-1) (i + 4) = 0
  · rw [if_pos h]
    apply wp_L_law_1719
    simp only [w32i (show -2147483648 ≤ i + 1 by omega) (show i + 1 < 2147483648 by omega), w32i (show -2147483648 ≤ i + 2 by omega) (show i + 2 < 2147483648 by omega), w32i (show -2147483648 ≤ i + 3 by omega) (show i + 3 < 2147483648 by omega), w32i (show -2147483648 ≤ i + 4 by omega) (show i + 4 < 2147483648 by omega)]
    refine evL_keep (k_odds d G c (c (-1) (i + 1)) (c (-1) (i + 2)) (c (-1) (i + 3)) 0 H) (fun r1 ν1 s1 q1 => ?_)
    obtain ⟨x1, x2, x3⟩ := s1 hg
    dsimp only at x2 x3
    simp only [x2, x3]
    rw [if_pos h]
    refine ⟨⟨by omega, by omega⟩, ⟨by omega, by omega⟩, ⟨by omega, by omega⟩, ⟨by omega, by omega⟩, evL_keep q1 (fun r2 ν2 s2 q2 => ?_)⟩
    rw [if_pos (lcmp_eq.2 (q2.elim fun e _ => e))]
    exact ln_2 d P N hg s1 s2 q2
  · rw [if_neg h]
    apply wp_L_law_1719
    simp only [w32i (show -2147483648 ≤ i + 1 by omega) (show i + 1 < 2147483648 by omega), w32i (show -2147483648 ≤ i + 2 by omega) (show i + 2 < 2147483648 by omega), w32i (show -2147483648 ≤ i + 3 by omega) (show i + 3 < 2147483648 by omega), w32i (show -2147483648 ≤ i + 4 by omega) (show i + 4 < 2147483648 by omega)]
    refine evL_keep (k_odds d G c (c (-1) (i + 1)) (c (-1) (i + 2)) (c (-1) (i + 3)) 1 H) (fun r1 ν1 s1 q1 => ?_)
    obtain ⟨x1, x2, x3⟩ := s1 hg
    dsimp only at x2 x3
    simp only [x2, x3]
    rw [if_neg h]
    refine ⟨⟨by omega, by omega⟩, ⟨by omega, by omega⟩, ⟨by omega, by omega⟩, ⟨by omega, by omega⟩, evL_keep q1 (fun r2 ν2 s2 q2 => ?_)⟩
    rw [if_pos (lcmp_eq.2 (q2.elim fun e _ => e))]
    exact ln_2 d P N hg s1 s2 q2
theorem c_1764 (H : IV G c) (L : LwS G c i) (N : LwN d P G c i) : At (d + 41) mL_law 1764 [mR 1 0, mR 16 0, mR 18 62, mR 5 79, mI i, MU, MU] [] (G, c) (QI P) := by
  have hL := L.1
  have hg := iv_top H
  apply wp_L_law_1764
  simp only [w32i (show -2147483648 ≤ i + 1 by omega) (show i + 1 < 2147483648 by omega), w32i (show -2147483648 ≤ i + 2 by omega) (show i + 2 < 2147483648 by omega), w32i (show -2147483648 ≤ i + 3 by omega) (show i + 3 < 2147483648 by omega), w32i (show -2147483648 ≤ i + 4 by omega) (show i + 4 < 2147483648 by omega)]
  refine ⟨⟨by omega, by omega⟩, ⟨by omega, by omega⟩, ⟨by omega, by omega⟩, ⟨by omega, by omega⟩, ?_⟩
  by_cases h : c (-1) (i + 4) = 0
  · rw [if_pos h]
    apply wp_L_law_1797
    simp only [w32i (show -2147483648 ≤ i + 1 by omega) (show i + 1 < 2147483648 by omega), w32i (show -2147483648 ≤ i + 2 by omega) (show i + 2 < 2147483648 by omega), w32i (show -2147483648 ≤ i + 3 by omega) (show i + 3 < 2147483648 by omega), w32i (show -2147483648 ≤ i + 4 by omega) (show i + 4 < 2147483648 by omega)]
    refine evL_keep (k_slotOdds d G c (c (-1) (i + 1)) (c (-1) (i + 2)) (c (-1) (i + 3)) 0 H) (fun r1 ν1 s1 q1 => ?_)
    obtain ⟨x1, x2, x3⟩ := s1 hg
    dsimp only at x2 x3
    simp only [x2, x3]
    rw [if_pos h]
    refine ⟨⟨by omega, by omega⟩, ⟨by omega, by omega⟩, ⟨by omega, by omega⟩, ⟨by omega, by omega⟩, evL_keep q1 (fun r2 ν2 s2 q2 => ?_)⟩
    rw [if_pos (lcmp_eq.2 (q2.elim fun e _ => e))]
    exact ln_2 d P N hg s1 s2 q2
  · rw [if_neg h]
    apply wp_L_law_1797
    simp only [w32i (show -2147483648 ≤ i + 1 by omega) (show i + 1 < 2147483648 by omega), w32i (show -2147483648 ≤ i + 2 by omega) (show i + 2 < 2147483648 by omega), w32i (show -2147483648 ≤ i + 3 by omega) (show i + 3 < 2147483648 by omega), w32i (show -2147483648 ≤ i + 4 by omega) (show i + 4 < 2147483648 by omega)]
    refine evL_keep (k_slotOdds d G c (c (-1) (i + 1)) (c (-1) (i + 2)) (c (-1) (i + 3)) 1 H) (fun r1 ν1 s1 q1 => ?_)
    obtain ⟨x1, x2, x3⟩ := s1 hg
    dsimp only at x2 x3
    simp only [x2, x3]
    rw [if_neg h]
    refine ⟨⟨by omega, by omega⟩, ⟨by omega, by omega⟩, ⟨by omega, by omega⟩, ⟨by omega, by omega⟩, evL_keep q1 (fun r2 ν2 s2 q2 => ?_)⟩
    rw [if_pos (lcmp_eq.2 (q2.elim fun e _ => e))]
    exact ln_2 d P N hg s1 s2 q2
theorem c_1842 (H : IV G c) (L : LwS G c i) (N : LwN d P G c i) : At (d + 41) mL_law 1842 [mR 1 0, mR 16 0, mR 18 62, mR 5 79, mI i, MU, MU] [] (G, c) (QI P) := by
  have hL := L.1
  have hg := iv_top H
  apply wp_L_law_1842
  simp only [w32i (show -2147483648 ≤ i + 1 by omega) (show i + 1 < 2147483648 by omega), w32i (show -2147483648 ≤ i + 2 by omega) (show i + 2 < 2147483648 by omega)]
  refine ⟨⟨by omega, by omega⟩, ⟨by omega, by omega⟩, ?_⟩
  by_cases h : c (-1) (i + 2) = 0
  · rw [if_pos h]
    apply wp_L_law_1863
    simp only [w32i (show -2147483648 ≤ i + 1 by omega) (show i + 1 < 2147483648 by omega), w32i (show -2147483648 ≤ i + 2 by omega) (show i + 2 < 2147483648 by omega)]
    refine evL_keep (k_mean d G c (c (-1) (i + 1)) 0 H) (fun r1 ν1 s1 q1 => ?_)
    obtain ⟨x1, x2, x3⟩ := s1 hg
    dsimp only at x2 x3
    simp only [x2, x3]
    rw [if_pos h]
    refine ⟨⟨by omega, by omega⟩, ⟨by omega, by omega⟩, evL_keep q1 (fun r2 ν2 s2 q2 => ?_)⟩
    rw [if_pos (lcmp_eq.2 (q2.elim fun e _ => e))]
    exact ln_2 d P N hg s1 s2 q2
  · rw [if_neg h]
    apply wp_L_law_1863
    simp only [w32i (show -2147483648 ≤ i + 1 by omega) (show i + 1 < 2147483648 by omega), w32i (show -2147483648 ≤ i + 2 by omega) (show i + 2 < 2147483648 by omega)]
    refine evL_keep (k_mean d G c (c (-1) (i + 1)) 1 H) (fun r1 ν1 s1 q1 => ?_)
    obtain ⟨x1, x2, x3⟩ := s1 hg
    dsimp only at x2 x3
    simp only [x2, x3]
    rw [if_neg h]
    refine ⟨⟨by omega, by omega⟩, ⟨by omega, by omega⟩, evL_keep q1 (fun r2 ν2 s2 q2 => ?_)⟩
    rw [if_pos (lcmp_eq.2 (q2.elim fun e _ => e))]
    exact ln_2 d P N hg s1 s2 q2
theorem c_1600 (H : 0 ≤ gTop G) (L : LwS G c i) (N : LwN d P G c i) {ν1 : MM} (s1 : Sc (G, c) ν1) (r1 : Int) (k2 k3 k4 : Int) (h2 : (c (-1) (i + 2) = 0 ∧ k2 = 0) ∨ (c (-1) (i + 2) ≠ 0 ∧ k2 = 1)) (h3 : (c (-1) (i + 3) = 0 ∧ k3 = 0) ∨ (c (-1) (i + 3) ≠ 0 ∧ k3 = 1)) (h4 : (c (-1) (i + 4) = 0 ∧ k4 = 0) ∨ (c (-1) (i + 4) ≠ 0 ∧ k4 = 1)) (q1 : EvI (d + 40) mX12_looks [mR 18 62, mI (c (-1) (i + 1)), mI k2, mI k3, mI k4] (ν1.1, ν1.2) (fun r2 ν2 => K2 G r1 r2 ν2)) : At (d + 41) mL_law 1600 [mR 1 0, mR 16 0, mR 18 62, mR 5 79, mI i, MU, MU] [mI k2, mI (c (-1) (i + 1)), mR 18 62, mI r1] (ν1.1, ν1.2) (QI P) := by
  have hL := L.1
  obtain ⟨x1, x2, x3⟩ := s1 H
  dsimp only at x2 x3
  have fin : EvI (d + 40) mX12_looks [mR 18 62, mI (c (-1) (i + 1)), mI k2, mI k3, mI k4] (ν1.1, ν1.2) (fun r2 ν2 => if r1 = r2 then At (d + 40 + 1) mL_law 2214 [mR 1 0, mR 16 0, mR 18 62, mR 5 79, mI i, MU, MU] [] (ν2.1, ν2.2) (QI P) else (0 ≤ (0 : Int) ∧ (0 : Int) ≤ 1) ∧ P 0 (ν2.1, ν2.2)) := evI_keep q1 (fun r2 ν2 s2 q2 => by
    rw [if_pos (q2.elim fun e _ => e)]
    exact ln_2 d P N H s1 s2 q2)
  apply wp_L_law_1600
  simp only [w32i (show -2147483648 ≤ i + 1 by omega) (show i + 1 < 2147483648 by omega), w32i (show -2147483648 ≤ i + 2 by omega) (show i + 2 < 2147483648 by omega), w32i (show -2147483648 ≤ i + 3 by omega) (show i + 3 < 2147483648 by omega), w32i (show -2147483648 ≤ i + 4 by omega) (show i + 4 < 2147483648 by omega), x2, x3]
  refine ⟨⟨by omega, by omega⟩, ?_⟩
  rcases h3 with ⟨h3, rfl⟩ | ⟨h3, rfl⟩
  · rw [if_pos h3]
    refine ⟨⟨by omega, by omega⟩, ?_⟩
    rcases h4 with ⟨h4, rfl⟩ | ⟨h4, rfl⟩
    · rw [if_pos h4]; exact fin
    · rw [if_neg h4]; exact fin
  · rw [if_neg h3]
    refine ⟨⟨by omega, by omega⟩, ?_⟩
    rcases h4 with ⟨h4, rfl⟩ | ⟨h4, rfl⟩
    · rw [if_pos h4]; exact fin
    · rw [if_neg h4]; exact fin
theorem c_1576 (H : IV G c) (L : LwS G c i) (N : LwN d P G c i) (k2 k3 k4 : Int) (h2 : (c (-1) (i + 2) = 0 ∧ k2 = 0) ∨ (c (-1) (i + 2) ≠ 0 ∧ k2 = 1)) (h3 : (c (-1) (i + 3) = 0 ∧ k3 = 0) ∨ (c (-1) (i + 3) ≠ 0 ∧ k3 = 1)) (h4 : (c (-1) (i + 4) = 0 ∧ k4 = 0) ∨ (c (-1) (i + 4) ≠ 0 ∧ k4 = 1)) : At (d + 41) mL_law 1576 [mR 1 0, mR 16 0, mR 18 62, mR 5 79, mI i, MU, MU] [mI k4, mI k3, mI k2, mI (c (-1) (i + 1)), mR 16 0] (G, c) (QI P) := by
  have hL := L.1
  have hg := iv_top H
  apply wp_L_law_1576
  simp only [w32i (show -2147483648 ≤ i + 1 by omega) (show i + 1 < 2147483648 by omega), w32i (show -2147483648 ≤ i + 2 by omega) (show i + 2 < 2147483648 by omega), w32i (show -2147483648 ≤ i + 3 by omega) (show i + 3 < 2147483648 by omega), w32i (show -2147483648 ≤ i + 4 by omega) (show i + 4 < 2147483648 by omega)]
  refine evI_keep (k_looks d G c (c (-1) (i + 1)) k2 k3 k4 H) (fun r1 ν1 s1 q1 => ?_)
  have x := s1 hg
  obtain ⟨x1, x2, x3⟩ := x
  dsimp only at x2 x3
  simp only [x2, x3]
  refine ⟨⟨by omega, by omega⟩, ⟨by omega, by omega⟩, ?_⟩
  have key := c_1600 d P hg L N s1 r1 k2 k3 k4 h2 h3 h4 q1
  rcases h2 with ⟨h2, rfl⟩ | ⟨h2, rfl⟩
  · rw [if_pos h2]; exact key
  · rw [if_neg h2]; exact key
theorem c_1527 (H : IV G c) (L : LwS G c i) (N : LwN d P G c i) : At (d + 41) mL_law 1527 [mR 1 0, mR 16 0, mR 18 62, mR 5 79, mI i, MU, MU] [] (G, c) (QI P) := by
  have hL := L.1
  have s4 : ∀ k2 k3, ((c (-1) (i + 2) = 0 ∧ k2 = 0) ∨ (c (-1) (i + 2) ≠ 0 ∧ k2 = 1)) → ((c (-1) (i + 3) = 0 ∧ k3 = 0) ∨ (c (-1) (i + 3) ≠ 0 ∧ k3 = 1)) → At (d + 41) mL_law 1562 [mR 1 0, mR 16 0, mR 18 62, mR 5 79, mI i, MU, MU] [mI k3, mI k2, mI (c (-1) (i + 1)), mR 16 0] (G, c) (QI P) := fun k2 k3 h2 h3 => by
    apply wp_L_law_1562
    simp only [w32i (show -2147483648 ≤ i + 1 by omega) (show i + 1 < 2147483648 by omega), w32i (show -2147483648 ≤ i + 2 by omega) (show i + 2 < 2147483648 by omega), w32i (show -2147483648 ≤ i + 3 by omega) (show i + 3 < 2147483648 by omega), w32i (show -2147483648 ≤ i + 4 by omega) (show i + 4 < 2147483648 by omega)]
    refine ⟨⟨by omega, by omega⟩, ?_⟩
    by_cases h : c (-1) (i + 4) = 0
    · rw [if_pos h]; exact c_1576 d P H L N k2 k3 0 h2 h3 (Or.inl ⟨h, rfl⟩)
    · rw [if_neg h]; exact c_1576 d P H L N k2 k3 1 h2 h3 (Or.inr ⟨h, rfl⟩)
  have s3 : ∀ k2, ((c (-1) (i + 2) = 0 ∧ k2 = 0) ∨ (c (-1) (i + 2) ≠ 0 ∧ k2 = 1)) → At (d + 41) mL_law 1548 [mR 1 0, mR 16 0, mR 18 62, mR 5 79, mI i, MU, MU] [mI k2, mI (c (-1) (i + 1)), mR 16 0] (G, c) (QI P) := fun k2 h2 => by
    apply wp_L_law_1548
    simp only [w32i (show -2147483648 ≤ i + 1 by omega) (show i + 1 < 2147483648 by omega), w32i (show -2147483648 ≤ i + 2 by omega) (show i + 2 < 2147483648 by omega), w32i (show -2147483648 ≤ i + 3 by omega) (show i + 3 < 2147483648 by omega), w32i (show -2147483648 ≤ i + 4 by omega) (show i + 4 < 2147483648 by omega)]
    refine ⟨⟨by omega, by omega⟩, ?_⟩
    by_cases h : c (-1) (i + 3) = 0
    · rw [if_pos h]; exact s4 k2 0 h2 (Or.inl ⟨h, rfl⟩)
    · rw [if_neg h]; exact s4 k2 1 h2 (Or.inr ⟨h, rfl⟩)
  apply wp_L_law_1527
  simp only [w32i (show -2147483648 ≤ i + 1 by omega) (show i + 1 < 2147483648 by omega), w32i (show -2147483648 ≤ i + 2 by omega) (show i + 2 < 2147483648 by omega), w32i (show -2147483648 ≤ i + 3 by omega) (show i + 3 < 2147483648 by omega), w32i (show -2147483648 ≤ i + 4 by omega) (show i + 4 < 2147483648 by omega)]
  refine ⟨⟨by omega, by omega⟩, ⟨by omega, by omega⟩, ?_⟩
  by_cases h : c (-1) (i + 2) = 0
  · rw [if_pos h]; exact s3 0 (Or.inl ⟨h, rfl⟩)
  · rw [if_neg h]; exact s3 1 (Or.inr ⟨h, rfl⟩)
theorem q_thrown : EvI (d + 1) mX12_thrown [mR 18 62] (G, c) P = P (c 62 0) (G, c) := evI_eq (ev_X12_thrown d _ G c 62 (by decide) ⟨by decide, rfl, rfl⟩) P
theorem c_2120 (H : IV G c) (L : LwS G c i) (N : LwN d P G c i) : At (d + 41) mL_law 2120 [mR 1 0, mR 16 0, mR 18 62, mR 5 79, mI i, MU, MU] [] (G, c) (QI P) := by
  have hL := L.1
  have hg := iv_top H
  apply wp_L_law_2120
  simp only [w32i (show -2147483648 ≤ i + 1 by omega) (show i + 1 < 2147483648 by omega)]
  refine ⟨⟨by omega, by omega⟩, evI_keep (k_led d G c (c (-1) (i + 1)) (L.2 _).1 (L.2 _).2 H) (fun r1 ν1 s1 q1 => ?_)⟩
  have x := s1 hg
  obtain ⟨x1, x2, x3⟩ := x
  dsimp only at x2 x3
  simp only [x2, x3]
  refine ⟨⟨by omega, by omega⟩, evI_keep q1 (fun r2 ν2 s2 q2 => ?_)⟩
  obtain ⟨k1, k2, iv, g1, g2⟩ := q2
  have y := s2 x1
  obtain ⟨y1, y2, y3⟩ := y
  have fin : At (d + 40 + 1) mL_law 2214 [mR 1 0, mR 16 0, mR 18 62, mR 5 79, mI i, MU, MU] [] (ν2.1, ν2.2) (QI P) := N ν2.1 ν2.2 iv g1 g2 (fun j => (y2 j).trans (x2 j)) (y3.trans x3)
  have l79 : gLn ν2.1 79 = 1 := by
    obtain ⟨_, t, z, S, _⟩ := iv
    exact S.l79
  rw [q_thrown, k1, if_pos rfl]
  dsimp only
  by_cases h : r1 = 0
  · rw [if_pos h, l79, if_pos (lcmp_eq.2 (k2 h))]
    exact ⟨⟨by decide, by decide, by decide⟩, fin⟩
  · rw [if_neg h]
    exact fin
end
theorem l_law (d : Nat) (P : Int → MM → Prop) (C S : Nat) (hP : ∀ G c, gCl G ≤ C + 7168 → gSl G ≤ S + 141824 → P 1 (G, c)) : ∀ (n : Nat) (k : Nat) (G : MG) (c : MC), k + n = 513 → gLn G (-1) ≤ 3072 → 0 ≤ gLn G (-1) → (∀ j, -2147483648 ≤ c (-1) j ∧ c (-1) j < 2147483648) → IV G c → gCl G ≤ C + 14 * k → gSl G ≤ S + 277 * k → k ≤ 512 → At (d + 41) mL_law 23 [mR 1 0, mR 16 0, mR 18 62, mR 5 79, mI (6 * k), MU, MU] [] (G, c) (QI P) := by
  intro n
  induction n with
  | zero => intro k G c hk _ _ _ _ _ _ hk'; omega
  | succ n ih =>
    intro k G c hk l1 l2 hs H hc hsl hk'
    apply wp_L_law_23
    rw [w32i (show -2147483648 ≤ gLn G (-1) - 6 by omega) (by omega)]
    refine ⟨by decide, ?_⟩
    by_cases he : gLn G (-1) - 6 < 6 * k
    · rw [if_pos he]
      exact ⟨⟨by decide, by decide⟩, hP G c (by omega) (by omega)⟩
    · rw [if_neg he]
      refine ⟨⟨by omega, by omega⟩, ?_⟩
      have L : LwS G c (6 * k) := ⟨⟨by omega, by omega, by omega⟩, hs⟩
      have N : LwN d P G c (6 * k) := fun G' c' H' g1 g2 s1 s2 => by
        apply wp_L_law_2214
        rw [w32i (by omega) (by omega), show (6 * (k : Int) + 6) = 6 * ((k + 1 : Nat) : Int) by omega]
        have a1 : gCl G' ≤ C + 14 * (k + 1) := Nat.le_trans g1 (by rw [Nat.mul_succ, ← Nat.add_assoc]; exact Nat.add_le_add_right hc 14)
        have a2 : gSl G' ≤ S + 277 * (k + 1) := Nat.le_trans g2 (by rw [Nat.mul_succ, ← Nat.add_assoc]; exact Nat.add_le_add_right hsl 277)
        have a3 : k + 1 ≤ 512 := by
          clear a1 a2 g1 g2 hc hsl ih
          omega
        exact ih (k + 1) G' c' (by omega) (by rw [s2]; exact l1) (by rw [s2]; exact l2) (fun j => by rw [s1]; exact hs j) H' a1 a2 a3
      have N0 : At (d + 41) mL_law 2214 [mR 1 0, mR 16 0, mR 18 62, mR 5 79, mI (6 * k), MU, MU] [] (G, c) (QI P) := N G c H (Nat.le_add_right _ _) (Nat.le_add_right _ _) (fun _ => rfl) rfl
      by_cases h0 : o_and (c (-1) (6 * k)) 63 = 0
      · rw [if_pos h0]; exact c_312 d P H L N
      rw [if_neg h0]
      by_cases h1 : o_and (c (-1) (6 * k)) 63 = 1
      · rw [if_pos h1]; exact c_385 d P H L N
      rw [if_neg h1]
      by_cases h2 : o_and (c (-1) (6 * k)) 63 = 2
      · rw [if_pos h2]; exact c_410 d P H L N
      rw [if_neg h2]
      by_cases h3 : o_and (c (-1) (6 * k)) 63 = 3
      · rw [if_pos h3]; exact c_423 d P H L N
      rw [if_neg h3]
      by_cases h4 : o_and (c (-1) (6 * k)) 63 = 4
      · rw [if_pos h4]; exact c_436 d P H L N
      rw [if_neg h4]
      by_cases h5 : o_and (c (-1) (6 * k)) 63 = 5
      · rw [if_pos h5]; exact c_473 d P H L N
      rw [if_neg h5]
      by_cases h6 : o_and (c (-1) (6 * k)) 63 = 6
      · rw [if_pos h6]; exact c_498 d P H L N
      rw [if_neg h6]
      by_cases h7 : o_and (c (-1) (6 * k)) 63 = 7
      · rw [if_pos h7]; exact c_535 d P H L N
      rw [if_neg h7]
      by_cases h8 : o_and (c (-1) (6 * k)) 63 = 8
      · rw [if_pos h8]; exact c_548 d P H L N
      rw [if_neg h8]
      by_cases h9 : o_and (c (-1) (6 * k)) 63 = 9
      · rw [if_pos h9]; exact c_561 d P H L N
      rw [if_neg h9]
      by_cases h10 : o_and (c (-1) (6 * k)) 63 = 10
      · rw [if_pos h10]; exact c_586 d P H L N
      rw [if_neg h10]
      by_cases h11 : o_and (c (-1) (6 * k)) 63 = 11
      · rw [if_pos h11]; exact c_611 d P H L N
      rw [if_neg h11]
      by_cases h12 : o_and (c (-1) (6 * k)) 63 = 12
      · rw [if_pos h12]; exact c_648 d P H L N
      rw [if_neg h12]
      by_cases h13 : o_and (c (-1) (6 * k)) 63 = 13
      · rw [if_pos h13]; exact c_661 d P H L N
      rw [if_neg h13]
      by_cases h14 : o_and (c (-1) (6 * k)) 63 = 14
      · rw [if_pos h14]; exact c_698 d P H L N
      rw [if_neg h14]
      by_cases h15 : o_and (c (-1) (6 * k)) 63 = 15
      · rw [if_pos h15]; exact c_723 d P H L N
      rw [if_neg h15]
      by_cases h16 : o_and (c (-1) (6 * k)) 63 = 16
      · rw [if_pos h16]; exact c_772 d P H L N
      rw [if_neg h16]
      by_cases h17 : o_and (c (-1) (6 * k)) 63 = 17
      · rw [if_pos h17]; exact c_809 d P H L N
      rw [if_neg h17]
      by_cases h18 : o_and (c (-1) (6 * k)) 63 = 18
      · rw [if_pos h18]; exact c_846 d P H L N
      rw [if_neg h18]
      by_cases h19 : o_and (c (-1) (6 * k)) 63 = 19
      · rw [if_pos h19]; exact c_883 d P H L N
      rw [if_neg h19]
      by_cases h20 : o_and (c (-1) (6 * k)) 63 = 20
      · rw [if_pos h20]; exact c_920 d P H L N
      rw [if_neg h20]
      by_cases h21 : o_and (c (-1) (6 * k)) 63 = 21
      · rw [if_pos h21]; exact c_957 d P H L N
      rw [if_neg h21]
      by_cases h22 : o_and (c (-1) (6 * k)) 63 = 22
      · rw [if_pos h22]; exact c_970 d P H L N
      rw [if_neg h22]
      by_cases h23 : o_and (c (-1) (6 * k)) 63 = 23
      · rw [if_pos h23]; exact c_983 d P H L N
      rw [if_neg h23]
      by_cases h24 : o_and (c (-1) (6 * k)) 63 = 24
      · rw [if_pos h24]; exact c_996 d P H L N
      rw [if_neg h24]
      by_cases h25 : o_and (c (-1) (6 * k)) 63 = 25
      · rw [if_pos h25]; exact c_1021 d P H L N
      rw [if_neg h25]
      by_cases h26 : o_and (c (-1) (6 * k)) 63 = 26
      · rw [if_pos h26]; exact c_1046 d P H L N
      rw [if_neg h26]
      by_cases h27 : o_and (c (-1) (6 * k)) 63 = 27
      · rw [if_pos h27]; exact c_1059 d P H L N
      rw [if_neg h27]
      by_cases h28 : o_and (c (-1) (6 * k)) 63 = 28
      · rw [if_pos h28]; exact c_1072 d P H L N
      rw [if_neg h28]
      by_cases h29 : o_and (c (-1) (6 * k)) 63 = 29
      · rw [if_pos h29]; exact c_1085 d P H L N
      rw [if_neg h29]
      by_cases h30 : o_and (c (-1) (6 * k)) 63 = 30
      · rw [if_pos h30]; exact c_1110 d P H L N
      rw [if_neg h30]
      by_cases h31 : o_and (c (-1) (6 * k)) 63 = 31
      · rw [if_pos h31]; exact c_1123 d P H L N
      rw [if_neg h31]
      by_cases h32 : o_and (c (-1) (6 * k)) 63 = 32
      · rw [if_pos h32]; exact c_1148 d P H L N
      rw [if_neg h32]
      by_cases h33 : o_and (c (-1) (6 * k)) 63 = 33
      · rw [if_pos h33]; exact c_1185 d P H L N
      rw [if_neg h33]
      by_cases h34 : o_and (c (-1) (6 * k)) 63 = 34
      · rw [if_pos h34]; exact c_1198 d P H L N
      rw [if_neg h34]
      by_cases h35 : o_and (c (-1) (6 * k)) 63 = 35
      · rw [if_pos h35]; exact c_1224 d P H L N
      rw [if_neg h35]
      by_cases h36 : o_and (c (-1) (6 * k)) 63 = 36
      · rw [if_pos h36]; exact c_1250 d P H L N
      rw [if_neg h36]
      by_cases h37 : o_and (c (-1) (6 * k)) 63 = 37
      · rw [if_pos h37]; exact c_1288 d P H L N
      rw [if_neg h37]
      by_cases h38 : o_and (c (-1) (6 * k)) 63 = 38
      · rw [if_pos h38]; exact c_1326 d P H L N
      rw [if_neg h38]
      by_cases h39 : o_and (c (-1) (6 * k)) 63 = 39
      · rw [if_pos h39]; exact c_1339 d P H L N
      rw [if_neg h39]
      by_cases h40 : o_and (c (-1) (6 * k)) 63 = 40
      · rw [if_pos h40]; exact c_1364 d P H L N
      rw [if_neg h40]
      by_cases h41 : o_and (c (-1) (6 * k)) 63 = 41
      · rw [if_pos h41]; exact c_1377 d P H L N
      rw [if_neg h41]
      by_cases h42 : o_and (c (-1) (6 * k)) 63 = 42
      · rw [if_pos h42]; exact c_1390 d P H L N
      rw [if_neg h42]
      by_cases h43 : o_and (c (-1) (6 * k)) 63 = 43
      · rw [if_pos h43]; exact c_1403 d P H L N
      rw [if_neg h43]
      by_cases h44 : o_and (c (-1) (6 * k)) 63 = 44
      · rw [if_pos h44]; exact c_1416 d P H L N
      rw [if_neg h44]
      by_cases h45 : o_and (c (-1) (6 * k)) 63 = 45
      · rw [if_pos h45]; exact c_1429 d P H L N
      rw [if_neg h45]
      by_cases h46 : o_and (c (-1) (6 * k)) 63 = 46
      · rw [if_pos h46]; exact c_1478 d P H L N
      rw [if_neg h46]
      by_cases h47 : o_and (c (-1) (6 * k)) 63 = 47
      · rw [if_pos h47]; exact c_1527 d P H L N
      rw [if_neg h47]
      by_cases h48 : o_and (c (-1) (6 * k)) 63 = 48
      · rw [if_pos h48]; exact c_1636 d P H L N
      rw [if_neg h48]
      by_cases h49 : o_and (c (-1) (6 * k)) 63 = 49
      · rw [if_pos h49]; exact c_1661 d P H L N
      rw [if_neg h49]
      by_cases h50 : o_and (c (-1) (6 * k)) 63 = 50
      · rw [if_pos h50]; exact c_1686 d P H L N
      rw [if_neg h50]
      by_cases h51 : o_and (c (-1) (6 * k)) 63 = 51
      · rw [if_pos h51]; exact c_1764 d P H L N
      rw [if_neg h51]
      by_cases h52 : o_and (c (-1) (6 * k)) 63 = 52
      · rw [if_pos h52]; exact c_1842 d P H L N
      rw [if_neg h52]
      by_cases h53 : o_and (c (-1) (6 * k)) 63 = 53
      · rw [if_pos h53]; exact c_1896 d P H L N
      rw [if_neg h53]
      by_cases h54 : o_and (c (-1) (6 * k)) 63 = 54
      · rw [if_pos h54]; exact c_1945 d P H L N
      rw [if_neg h54]
      by_cases h55 : o_and (c (-1) (6 * k)) 63 = 55
      · rw [if_pos h55]; exact c_1982 d P H L N
      rw [if_neg h55]
      by_cases h56 : o_and (c (-1) (6 * k)) 63 = 56
      · rw [if_pos h56]; exact c_2007 d P H L N
      rw [if_neg h56]
      by_cases h57 : o_and (c (-1) (6 * k)) 63 = 57
      · rw [if_pos h57]; exact c_2032 d P H L N
      rw [if_neg h57]
      by_cases h58 : o_and (c (-1) (6 * k)) 63 = 58
      · rw [if_pos h58]; exact c_2069 d P H L N
      rw [if_neg h58]
      by_cases h59 : o_and (c (-1) (6 * k)) 63 = 59
      · rw [if_pos h59]; exact c_2082 d P H L N
      rw [if_neg h59]
      by_cases h60 : o_and (c (-1) (6 * k)) 63 = 60
      · rw [if_pos h60]; exact c_2095 d P H L N
      rw [if_neg h60]
      by_cases h61 : o_and (c (-1) (6 * k)) 63 = 61
      · rw [if_pos h61]; exact c_2120 d P H L N
      rw [if_neg h61]
      by_cases h62 : o_and (c (-1) (6 * k)) 63 = 62
      · rw [if_pos h62]; exact c_2176 d P H L N
      rw [if_neg h62]
      by_cases h63 : o_and (c (-1) (6 * k)) 63 = 63
      · rw [if_pos h63]; exact c_2201 d P H L N
      rw [if_neg h63]
      exact N0
