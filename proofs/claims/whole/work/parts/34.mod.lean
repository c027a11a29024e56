/-! the reference: its cells, what it writes over and over, its small methods -/
def scr (a j : Int) : Prop := a = 65 ∨ a = 73 ∨ a = 74 ∨ a = 75 ∨ a = 76 ∨ a = 77 ∨ a = 78 ∨ a = 79 ∨ (a = 62 ∧ (j = 0 ∨ j = 1 ∨ j = 2 ∨ j = 30 ∨ j = 31 ∨ j = 32 ∨ j = 34 ∨ j = 38 ∨ j = 39))
def Agr (c c' : MC) : Prop := ∀ a j, ¬ scr a j → c' a j = c a j
theorem Agr.rf {c : MC} : Agr c c := fun _ _ _ => rfl
theorem Agr.tr {a b c : MC} (h : Agr a b) (h' : Agr b c) : Agr a c := fun x j n => (h' x j n).trans (h x j n)
theorem Agr.u {c c' : MC} (h : Agr c c') {a j v : Int} (hs : scr a j) : Agr c (up c' a j v) := fun x k n => by
  unfold up
  rw [if_neg (fun q => n (by rw [q.1, q.2]; exact hs))]
  exact h x k n
theorem Agr.w {c c' : MC} (h : Agr c c') {a lo m : Int} {f : Int → Int} (hs : ∀ j, scr a j) : Agr c (wr c' a lo m f) := fun x k n => by
  unfold wr
  rw [if_neg (fun q => n (by rw [q.1]; exact hs k))]
  exact h x k n
def MDs (G : MG) (c : MC) (T : Int) : Prop := (c 62 3 = T) ∧ (80 ≤ T) ∧ (c 62 5 = 63) ∧ (c 62 16 = 64) ∧ (c 62 17 = 65) ∧ (c 62 18 = 66) ∧ (c 62 19 = 67) ∧ (c 62 22 = 68) ∧ (c 62 23 = 69) ∧ (c 62 24 = 70) ∧ (c 62 25 = 71) ∧ (c 62 26 = 72) ∧ (c 62 27 = 73) ∧ (c 62 29 = 74) ∧ (c 62 33 = 75) ∧ (c 62 35 = 76) ∧ (c 62 36 = 77) ∧ (c 62 37 = 78) ∧ (gLn G 63 = 700) ∧ (gLn G 64 = 6) ∧ (gLn G 65 = 6) ∧ (gLn G 66 = 96) ∧ (gLn G 67 = 18) ∧ (gLn G 68 = 4320) ∧ (gLn G 69 = 720) ∧ (gLn G 70 = 720) ∧ (gLn G 71 = 720) ∧ (gLn G 72 = 720) ∧ (gLn G 73 = 6) ∧ (gLn G 74 = 6) ∧ (gLn G 75 = 3) ∧ (gLn G 76 = 1024) ∧ (gLn G 77 = 720) ∧ (gLn G 78 = 720) ∧ (c T 10 = T + 1) ∧ (c T 11 = T + 2) ∧ (c T 12 = T + 3) ∧ (c T 13 = T + 4) ∧ (c T 14 = T + 5) ∧ (c T 15 = T + 6) ∧ (c T 18 = T + 7) ∧ (c T 19 = T + 8) ∧ (c T 20 = T + 9) ∧ (c T 21 = T + 10) ∧ (c T 22 = T + 11) ∧ (c T 23 = T + 12) ∧ (c T 24 = T + 13) ∧ (gLn G (T + 1) = 6) ∧ (gLn G (T + 2) = 6) ∧ (gLn G (T + 3) = 6) ∧ (gLn G (T + 4) = 18) ∧ (gLn G (T + 5) = 4) ∧ (gLn G (T + 6) = 4) ∧ (gLn G (T + 7) = 3) ∧ (gLn G (T + 8) = 3) ∧ (gLn G (T + 9) = 5) ∧ (gLn G (T + 10) = 5) ∧ (gLn G (T + 11) = 9) ∧ (gLn G (T + 12) = 9) ∧ (gLn G (T + 13) = 9) ∧ (2 ≤ c T 0 ∧ c T 0 ≤ 9) ∧ (2 ≤ c T 1 ∧ c T 1 ≤ 6) ∧ (0 ≤ c T 2 ∧ c T 2 ≤ 100) ∧ (1 ≤ c T 3 ∧ c T 3 ≤ 6) ∧ (1 ≤ c T 4 ∧ c T 4 ≤ 3) ∧ (0 ≤ c T 5 ∧ c T 5 ≤ 6) ∧ (0 ≤ c T 6 ∧ c T 6 ≤ 4) ∧ (0 ≤ c T 7 ∧ c T 7 ≤ 3) ∧ (0 ≤ c T 8 ∧ c T 8 ≤ 5)
theorem MDs.p3 {G : MG} {c : MC} {T : Int} (h : MDs G c T) : c 62 3 = T := h.1
theorem MDs.T {G : MG} {c : MC} {T : Int} (h : MDs G c T) : 80 ≤ T := h.2.1
theorem MDs.p5 {G : MG} {c : MC} {T : Int} (h : MDs G c T) : c 62 5 = 63 := h.2.2.1
theorem MDs.p16 {G : MG} {c : MC} {T : Int} (h : MDs G c T) : c 62 16 = 64 := h.2.2.2.1
theorem MDs.p17 {G : MG} {c : MC} {T : Int} (h : MDs G c T) : c 62 17 = 65 := h.2.2.2.2.1
theorem MDs.p18 {G : MG} {c : MC} {T : Int} (h : MDs G c T) : c 62 18 = 66 := h.2.2.2.2.2.1
theorem MDs.p19 {G : MG} {c : MC} {T : Int} (h : MDs G c T) : c 62 19 = 67 := h.2.2.2.2.2.2.1
theorem MDs.p22 {G : MG} {c : MC} {T : Int} (h : MDs G c T) : c 62 22 = 68 := h.2.2.2.2.2.2.2.1
theorem MDs.p23 {G : MG} {c : MC} {T : Int} (h : MDs G c T) : c 62 23 = 69 := h.2.2.2.2.2.2.2.2.1
theorem MDs.p24 {G : MG} {c : MC} {T : Int} (h : MDs G c T) : c 62 24 = 70 := h.2.2.2.2.2.2.2.2.2.1
theorem MDs.p25 {G : MG} {c : MC} {T : Int} (h : MDs G c T) : c 62 25 = 71 := h.2.2.2.2.2.2.2.2.2.2.1
theorem MDs.p26 {G : MG} {c : MC} {T : Int} (h : MDs G c T) : c 62 26 = 72 := h.2.2.2.2.2.2.2.2.2.2.2.1
theorem MDs.p27 {G : MG} {c : MC} {T : Int} (h : MDs G c T) : c 62 27 = 73 := h.2.2.2.2.2.2.2.2.2.2.2.2.1
theorem MDs.p29 {G : MG} {c : MC} {T : Int} (h : MDs G c T) : c 62 29 = 74 := h.2.2.2.2.2.2.2.2.2.2.2.2.2.1
theorem MDs.p33 {G : MG} {c : MC} {T : Int} (h : MDs G c T) : c 62 33 = 75 := h.2.2.2.2.2.2.2.2.2.2.2.2.2.2.1
theorem MDs.p35 {G : MG} {c : MC} {T : Int} (h : MDs G c T) : c 62 35 = 76 := h.2.2.2.2.2.2.2.2.2.2.2.2.2.2.2.1
theorem MDs.p36 {G : MG} {c : MC} {T : Int} (h : MDs G c T) : c 62 36 = 77 := h.2.2.2.2.2.2.2.2.2.2.2.2.2.2.2.2.1
theorem MDs.p37 {G : MG} {c : MC} {T : Int} (h : MDs G c T) : c 62 37 = 78 := h.2.2.2.2.2.2.2.2.2.2.2.2.2.2.2.2.2.1
theorem MDs.l63 {G : MG} {c : MC} {T : Int} (h : MDs G c T) : gLn G 63 = 700 := h.2.2.2.2.2.2.2.2.2.2.2.2.2.2.2.2.2.2.1
theorem MDs.l64 {G : MG} {c : MC} {T : Int} (h : MDs G c T) : gLn G 64 = 6 := h.2.2.2.2.2.2.2.2.2.2.2.2.2.2.2.2.2.2.2.1
theorem MDs.l65 {G : MG} {c : MC} {T : Int} (h : MDs G c T) : gLn G 65 = 6 := h.2.2.2.2.2.2.2.2.2.2.2.2.2.2.2.2.2.2.2.2.1
theorem MDs.l66 {G : MG} {c : MC} {T : Int} (h : MDs G c T) : gLn G 66 = 96 := h.2.2.2.2.2.2.2.2.2.2.2.2.2.2.2.2.2.2.2.2.2.1
theorem MDs.l67 {G : MG} {c : MC} {T : Int} (h : MDs G c T) : gLn G 67 = 18 := h.2.2.2.2.2.2.2.2.2.2.2.2.2.2.2.2.2.2.2.2.2.2.1
theorem MDs.l68 {G : MG} {c : MC} {T : Int} (h : MDs G c T) : gLn G 68 = 4320 := h.2.2.2.2.2.2.2.2.2.2.2.2.2.2.2.2.2.2.2.2.2.2.2.1
theorem MDs.l69 {G : MG} {c : MC} {T : Int} (h : MDs G c T) : gLn G 69 = 720 := h.2.2.2.2.2.2.2.2.2.2.2.2.2.2.2.2.2.2.2.2.2.2.2.2.1
theorem MDs.l70 {G : MG} {c : MC} {T : Int} (h : MDs G c T) : gLn G 70 = 720 := h.2.2.2.2.2.2.2.2.2.2.2.2.2.2.2.2.2.2.2.2.2.2.2.2.2.1
theorem MDs.l71 {G : MG} {c : MC} {T : Int} (h : MDs G c T) : gLn G 71 = 720 := h.2.2.2.2.2.2.2.2.2.2.2.2.2.2.2.2.2.2.2.2.2.2.2.2.2.2.1
theorem MDs.l72 {G : MG} {c : MC} {T : Int} (h : MDs G c T) : gLn G 72 = 720 := h.2.2.2.2.2.2.2.2.2.2.2.2.2.2.2.2.2.2.2.2.2.2.2.2.2.2.2.1
theorem MDs.l73 {G : MG} {c : MC} {T : Int} (h : MDs G c T) : gLn G 73 = 6 := h.2.2.2.2.2.2.2.2.2.2.2.2.2.2.2.2.2.2.2.2.2.2.2.2.2.2.2.2.1
theorem MDs.l74 {G : MG} {c : MC} {T : Int} (h : MDs G c T) : gLn G 74 = 6 := h.2.2.2.2.2.2.2.2.2.2.2.2.2.2.2.2.2.2.2.2.2.2.2.2.2.2.2.2.2.1
theorem MDs.l75 {G : MG} {c : MC} {T : Int} (h : MDs G c T) : gLn G 75 = 3 := h.2.2.2.2.2.2.2.2.2.2.2.2.2.2.2.2.2.2.2.2.2.2.2.2.2.2.2.2.2.2.1
theorem MDs.l76 {G : MG} {c : MC} {T : Int} (h : MDs G c T) : gLn G 76 = 1024 := h.2.2.2.2.2.2.2.2.2.2.2.2.2.2.2.2.2.2.2.2.2.2.2.2.2.2.2.2.2.2.2.1
theorem MDs.l77 {G : MG} {c : MC} {T : Int} (h : MDs G c T) : gLn G 77 = 720 := h.2.2.2.2.2.2.2.2.2.2.2.2.2.2.2.2.2.2.2.2.2.2.2.2.2.2.2.2.2.2.2.2.1
theorem MDs.l78 {G : MG} {c : MC} {T : Int} (h : MDs G c T) : gLn G 78 = 720 := h.2.2.2.2.2.2.2.2.2.2.2.2.2.2.2.2.2.2.2.2.2.2.2.2.2.2.2.2.2.2.2.2.2.1
theorem MDs.t10 {G : MG} {c : MC} {T : Int} (h : MDs G c T) : c T 10 = T + 1 := h.2.2.2.2.2.2.2.2.2.2.2.2.2.2.2.2.2.2.2.2.2.2.2.2.2.2.2.2.2.2.2.2.2.2.1
theorem MDs.t11 {G : MG} {c : MC} {T : Int} (h : MDs G c T) : c T 11 = T + 2 := h.2.2.2.2.2.2.2.2.2.2.2.2.2.2.2.2.2.2.2.2.2.2.2.2.2.2.2.2.2.2.2.2.2.2.2.1
theorem MDs.t12 {G : MG} {c : MC} {T : Int} (h : MDs G c T) : c T 12 = T + 3 := h.2.2.2.2.2.2.2.2.2.2.2.2.2.2.2.2.2.2.2.2.2.2.2.2.2.2.2.2.2.2.2.2.2.2.2.2.1
theorem MDs.t13 {G : MG} {c : MC} {T : Int} (h : MDs G c T) : c T 13 = T + 4 := h.2.2.2.2.2.2.2.2.2.2.2.2.2.2.2.2.2.2.2.2.2.2.2.2.2.2.2.2.2.2.2.2.2.2.2.2.2.1
theorem MDs.t14 {G : MG} {c : MC} {T : Int} (h : MDs G c T) : c T 14 = T + 5 := h.2.2.2.2.2.2.2.2.2.2.2.2.2.2.2.2.2.2.2.2.2.2.2.2.2.2.2.2.2.2.2.2.2.2.2.2.2.2.1
theorem MDs.t15 {G : MG} {c : MC} {T : Int} (h : MDs G c T) : c T 15 = T + 6 := h.2.2.2.2.2.2.2.2.2.2.2.2.2.2.2.2.2.2.2.2.2.2.2.2.2.2.2.2.2.2.2.2.2.2.2.2.2.2.2.1
theorem MDs.t18 {G : MG} {c : MC} {T : Int} (h : MDs G c T) : c T 18 = T + 7 := h.2.2.2.2.2.2.2.2.2.2.2.2.2.2.2.2.2.2.2.2.2.2.2.2.2.2.2.2.2.2.2.2.2.2.2.2.2.2.2.2.1
theorem MDs.t19 {G : MG} {c : MC} {T : Int} (h : MDs G c T) : c T 19 = T + 8 := h.2.2.2.2.2.2.2.2.2.2.2.2.2.2.2.2.2.2.2.2.2.2.2.2.2.2.2.2.2.2.2.2.2.2.2.2.2.2.2.2.2.1
theorem MDs.t20 {G : MG} {c : MC} {T : Int} (h : MDs G c T) : c T 20 = T + 9 := h.2.2.2.2.2.2.2.2.2.2.2.2.2.2.2.2.2.2.2.2.2.2.2.2.2.2.2.2.2.2.2.2.2.2.2.2.2.2.2.2.2.2.1
theorem MDs.t21 {G : MG} {c : MC} {T : Int} (h : MDs G c T) : c T 21 = T + 10 := h.2.2.2.2.2.2.2.2.2.2.2.2.2.2.2.2.2.2.2.2.2.2.2.2.2.2.2.2.2.2.2.2.2.2.2.2.2.2.2.2.2.2.2.1
theorem MDs.t22 {G : MG} {c : MC} {T : Int} (h : MDs G c T) : c T 22 = T + 11 := h.2.2.2.2.2.2.2.2.2.2.2.2.2.2.2.2.2.2.2.2.2.2.2.2.2.2.2.2.2.2.2.2.2.2.2.2.2.2.2.2.2.2.2.2.1
theorem MDs.t23 {G : MG} {c : MC} {T : Int} (h : MDs G c T) : c T 23 = T + 12 := h.2.2.2.2.2.2.2.2.2.2.2.2.2.2.2.2.2.2.2.2.2.2.2.2.2.2.2.2.2.2.2.2.2.2.2.2.2.2.2.2.2.2.2.2.2.1
theorem MDs.t24 {G : MG} {c : MC} {T : Int} (h : MDs G c T) : c T 24 = T + 13 := h.2.2.2.2.2.2.2.2.2.2.2.2.2.2.2.2.2.2.2.2.2.2.2.2.2.2.2.2.2.2.2.2.2.2.2.2.2.2.2.2.2.2.2.2.2.2.1
theorem MDs.u1 {G : MG} {c : MC} {T : Int} (h : MDs G c T) : gLn G (T + 1) = 6 := h.2.2.2.2.2.2.2.2.2.2.2.2.2.2.2.2.2.2.2.2.2.2.2.2.2.2.2.2.2.2.2.2.2.2.2.2.2.2.2.2.2.2.2.2.2.2.2.1
theorem MDs.u2 {G : MG} {c : MC} {T : Int} (h : MDs G c T) : gLn G (T + 2) = 6 := h.2.2.2.2.2.2.2.2.2.2.2.2.2.2.2.2.2.2.2.2.2.2.2.2.2.2.2.2.2.2.2.2.2.2.2.2.2.2.2.2.2.2.2.2.2.2.2.2.1
theorem MDs.u3 {G : MG} {c : MC} {T : Int} (h : MDs G c T) : gLn G (T + 3) = 6 := h.2.2.2.2.2.2.2.2.2.2.2.2.2.2.2.2.2.2.2.2.2.2.2.2.2.2.2.2.2.2.2.2.2.2.2.2.2.2.2.2.2.2.2.2.2.2.2.2.2.1
theorem MDs.u4 {G : MG} {c : MC} {T : Int} (h : MDs G c T) : gLn G (T + 4) = 18 := h.2.2.2.2.2.2.2.2.2.2.2.2.2.2.2.2.2.2.2.2.2.2.2.2.2.2.2.2.2.2.2.2.2.2.2.2.2.2.2.2.2.2.2.2.2.2.2.2.2.2.1
theorem MDs.u5 {G : MG} {c : MC} {T : Int} (h : MDs G c T) : gLn G (T + 5) = 4 := h.2.2.2.2.2.2.2.2.2.2.2.2.2.2.2.2.2.2.2.2.2.2.2.2.2.2.2.2.2.2.2.2.2.2.2.2.2.2.2.2.2.2.2.2.2.2.2.2.2.2.2.1
theorem MDs.u6 {G : MG} {c : MC} {T : Int} (h : MDs G c T) : gLn G (T + 6) = 4 := h.2.2.2.2.2.2.2.2.2.2.2.2.2.2.2.2.2.2.2.2.2.2.2.2.2.2.2.2.2.2.2.2.2.2.2.2.2.2.2.2.2.2.2.2.2.2.2.2.2.2.2.2.1
theorem MDs.u7 {G : MG} {c : MC} {T : Int} (h : MDs G c T) : gLn G (T + 7) = 3 := h.2.2.2.2.2.2.2.2.2.2.2.2.2.2.2.2.2.2.2.2.2.2.2.2.2.2.2.2.2.2.2.2.2.2.2.2.2.2.2.2.2.2.2.2.2.2.2.2.2.2.2.2.2.1
theorem MDs.u8 {G : MG} {c : MC} {T : Int} (h : MDs G c T) : gLn G (T + 8) = 3 := h.2.2.2.2.2.2.2.2.2.2.2.2.2.2.2.2.2.2.2.2.2.2.2.2.2.2.2.2.2.2.2.2.2.2.2.2.2.2.2.2.2.2.2.2.2.2.2.2.2.2.2.2.2.2.1
theorem MDs.u9 {G : MG} {c : MC} {T : Int} (h : MDs G c T) : gLn G (T + 9) = 5 := h.2.2.2.2.2.2.2.2.2.2.2.2.2.2.2.2.2.2.2.2.2.2.2.2.2.2.2.2.2.2.2.2.2.2.2.2.2.2.2.2.2.2.2.2.2.2.2.2.2.2.2.2.2.2.2.1
theorem MDs.u10 {G : MG} {c : MC} {T : Int} (h : MDs G c T) : gLn G (T + 10) = 5 := h.2.2.2.2.2.2.2.2.2.2.2.2.2.2.2.2.2.2.2.2.2.2.2.2.2.2.2.2.2.2.2.2.2.2.2.2.2.2.2.2.2.2.2.2.2.2.2.2.2.2.2.2.2.2.2.2.1
theorem MDs.u11 {G : MG} {c : MC} {T : Int} (h : MDs G c T) : gLn G (T + 11) = 9 := h.2.2.2.2.2.2.2.2.2.2.2.2.2.2.2.2.2.2.2.2.2.2.2.2.2.2.2.2.2.2.2.2.2.2.2.2.2.2.2.2.2.2.2.2.2.2.2.2.2.2.2.2.2.2.2.2.2.1
theorem MDs.u12 {G : MG} {c : MC} {T : Int} (h : MDs G c T) : gLn G (T + 12) = 9 := h.2.2.2.2.2.2.2.2.2.2.2.2.2.2.2.2.2.2.2.2.2.2.2.2.2.2.2.2.2.2.2.2.2.2.2.2.2.2.2.2.2.2.2.2.2.2.2.2.2.2.2.2.2.2.2.2.2.2.1
theorem MDs.u13 {G : MG} {c : MC} {T : Int} (h : MDs G c T) : gLn G (T + 13) = 9 := h.2.2.2.2.2.2.2.2.2.2.2.2.2.2.2.2.2.2.2.2.2.2.2.2.2.2.2.2.2.2.2.2.2.2.2.2.2.2.2.2.2.2.2.2.2.2.2.2.2.2.2.2.2.2.2.2.2.2.2.1
theorem MDs.b0 {G : MG} {c : MC} {T : Int} (h : MDs G c T) : 2 ≤ c T 0 ∧ c T 0 ≤ 9 := h.2.2.2.2.2.2.2.2.2.2.2.2.2.2.2.2.2.2.2.2.2.2.2.2.2.2.2.2.2.2.2.2.2.2.2.2.2.2.2.2.2.2.2.2.2.2.2.2.2.2.2.2.2.2.2.2.2.2.2.2.1
theorem MDs.b1 {G : MG} {c : MC} {T : Int} (h : MDs G c T) : 2 ≤ c T 1 ∧ c T 1 ≤ 6 := h.2.2.2.2.2.2.2.2.2.2.2.2.2.2.2.2.2.2.2.2.2.2.2.2.2.2.2.2.2.2.2.2.2.2.2.2.2.2.2.2.2.2.2.2.2.2.2.2.2.2.2.2.2.2.2.2.2.2.2.2.2.1
theorem MDs.b2 {G : MG} {c : MC} {T : Int} (h : MDs G c T) : 0 ≤ c T 2 ∧ c T 2 ≤ 100 := h.2.2.2.2.2.2.2.2.2.2.2.2.2.2.2.2.2.2.2.2.2.2.2.2.2.2.2.2.2.2.2.2.2.2.2.2.2.2.2.2.2.2.2.2.2.2.2.2.2.2.2.2.2.2.2.2.2.2.2.2.2.2.1
theorem MDs.b3 {G : MG} {c : MC} {T : Int} (h : MDs G c T) : 1 ≤ c T 3 ∧ c T 3 ≤ 6 := h.2.2.2.2.2.2.2.2.2.2.2.2.2.2.2.2.2.2.2.2.2.2.2.2.2.2.2.2.2.2.2.2.2.2.2.2.2.2.2.2.2.2.2.2.2.2.2.2.2.2.2.2.2.2.2.2.2.2.2.2.2.2.2.1
theorem MDs.b4 {G : MG} {c : MC} {T : Int} (h : MDs G c T) : 1 ≤ c T 4 ∧ c T 4 ≤ 3 := h.2.2.2.2.2.2.2.2.2.2.2.2.2.2.2.2.2.2.2.2.2.2.2.2.2.2.2.2.2.2.2.2.2.2.2.2.2.2.2.2.2.2.2.2.2.2.2.2.2.2.2.2.2.2.2.2.2.2.2.2.2.2.2.2.1
theorem MDs.b5 {G : MG} {c : MC} {T : Int} (h : MDs G c T) : 0 ≤ c T 5 ∧ c T 5 ≤ 6 := h.2.2.2.2.2.2.2.2.2.2.2.2.2.2.2.2.2.2.2.2.2.2.2.2.2.2.2.2.2.2.2.2.2.2.2.2.2.2.2.2.2.2.2.2.2.2.2.2.2.2.2.2.2.2.2.2.2.2.2.2.2.2.2.2.2.1
theorem MDs.b6 {G : MG} {c : MC} {T : Int} (h : MDs G c T) : 0 ≤ c T 6 ∧ c T 6 ≤ 4 := h.2.2.2.2.2.2.2.2.2.2.2.2.2.2.2.2.2.2.2.2.2.2.2.2.2.2.2.2.2.2.2.2.2.2.2.2.2.2.2.2.2.2.2.2.2.2.2.2.2.2.2.2.2.2.2.2.2.2.2.2.2.2.2.2.2.2.1
theorem MDs.b7 {G : MG} {c : MC} {T : Int} (h : MDs G c T) : 0 ≤ c T 7 ∧ c T 7 ≤ 3 := h.2.2.2.2.2.2.2.2.2.2.2.2.2.2.2.2.2.2.2.2.2.2.2.2.2.2.2.2.2.2.2.2.2.2.2.2.2.2.2.2.2.2.2.2.2.2.2.2.2.2.2.2.2.2.2.2.2.2.2.2.2.2.2.2.2.2.2.1
theorem MDs.b8 {G : MG} {c : MC} {T : Int} (h : MDs G c T) : 0 ≤ c T 8 ∧ c T 8 ≤ 5 := h.2.2.2.2.2.2.2.2.2.2.2.2.2.2.2.2.2.2.2.2.2.2.2.2.2.2.2.2.2.2.2.2.2.2.2.2.2.2.2.2.2.2.2.2.2.2.2.2.2.2.2.2.2.2.2.2.2.2.2.2.2.2.2.2.2.2.2.2
def Kp (a j : Int) : Prop := (a = 62 ∧ (j = 3 ∨ j = 5 ∨ (16 ≤ j ∧ j ≤ 19) ∨ (22 ≤ j ∧ j ≤ 27) ∨ j = 29 ∨ j = 33 ∨ (35 ≤ j ∧ j ≤ 37))) ∨ 80 ≤ a
theorem MDs.kp {G : MG} {c c' : MC} {T : Int} (h : MDs G c T) (e : ∀ a j, Kp a j → c' a j = c a j) : MDs G c' T := by
  have hT := h.T
  exact ⟨(by rw [e 62 3 (by unfold Kp; omega)]; exact h.p3), h.T, (by rw [e 62 5 (by unfold Kp; omega)]; exact h.p5), (by rw [e 62 16 (by unfold Kp; omega)]; exact h.p16), (by rw [e 62 17 (by unfold Kp; omega)]; exact h.p17), (by rw [e 62 18 (by unfold Kp; omega)]; exact h.p18), (by rw [e 62 19 (by unfold Kp; omega)]; exact h.p19), (by rw [e 62 22 (by unfold Kp; omega)]; exact h.p22), (by rw [e 62 23 (by unfold Kp; omega)]; exact h.p23), (by rw [e 62 24 (by unfold Kp; omega)]; exact h.p24), (by rw [e 62 25 (by unfold Kp; omega)]; exact h.p25), (by rw [e 62 26 (by unfold Kp; omega)]; exact h.p26), (by rw [e 62 27 (by unfold Kp; omega)]; exact h.p27), (by rw [e 62 29 (by unfold Kp; omega)]; exact h.p29), (by rw [e 62 33 (by unfold Kp; omega)]; exact h.p33), (by rw [e 62 35 (by unfold Kp; omega)]; exact h.p35), (by rw [e 62 36 (by unfold Kp; omega)]; exact h.p36), (by rw [e 62 37 (by unfold Kp; omega)]; exact h.p37), h.l63, h.l64, h.l65, h.l66, h.l67, h.l68, h.l69, h.l70, h.l71, h.l72, h.l73, h.l74, h.l75, h.l76, h.l77, h.l78, (by rw [e T 10 (by unfold Kp; omega)]; exact h.t10), (by rw [e T 11 (by unfold Kp; omega)]; exact h.t11), (by rw [e T 12 (by unfold Kp; omega)]; exact h.t12), (by rw [e T 13 (by unfold Kp; omega)]; exact h.t13), (by rw [e T 14 (by unfold Kp; omega)]; exact h.t14), (by rw [e T 15 (by unfold Kp; omega)]; exact h.t15), (by rw [e T 18 (by unfold Kp; omega)]; exact h.t18), (by rw [e T 19 (by unfold Kp; omega)]; exact h.t19), (by rw [e T 20 (by unfold Kp; omega)]; exact h.t20), (by rw [e T 21 (by unfold Kp; omega)]; exact h.t21), (by rw [e T 22 (by unfold Kp; omega)]; exact h.t22), (by rw [e T 23 (by unfold Kp; omega)]; exact h.t23), (by rw [e T 24 (by unfold Kp; omega)]; exact h.t24), h.u1, h.u2, h.u3, h.u4, h.u5, h.u6, h.u7, h.u8, h.u9, h.u10, h.u11, h.u12, h.u13, (by rw [e T 0 (by unfold Kp; omega)]; exact h.b0), (by rw [e T 1 (by unfold Kp; omega)]; exact h.b1), (by rw [e T 2 (by unfold Kp; omega)]; exact h.b2), (by rw [e T 3 (by unfold Kp; omega)]; exact h.b3), (by rw [e T 4 (by unfold Kp; omega)]; exact h.b4), (by rw [e T 5 (by unfold Kp; omega)]; exact h.b5), (by rw [e T 6 (by unfold Kp; omega)]; exact h.b6), (by rw [e T 7 (by unfold Kp; omega)]; exact h.b7), (by rw [e T 8 (by unfold Kp; omega)]; exact h.b8)⟩
theorem MDs.agr {G : MG} {c c' : MC} {T : Int} (h : MDs G c T) (e : Agr c c') : MDs G c' T := h.kp (fun a j k => e a j (by unfold Kp at k; unfold scr; omega))
def mtr (c : MC) (w : Int) : MC := up (up c 62 1 w) 62 2 (-1)
theorem agr_mtr (c : MC) (w : Int) : Agr c (mtr c w) := (Agr.rf.u (by unfold scr; omega)).u (by unfold scr; omega)
theorem mtr_t (c : MC) (w : Int) : mtr c w 62 1 = w := by unfold mtr; rw [up_nj (by decide), up_eq]
theorem mtr_w (c : MC) (w : Int) : mtr c w 62 2 = -1 := by unfold mtr; rw [up_eq]
def sld (c : MC) (T t k : Int) : Int := if t < c T 4 then c (T + 4) (6 * t + k) else c T 1 - 1 - k
def ssl (n i : Int) : Int := if o_rem (o_div i n) 2 = 0 then o_rem i n else w32 (w32 (n - 1) - o_rem i n)
def mbt (b k : Int) : Int := if bt b k = 1 then 1 else 0
def bsd (x : Int → Int) (m p : Int) : Int := fo (fun q s => if bes (x p) (x q) = 0 then o_or s 0 else o_or s (o_shl 1 q)) m.toNat 0 0
def whoF (v : Int → Int) (m k : Int) : Int := fi (fun p => decide (v p = k)) (fun p => p) (-2) m.toNat 0
def bitF : Nat → Int → Int → Option Int
  | 0, _, _ => none
  | j + 1, n, r => if r = 0 then some n else bitF j (w32 (n + 1)) (o_and r (w32 (r - 1)))
theorem bitF_pop : ∀ x : Nat, x < 256 → bitF 10 0 (x : Int) = some (pop (x : Int)) := by decide +kernel
section
variable (d : Nat) (P : Int → MM → Prop) (P0 : MM → Prop) (G : MG) (c : MC)
theorem q_mrefused (w : Int) : EvI (d + 1) mX12_refused [mR 18 62, mI w] (G, c) P = P (-1) (G, mtr c w) := evI_eq (ev_X12_refused d _ G c 62 w (by decide) ⟨by decide, by rintro _ rfl; exact ⟨by decide, by rintro _ rfl; exact ⟨rfl, rfl⟩⟩⟩) P
theorem q_mgood (v : Int) : EvI (d + 1) mX12_good [mR 18 62, mI v] (G, c) P = P v (G, mtr c 0) := evI_eq (ev_X12_good d _ G c 62 v (by decide) ⟨by decide, by rintro _ rfl; exact ⟨by decide, by rintro _ rfl; exact ⟨rfl, rfl⟩⟩⟩) P
theorem q_mlost (w : Int) : EvI (d + 2) mX12_lost [mR 18 62, mI w] (G, c) P = P (-100) (G, mtr c w) := evI_eq (ev_X12_lost (d + 1) _ G c 62 w (by decide) (by rw [q_mrefused]; exact ⟨rfl, rfl⟩)) P
theorem q_mdenied (w : Int) : EvI (d + 2) mX12_denied [mR 18 62, mI w] (G, c) P = P 0 (G, mtr c w) := evI_eq (ev_X12_denied (d + 1) _ G c 62 w (by decide) (by rw [q_mrefused]; exact ⟨by decide, rfl, rfl⟩)) P
theorem q_mgoodLong (v : Int) : EvL (d + 2) mX12_goodLong [mR 18 62, mL v] (G, c) P = P v (G, mtr c 0) := evL_eq (ev_X12_goodLong (d + 1) _ G c 62 v (by decide) (by rw [q_mgood]; exact ⟨rfl, rfl⟩)) P
theorem q_mgranted : EvI (d + 2) mX12_granted [mR 18 62] (G, c) P = P 1 (G, mtr c 0) := evI_eq (ev_X12_granted (d + 1) _ G c 62 (by decide) (by rw [q_mgood]; exact ⟨by decide, rfl, rfl⟩)) P
theorem q_min (v a b : Int) : EvI (d + 1) mX12_in [mI v, mI a, mI b] (G, c) P = P (if a ≤ v ∧ v ≤ b then 1 else 0) (G, c) := evI_eq (ev_X12_in d _ G c v a b (by grind)) P
theorem q_mbit (b k : Int) : EvI (d + 1) mX12_bit [mI b, mI k] (G, c) P = P (mbt b k) (G, c) := evI_eq (ev_X12_bit d _ G c b k (by unfold mbt bt; grind)) P
theorem l_bits : ∀ (j : Nat) (n r v : Int), bitF j n r = some v → P v (G, c) → At (d + 1) mX12_bits 4 [MU, mI n, mI r] [] (G, c) (QI P) := by
  intro j
  induction j with
  | zero => intro n r v h; cases h
  | succ j ih =>
    intro n r v h hP
    apply wp_X12_bits_4
    simp only [bitF] at h
    split <;> rename_i hc
    · rw [if_pos hc] at h; cases h; exact hP
    · rw [if_neg hc] at h; exact ih _ _ _ h hP
theorem q_mbits (x : Int) (h0 : 0 ≤ x) (h1 : x < 256) : EvI (d + 1) mX12_bits [mI x] (G, c) P = P (pop x) (G, c) := evI_eq (ev_X12_bits d _ G c x (l_bits d _ G c 10 0 x (pop x) (by
  obtain ⟨x, rfl⟩ := Int.eq_ofNat_of_zero_le h0
  exact bitF_pop x (by omega)) ⟨rfl, rfl⟩)) P
variable (T : Int) (M : MDs G c T)
theorem q_misPerson (M : MDs G c T) (p : Int) : EvI (d + 1) mX12_isPerson [mR 18 62, mI p] (G, c) P = P (if 0 ≤ p ∧ p < c T 3 then 1 else 0) (G, c) := evI_eq (ev_X12_isPerson d _ G c 62 p (by decide) (by have hT := M.T; rw [M.p3]; grind)) P
theorem q_nisPerson (N : c 62 3 = -1) (p : Int) : EvI (d + 1) mX12_isPerson [mR 18 62, mI p] (G, c) P = P 0 (G, c) := evI_eq (ev_X12_isPerson d _ G c 62 p (by decide) (by rw [N]; simp)) P
theorem q_misSlot (M : MDs G c T) (p : Int) : EvI (d + 1) mX12_isSlot [mR 18 62, mI p] (G, c) P = P (if 0 ≤ p ∧ p < c T 1 then 1 else 0) (G, c) := evI_eq (ev_X12_isSlot d _ G c 62 p (by decide) (by have hT := M.T; rw [M.p3]; grind)) P
theorem q_nisSlot (N : c 62 3 = -1) (p : Int) : EvI (d + 1) mX12_isSlot [mR 18 62, mI p] (G, c) P = P 0 (G, c) := evI_eq (ev_X12_isSlot d _ G c 62 p (by decide) (by rw [N]; simp)) P
theorem q_misTurn (M : MDs G c T) (p : Int) : EvI (d + 1) mX12_isTurn [mR 18 62, mI p] (G, c) P = P (if 0 ≤ p ∧ p < c T 4 then 1 else 0) (G, c) := evI_eq (ev_X12_isTurn d _ G c 62 p (by decide) (by have hT := M.T; rw [M.p3]; grind)) P
theorem q_nisTurn (N : c 62 3 = -1) (p : Int) : EvI (d + 1) mX12_isTurn [mR 18 62, mI p] (G, c) P = P 0 (G, c) := evI_eq (ev_X12_isTurn d _ G c 62 p (by decide) (by rw [N]; simp)) P
theorem q_mareTwo (M : MDs G c T) (p q : Int) : EvI (d + 2) mX12_areTwo [mR 18 62, mI p, mI q] (G, c) P = P (if (0 ≤ p ∧ p < c T 3) ∧ (0 ≤ q ∧ q < c T 3) ∧ p ≠ q then 1 else 0) (G, c) := evI_eq (ev_X12_areTwo (d + 1) _ G c 62 p q (by decide) (by simp only [q_misPerson _ _ _ _ T M]; grind)) P
theorem q_nareTwo (N : c 62 3 = -1) (p q : Int) : EvI (d + 2) mX12_areTwo [mR 18 62, mI p, mI q] (G, c) P = P 0 (G, c) := evI_eq (ev_X12_areTwo (d + 1) _ G c 62 p q (by decide) (by simp only [q_nisPerson _ _ _ _ N]; simp)) P
theorem q_slid (M : MDs G c T) (t k : Int) (h1 : 0 ≤ t) (h2 : t ≤ 3) (h3 : 0 ≤ k) (h4 : k < 6) : EvI (d + 1) mX12_slid [mR 18 62, mI t, mI k] (G, c) P = P (sld c T t k) (G, c) := evI_eq (ev_X12_slid d _ G c 62 t k (by decide) (by
  have hT := M.T; have b4 := M.b4; have b1 := M.b1
  rw [w32i (x := 6 * t) (by omega) (by omega), w32i (x := 6 * t + k) (by omega) (by omega), M.p3, M.t13, M.u4, w32i (x := c T 1 - 1) (by omega) (by omega), w32i (x := c T 1 - 1 - k) (by omega) (by omega)]
  unfold sld
  refine ⟨by omega, by omega, ?_⟩
  split
  · exact ⟨by omega, by omega, by omega, rfl, rfl⟩
  · exact ⟨by omega, by omega, rfl, rfl⟩)) P
theorem q_comes (M : MDs G c T) (i k : Int) (h1 : 0 ≤ i) (h2 : i < 720) (h3 : 0 ≤ k) (h4 : k < 6) : EvI (d + 1) mX12_comes [mR 18 62, mI i, mI k] (G, c) P = P (c 68 (6 * i + k)) (G, c) := evI_eq (ev_X12_comes d _ G c 62 i k (by decide) (by
  rw [w32i (x := 6 * i) (by omega) (by omega), w32i (x := 6 * i + k) (by omega) (by omega), M.p22, M.l68]
  exact ⟨by omega, by omega, rfl, rfl⟩)) P
theorem l_works (M : MDs G c T) (h : P0 (G, wr c 65 0 (6) (fun p => c 64 p))) : ∀ (j : Nat) (i : Int), 0 ≤ i → i + j = 6 → At (d + 1) mX12_works 2 [mR 18 62, mI i] [] (G, wr c 65 0 i (fun p => c 64 p)) (QV P0) := by
  have hT := M.T; have b1 := M.b1; have b3 := M.b3
  intro j
  induction j with
  | zero =>
    intro i h0 hi
    have M' := M.agr (Agr.rf.w (c := c) (a := 65) (lo := 0) (m := i) (f := fun p => c 64 p) (fun j => by unfold scr; omega))
    apply wp_X12_works_2
    simp only [M'.p16, M'.p17, M'.l64, M'.l65]
    (repeat (refine And.intro (by first | omega | (simp only [true_and, and_true, and_self]; omega) | (simp only [true_and, and_true, and_self])) ?_))
    rw [if_neg (by omega)]
    have e : i = 6 := by omega
    rw [e]
    exact h
  | succ j ih =>
    intro i h0 hi
    have wi : w32 (i + 1) = i + 1 := w32i (by omega) (by omega)
    have M' := M.agr (Agr.rf.w (c := c) (a := 65) (lo := 0) (m := i) (f := fun p => c 64 p) (fun j => by unfold scr; omega))
    apply wp_X12_works_2
    simp only [M'.p16, M'.p17, M'.l64, M'.l65, wi]
    (repeat (refine And.intro (by first | omega | (simp only [true_and, and_true, and_self]; omega) | (simp only [true_and, and_true, and_self])) ?_))
    rw [if_pos (by omega)]
    (repeat (refine And.intro (by first | omega | (simp only [true_and, and_true, and_self]; omega) | (simp only [true_and, and_true, and_self])) ?_))
    rintro _ rfl
    rw [wr_up h0 (by omega) (by rw [wr_ne (by decide)])]
    exact ih _ (by omega) (by omega)
theorem q_works (M : MDs G c T) : EvV (d + 1) mX12_works [mR 18 62] (G, c) P0 = P0 (G, wr c 65 0 6 (fun p => c 64 p)) := evV_eq (ev_X12_works d _ G c 62 (by decide) (by have := l_works d (fun ν => ν = (G, wr c 65 0 6 (fun p => c 64 p))) G c T M rfl 6 0 (by omega) (by omega); rw [wr_zero (by omega)] at this; exact this)) P0
end
