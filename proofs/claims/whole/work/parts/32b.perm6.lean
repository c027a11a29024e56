theorem pmc6 {p : Nat → Bool} (h0 : pmc 6 p 5 8 0 [0] = true) (h1 : pmc 6 p 5 8 1 [1] = true) (h2 : pmc 6 p 5 8 2 [2] = true) (h3 : pmc 6 p 5 8 3 [3] = true) (h4 : pmc 6 p 5 8 4 [4] = true) (h5 : pmc 6 p 5 8 5 [5] = true) : pmc 6 p 6 1 0 [] = true := by
  show (pmc 6 p 5 8 5 [5] && (pmc 6 p 5 8 4 [4] && (pmc 6 p 5 8 3 [3] && (pmc 6 p 5 8 2 [2] && (pmc 6 p 5 8 1 [1] && (pmc 6 p 5 8 0 [0] && true)))))) = true
  rw [h0, h1, h2, h3, h4, h5]
  rfl
set_option maxRecDepth 100000 in
theorem chk_60 : pmc 6 (fun x => chk6 6 (x : Int)) 5 8 0 [0] = true := by decide +kernel
set_option maxRecDepth 100000 in
theorem chk_61 : pmc 6 (fun x => chk6 6 (x : Int)) 5 8 1 [1] = true := by decide +kernel
set_option maxRecDepth 100000 in
theorem chk_62 : pmc 6 (fun x => chk6 6 (x : Int)) 5 8 2 [2] = true := by decide +kernel
set_option maxRecDepth 100000 in
theorem chk_63 : pmc 6 (fun x => chk6 6 (x : Int)) 5 8 3 [3] = true := by decide +kernel
set_option maxRecDepth 100000 in
theorem chk_64 : pmc 6 (fun x => chk6 6 (x : Int)) 5 8 4 [4] = true := by decide +kernel
set_option maxRecDepth 100000 in
theorem chk_65 : pmc 6 (fun x => chk6 6 (x : Int)) 5 8 5 [5] = true := by decide +kernel
theorem chk_6 : pmc 6 (fun x => chk6 6 (x : Int)) 6 1 0 [] = true := pmc6 chk_60 chk_61 chk_62 chk_63 chk_64 chk_65
theorem chk_all6 {n x : Int} (h2 : 2 ≤ n) (h6 : n ≤ 6) (hx : PM x n) : chk6 n x = true := by
  have : n = 2 ∨ n = 3 ∨ n = 4 ∨ n = 5 ∨ n = 6 := by omega
  rcases this with rfl | rfl | rfl | rfl | rfl
  · exact pm_all (n := 2) (by omega) chk_2 hx
  · exact pm_all (n := 3) (by omega) chk_3 hx
  · exact pm_all (n := 4) (by omega) chk_4 hx
  · exact pm_all (n := 5) (by omega) chk_5 hx
  · exact pm_all (n := 6) (by omega) chk_6 hx
def ordM (f : Int → Int) (n : Int) : Option Int := fo (fun k s => match s, stM f k 8 (f k) 1 with
  | some t, some q => some (w32 (o_div t (w32 (Int.gcd t q : Int)) * q))
  | _, _ => none) n.toNat 0 (some 1)
def chkO (n : Int) (x : Int) : Bool := decide (ordM (dg x) n = some (ord6 x n)) && decide (ord6 x n ≤ 6)
set_option maxRecDepth 100000 in
theorem cho_2 : pmc 2 (fun x => chkO 2 (x : Int)) 2 1 0 [] = true := by decide +kernel
set_option maxRecDepth 100000 in
theorem cho_3 : pmc 3 (fun x => chkO 3 (x : Int)) 3 1 0 [] = true := by decide +kernel
set_option maxRecDepth 100000 in
theorem cho_4 : pmc 4 (fun x => chkO 4 (x : Int)) 4 1 0 [] = true := by decide +kernel
set_option maxRecDepth 100000 in
theorem cho_5 : pmc 5 (fun x => chkO 5 (x : Int)) 5 1 0 [] = true := by decide +kernel
set_option maxRecDepth 100000 in
theorem cho_60 : pmc 6 (fun x => chkO 6 (x : Int)) 5 8 0 [0] = true := by decide +kernel
set_option maxRecDepth 100000 in
theorem cho_61 : pmc 6 (fun x => chkO 6 (x : Int)) 5 8 1 [1] = true := by decide +kernel
set_option maxRecDepth 100000 in
theorem cho_62 : pmc 6 (fun x => chkO 6 (x : Int)) 5 8 2 [2] = true := by decide +kernel
set_option maxRecDepth 100000 in
theorem cho_63 : pmc 6 (fun x => chkO 6 (x : Int)) 5 8 3 [3] = true := by decide +kernel
set_option maxRecDepth 100000 in
theorem cho_64 : pmc 6 (fun x => chkO 6 (x : Int)) 5 8 4 [4] = true := by decide +kernel
set_option maxRecDepth 100000 in
theorem cho_65 : pmc 6 (fun x => chkO 6 (x : Int)) 5 8 5 [5] = true := by decide +kernel
theorem cho_6 : pmc 6 (fun x => chkO 6 (x : Int)) 6 1 0 [] = true := pmc6 cho_60 cho_61 cho_62 cho_63 cho_64 cho_65
theorem cho_all6 {n x : Int} (h2 : 2 ≤ n) (h6 : n ≤ 6) (hx : PM x n) : chkO n x = true := by
  have : n = 2 ∨ n = 3 ∨ n = 4 ∨ n = 5 ∨ n = 6 := by omega
  rcases this with rfl | rfl | rfl | rfl | rfl
  · exact pm_all (n := 2) (by omega) cho_2 hx
  · exact pm_all (n := 3) (by omega) cho_3 hx
  · exact pm_all (n := 4) (by omega) cho_4 hx
  · exact pm_all (n := 5) (by omega) cho_5 hx
  · exact pm_all (n := 6) (by omega) cho_6 hx
