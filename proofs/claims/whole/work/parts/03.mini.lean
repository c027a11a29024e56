/-! THE MINI MACHINE: values are whole numbers (int, long) or references (type, place); the memory has cells (by place) of whole numbers. -/
abbrev MV : Type := Int ⊕ Int ⊕ (Nat × Int)
abbrev mI (x : Int) : MV := Sum.inl x
abbrev mL (x : Int) : MV := Sum.inr (Sum.inl x)
abbrev mR (t : Nat) (a : Int) : MV := Sum.inr (Sum.inr (t, a))
abbrev MU : MV := mR 0 0
/-- top; cells and slots of the real heap that were made; type and length of each cell -/
abbrev MG : Type := Int × Nat × Nat × (Int → Nat) × (Int → Int)
abbrev MC : Type := Int → Int → Int
abbrev MM : Type := MG × MC
abbrev gTop (G : MG) : Int := G.1
abbrev gCl (G : MG) : Nat := G.2.1
abbrev gSl (G : MG) : Nat := G.2.2.1
abbrev gTy (G : MG) : Int → Nat := G.2.2.2.1
abbrev gLn (G : MG) : Int → Int := G.2.2.2.2
def up (c : MC) (a j v : Int) : MC := fun a' j' => if a' = a ∧ j' = j then v else c a' j'
def w32 (x : Int) : Int := (x + 2147483648) % 4294967296 - 2147483648
def w64 (x : Int) : Int := (x + 9223372036854775808) % 18446744073709551616 - 9223372036854775808
def o_and (x y : Int) : Int := (Int32.ofInt x &&& Int32.ofInt y).toInt
def o_or (x y : Int) : Int := (Int32.ofInt x ||| Int32.ofInt y).toInt
def o_xor (x y : Int) : Int := (Int32.ofInt x ^^^ Int32.ofInt y).toInt
def o_shl (x y : Int) : Int := (Int32.ofInt x <<< (Int32.ofInt y &&& 31)).toInt
def o_shr (x y : Int) : Int := (Int32.ofInt x >>> (Int32.ofInt y &&& 31)).toInt
def o_ushr (x y : Int) : Int := ((Int32.ofInt x).toUInt32 >>> ((Int32.ofInt y).toUInt32 &&& Int32.toUInt32 31)).toInt32.toInt
def o_div (x y : Int) : Int := (Int32.ofInt x / Int32.ofInt y).toInt
def o_rem (x y : Int) : Int := (Int32.ofInt x - Int32.ofInt x / Int32.ofInt y * Int32.ofInt y).toInt
def o_ldiv (x y : Int) : Int := (Int64.ofInt x / Int64.ofInt y).toInt
def o_lrem (x y : Int) : Int := (Int64.ofInt x - Int64.ofInt x / Int64.ofInt y * Int64.ofInt y).toInt
def o_land (x y : Int) : Int := (Int64.ofInt x &&& Int64.ofInt y).toInt
def o_lor (x y : Int) : Int := (Int64.ofInt x ||| Int64.ofInt y).toInt
def o_lshl (x y : Int) : Int := (Int64.ofInt x <<< ((Int32.ofInt y).toInt64 &&& 63)).toInt
def o_lshr (x y : Int) : Int := (Int64.ofInt x >>> ((Int32.ofInt y).toInt64 &&& 63)).toInt
def o_i2b (x : Int) : Int := (Int32.ofInt x).toInt8.toInt
def o_lcmp (x y : Int) : Int := if x < y then -1 else if x = y then 0 else 1
def ld (f : Nat) (x : Int) : MV := match f with
  | 0 => mI x
  | 1 => mL x
  | 2 => mI x
  | 3 => mI x
  | t + 4 => mR (t + 4) x
def dv (t : Nat) (j : Int) : Int := if 4 ≤ (fty t).getD j.toNat 0 then -1 else 0
def gNew (G : MG) (t : Nat) (n : Nat) : MG := (gTop G + 1, gCl G + 1, gSl G + n, fun a => if a = gTop G then t else gTy G a, fun a => if a = gTop G then (n : Int) else gLn G a)
def cNew (G : MG) (c : MC) (t : Nat) : MC := fun a j => if a = gTop G then dv t j else c a j
def cCopy (c : MC) (a i b j n : Int) : MC := fun a' j' => if a' = b ∧ j ≤ j' ∧ j' < j + n then c a (i + (j' - j)) else c a' j'
def lset (ls : List MV) (k : Nat) (v : MV) : List MV := match k with
  | 0 => ls.set 0 v
  | k + 1 => match ls[k]? with
    | some (Sum.inr (Sum.inl _)) => (ls.set k MU).set (k + 1) v
    | _ => ls.set (k + 1) v
def nth {β : Type} (d : β) : List β → Nat → β
  | [], _ => d
  | x :: _, 0 => x
  | _ :: l, n + 1 => nth d l n
def look (k : List (List Instr)) (pc : Nat) : Instr := nth .nop (nth [] k (pc / 32)) (pc % 32)
def atyp (a : ArrayType) : Nat := match a with
  | .int => 4
  | .long => 5
  | .byte => 6
  | .boolean => 7
  | _ => 0
section Step
variable {α : Type}
def pI (D : α) (st : List MV) (f : Int → List MV → α) : α := match st with
  | Sum.inl x :: r => f x r
  | _ => D
def pL (D : α) (st : List MV) (f : Int → List MV → α) : α := match st with
  | Sum.inr (Sum.inl x) :: r => f x r
  | _ => D
def pR (D : α) (st : List MV) (f : Nat → Int → List MV → α) : α := match st with
  | Sum.inr (Sum.inr (t, a)) :: r => f t a r
  | _ => D
/-- a value of a field's sort from the stack -/
def pF (D : α) (chk : (p : Prop) → Decidable p → α → α) (f : Nat) (st : List MV) (g : Int → List MV → α) : α := match f with
  | 0 => pI D st g
  | 1 => pL D st g
  | 2 => pI D st fun x r => chk (0 ≤ x ∧ x ≤ 1) inferInstance (g x r)
  | 3 => D
  | t + 4 => pR D st fun u a r => if u = t + 4 then g a r else if u = 9 then g (-1) r else D
def lI (D : α) (ls : List MV) (k : Nat) (f : Int → α) : α := match ls[k]? with
  | some (Sum.inl x) => f x
  | _ => D
def lL (D : α) (ls : List MV) (k : Nat) (f : Int → α) : α := match ls[k]? with
  | some (Sum.inr (Sum.inl x)) => f x
  | _ => D
def lR (D : α) (ls : List MV) (k : Nat) (f : Nat → Int → α) : α := match ls[k]? with
  | some (Sum.inr (Sum.inr (0, _))) => D
  | some (Sum.inr (Sum.inr (t + 1, a))) => f (t + 1) a
  | _ => D
def sI (D : α) (ls : List MV) (k : Nat) (v : MV) (f : List MV → α) : α := if k < ls.length then f (lset ls k v) else D
def sL (D : α) (ls : List MV) (k : Nat) (v : MV) (f : List MV → α) : α := if k + 1 < ls.length then f ((lset ls k v).set (k + 1) MU) else D
def sw (K : Nat → α) (x : Int) (dflt : Nat) : Int → List Int → α
  | _, [] => K dflt
  | i, o :: os => if x = i then K o.toNat else sw K x dflt (i + 1) os
def br (c : Jvm.ClassFile.Cond) (x y : Int) (a b : α) : α := match c with
  | .eq => if x = y then a else b
  | .ne => if x = y then b else a
  | .lt => if x < y then a else b
  | .ge => if x < y then b else a
  | .gt => if y < x then a else b
  | .le => if y < x then b else a
def stepG (D : α) (chk : (p : Prop) → Decidable p → α → α) (nm : (β : Type) → β → (β → α) → α) (K : Nat → List MV → List MV → MM → α) (ret : Option MV → MM → α)
    (call : Nat → Nat → List MV → MM → (Option MV → MM → α) → α) (rk : Nat) (i : Instr) (pc : Nat) (ls st : List MV) (μ : MM) : α :=
  match i with
  | .iconst n => K (pc + 1) ls (mI n :: st) μ
  | .bipush n => K (pc + 2) ls (mI n :: st) μ
  | .sipush n => K (pc + 3) ls (mI n :: st) μ
  | .lconst n => K (pc + 1) ls (mL (n.val : Nat) :: st) μ
  | .ldc n => K (pc + 2) ls (mI (n : Nat) :: st) μ
  | .ldc_w n => K (pc + 3) ls (mI (n : Nat) :: st) μ
  | .ldc2_w n => K (pc + 3) ls (mL (n : Nat) :: st) μ
  | .instanceof n => K (pc + 2) ls (mR 2 (n : Nat) :: st) μ
  | .checkcast n => K (pc + 3) ls (mR 2 (n : Nat) :: st) μ
  | .aconst_null => K (pc + 1) ls (mR 9 (-1) :: st) μ
  | .iload k => lI D ls k fun x => K (pc + 2) ls (mI x :: st) μ
  | .iload_n k => lI D ls k.val fun x => K (pc + 1) ls (mI x :: st) μ
  | .lload k => lL D ls k fun x => K (pc + 2) ls (mL x :: st) μ
  | .lload_n k => lL D ls k.val fun x => K (pc + 1) ls (mL x :: st) μ
  | .aload k => lR D ls k fun t a => K (pc + 2) ls (mR t a :: st) μ
  | .aload_n k => lR D ls k.val fun t a => K (pc + 1) ls (mR t a :: st) μ
  | .istore k => pI D st fun x st => sI D ls k (mI x) fun ls => K (pc + 2) ls st μ
  | .istore_n k => pI D st fun x st => sI D ls k.val (mI x) fun ls => K (pc + 1) ls st μ
  | .lstore k => pL D st fun x st => sL D ls k (mL x) fun ls => K (pc + 2) ls st μ
  | .lstore_n k => pL D st fun x st => sL D ls k.val (mL x) fun ls => K (pc + 1) ls st μ
  | .astore k => pR D st fun t a st => sI D ls k (mR t a) fun ls => K (pc + 2) ls st μ
  | .astore_n k => pR D st fun t a st => sI D ls k.val (mR t a) fun ls => K (pc + 1) ls st μ
  | .iinc k n => lI D ls k fun x => sI D ls k (mI (w32 (x + n))) fun ls => K (pc + 3) ls st μ
  | .iadd => pI D st fun y st => pI D st fun x st => K (pc + 1) ls (mI (w32 (x + y)) :: st) μ
  | .isub => pI D st fun y st => pI D st fun x st => K (pc + 1) ls (mI (w32 (x - y)) :: st) μ
  | .imul => pI D st fun y st => pI D st fun x st => K (pc + 1) ls (mI (w32 (x * y)) :: st) μ
  | .idiv => pI D st fun y st => pI D st fun x st => chk (y ≠ 0) inferInstance (K (pc + 1) ls (mI (o_div x y) :: st) μ)
  | .irem => pI D st fun y st => pI D st fun x st => chk (y ≠ 0) inferInstance (K (pc + 1) ls (mI (o_rem x y) :: st) μ)
  | .iand => pI D st fun y st => pI D st fun x st => K (pc + 1) ls (mI (o_and x y) :: st) μ
  | .ior => pI D st fun y st => pI D st fun x st => K (pc + 1) ls (mI (o_or x y) :: st) μ
  | .ixor => pI D st fun y st => pI D st fun x st => K (pc + 1) ls (mI (o_xor x y) :: st) μ
  | .ishl => pI D st fun y st => pI D st fun x st => K (pc + 1) ls (mI (o_shl x y) :: st) μ
  | .ishr => pI D st fun y st => pI D st fun x st => K (pc + 1) ls (mI (o_shr x y) :: st) μ
  | .iushr => pI D st fun y st => pI D st fun x st => K (pc + 1) ls (mI (o_ushr x y) :: st) μ
  | .ineg => pI D st fun x st => K (pc + 1) ls (mI (w32 (0 - x)) :: st) μ
  | .ladd => pL D st fun y st => pL D st fun x st => K (pc + 1) ls (mL (w64 (x + y)) :: st) μ
  | .lsub => pL D st fun y st => pL D st fun x st => K (pc + 1) ls (mL (w64 (x - y)) :: st) μ
  | .lmul => pL D st fun y st => pL D st fun x st => K (pc + 1) ls (mL (w64 (x * y)) :: st) μ
  | .ldiv => pL D st fun y st => pL D st fun x st => chk (y ≠ 0) inferInstance (K (pc + 1) ls (mL (o_ldiv x y) :: st) μ)
  | .lrem => pL D st fun y st => pL D st fun x st => chk (y ≠ 0) inferInstance (K (pc + 1) ls (mL (o_lrem x y) :: st) μ)
  | .land => pL D st fun y st => pL D st fun x st => K (pc + 1) ls (mL (o_land x y) :: st) μ
  | .lor => pL D st fun y st => pL D st fun x st => K (pc + 1) ls (mL (o_lor x y) :: st) μ
  | .lshl => pI D st fun y st => pL D st fun x st => K (pc + 1) ls (mL (o_lshl x y) :: st) μ
  | .lshr => pI D st fun y st => pL D st fun x st => K (pc + 1) ls (mL (o_lshr x y) :: st) μ
  | .lcmp => pL D st fun y st => pL D st fun x st => K (pc + 1) ls (mI (o_lcmp x y) :: st) μ
  | .i2l => pI D st fun x st => K (pc + 1) ls (mL x :: st) μ
  | .l2i => pL D st fun x st => K (pc + 1) ls (mI (w32 x) :: st) μ
  | .i2b => pI D st fun x st => K (pc + 1) ls (mI (o_i2b x) :: st) μ
  | .dup => match st with
    | Sum.inl x :: r => K (pc + 1) ls (mI x :: mI x :: r) μ
    | Sum.inr (Sum.inr (t, a)) :: r => K (pc + 1) ls (mR t a :: mR t a :: r) μ
    | _ => D
  | .pop => match st with
    | Sum.inl _ :: r => K (pc + 1) ls r μ
    | Sum.inr (Sum.inr _) :: r => K (pc + 1) ls r μ
    | _ => D
  | .dup2 => match st with
    | Sum.inl y :: Sum.inr (Sum.inr (t, a)) :: r => K (pc + 1) ls (mI y :: mR t a :: mI y :: mR t a :: r) μ
    | Sum.inr (Sum.inl x) :: r => K (pc + 1) ls (mL x :: mL x :: r) μ
    | _ => D
  | .goto t => K t.toNat ls st μ
  | .ifCond c t => pI D st fun x st => br c x 0 (K t.toNat ls st μ) (K (pc + 3) ls st μ)
  | .if_icmp c t => pI D st fun y st => pI D st fun x st => br c x y (K t.toNat ls st μ) (K (pc + 3) ls st μ)
  | .ifnull t => pR D st fun _ a st => if a < 0 then K t.toNat ls st μ else K (pc + 3) ls st μ
  | .ifnonnull t => pR D st fun _ a st => if a < 0 then K (pc + 3) ls st μ else K t.toNat ls st μ
  | .tableswitch d lo _ os => pI D st fun x st => sw (fun t => K t ls st μ) x d.toNat lo os.toList
  | .getfield e => pR D st fun t a st => if t = e / 4096 then chk (0 ≤ a) inferInstance (K (pc + 3) ls (ld (e % 64) (μ.2 a ((e / 64 % 64 : Nat) : Int)) :: st) μ) else D
  | .putfield e => pF D chk (e % 64) st fun v st => pR D st fun t a st => if t = e / 4096 then chk (0 ≤ a) inferInstance (nm MC (up μ.2 a ((e / 64 % 64 : Nat) : Int) v) fun c => K (pc + 3) ls st (μ.1, c)) else D
  | .arraylength => pR D st fun t a st => if t = 4 ∨ t = 5 ∨ t = 6 ∨ t = 7 ∨ t = 1 then chk (0 ≤ a) inferInstance (K (pc + 1) ls (mI (gLn μ.1 (if t = 1 then -1 else a)) :: st) μ) else D
  | .iaload => pI D st fun i st => pR D st fun t a st => if t = 4 then chk (0 ≤ a ∧ 0 ≤ i ∧ i < gLn μ.1 a) inferInstance (K (pc + 1) ls (mI (μ.2 a i) :: st) μ) else if t = 1 then chk (0 ≤ i ∧ i < gLn μ.1 (-1)) inferInstance (K (pc + 1) ls (mI (μ.2 (-1) i) :: st) μ) else D
  | .laload => pI D st fun i st => pR D st fun t a st => if t = 5 then chk (0 ≤ a ∧ 0 ≤ i ∧ i < gLn μ.1 a) inferInstance (K (pc + 1) ls (mL (μ.2 a i) :: st) μ) else D
  | .baload => pI D st fun i st => pR D st fun t a st => if t = 6 ∨ t = 7 then chk (0 ≤ a ∧ 0 ≤ i ∧ i < gLn μ.1 a) inferInstance (K (pc + 1) ls (mI (μ.2 a i) :: st) μ) else D
  | .iastore => pI D st fun x st => pI D st fun i st => pR D st fun t a st => if t = 4 then chk (0 ≤ a ∧ 0 ≤ i ∧ i < gLn μ.1 a) inferInstance (nm MC (up μ.2 a i x) fun c => K (pc + 1) ls st (μ.1, c)) else D
  | .lastore => pL D st fun x st => pI D st fun i st => pR D st fun t a st => if t = 5 then chk (0 ≤ a ∧ 0 ≤ i ∧ i < gLn μ.1 a) inferInstance (nm MC (up μ.2 a i x) fun c => K (pc + 1) ls st (μ.1, c)) else D
  | .bastore => pI D st fun x st => pI D st fun i st => pR D st fun t a st => if t = 6 then chk (0 ≤ a ∧ 0 ≤ i ∧ i < gLn μ.1 a ∧ -128 ≤ x ∧ x < 128) inferInstance (nm MC (up μ.2 a i x) fun c => K (pc + 1) ls st (μ.1, c)) else if t = 7 then chk (0 ≤ a ∧ 0 ≤ i ∧ i < gLn μ.1 a ∧ 0 ≤ x ∧ x ≤ 1) inferInstance (nm MC (up μ.2 a i x) fun c => K (pc + 1) ls st (μ.1, c)) else D
  | .newarray y => pI D st fun n st => if 4 ≤ atyp y then chk (0 ≤ n ∧ n ≤ 100000) inferInstance (nm MG (gNew μ.1 (atyp y) n.toNat) fun G => nm MC (cNew μ.1 μ.2 (atyp y)) fun c => K (pc + 2) ls (mR (atyp y) (gTop μ.1) :: st) (G, c)) else D
  | .new e => if e = 99 then (match st with
      | [] => ret (some (mR 3 0)) ((gTop μ.1, gCl μ.1 + 1, gSl μ.1 + 6, gTy μ.1, gLn μ.1), μ.2)
      | _ => D)
      else nm MG (gNew μ.1 e (fty e).length) fun G => nm MC (cNew μ.1 μ.2 e) fun c => K (pc + 3) ls (mR e (gTop μ.1) :: st) (G, c)
  | .ireturn => match st with
    | [Sum.inl x] => if rk = 1 then ret (some (mI x)) μ else if rk = 2 then chk (0 ≤ x ∧ x ≤ 1) inferInstance (ret (some (mI x)) μ) else D
    | _ => D
  | .lreturn => match st with
    | [Sum.inr (Sum.inl x)] => if rk = 3 then ret (some (mL x)) μ else D
    | _ => D
  | .areturn => match st with
    | [Sum.inr (Sum.inr (t, a))] => if rk = 4 then ret (some (mR t a)) μ else D
    | _ => D
  | .return_ => match st with
    | [] => if rk = 0 then ret none μ else D
    | _ => D
  | .invokestatic e => if e / 128 = 1002 then
      (match st with
      | Sum.inl n :: Sum.inl j :: Sum.inr (Sum.inr (u, b)) :: Sum.inl i :: Sum.inr (Sum.inr (t, a)) :: r => if t = u ∧ (t = 4 ∨ t = 5) ∧ r.length ≤ 3 then chk (0 ≤ a ∧ 0 ≤ b ∧ 0 ≤ i ∧ 0 ≤ j ∧ 0 ≤ n ∧ i + n ≤ gLn μ.1 a ∧ j + n ≤ gLn μ.1 b) inferInstance (nm MC (cCopy μ.2 a i b j n) fun c => K (pc + 3) ls r (μ.1, c)) else D
      | _ => D)
      else if e % 16 ≤ st.length ∧ (st.drop (e % 16)).length ≤ 4 then call (e / 128) (e / 16 % 8) (st.take (e % 16)).reverse μ fun v μ => K (pc + 3) ls (v.toList ++ st.drop (e % 16)) μ else D
  | .invokevirtual e => if e % 16 ≤ st.length ∧ (st.drop (e % 16)).length ≤ 4 then call (e / 128) (e / 16 % 8) (st.take (e % 16)).reverse μ fun v μ => K (pc + 3) ls (v.toList ++ st.drop (e % 16)) μ else D
  | .invokespecial e => if e / 128 = 1003 then
      (match st with
      | Sum.inr (Sum.inr (t, a)) :: r => if 10 ≤ t ∧ r.length ≤ 4 then chk (0 ≤ a) inferInstance (K (pc + 3) ls r μ) else D
      | _ => D)
      else if e % 16 ≤ st.length ∧ (st.drop (e % 16)).length ≤ 4 then call (e / 128) (e / 16 % 8) (st.take (e % 16)).reverse μ fun v μ => K (pc + 3) ls (v.toList ++ st.drop (e % 16)) μ else D
  | _ => D
end Step
/-- the arguments as locals -/
def lay : List MV → List MV
  | [] => []
  | Sum.inr (Sum.inl x) :: r => mL x :: MU :: lay r
  | v :: r => v :: lay r
def pad (n : Nat) (l : List MV) : List MV := l ++ List.replicate (n - l.length) MU
abbrev MRes : Type := Option (Option MV × MM)
