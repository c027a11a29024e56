/-! THE RUN of the mini machine, by fuel n and depth d; and its weakest preconditions -/
/-- is the object there, and of its type? -/
def rok (rt : Nat) (args : List MV) : Bool := match rt with
  | 0 => true
  | t + 1 => match args with
    | Sum.inr (Sum.inr (u, a)) :: _ => Nat.beq u (t + 1) && decide (0 ≤ a)
    | _ => false
def enterM (run : Nat → Nat → List MV → List MV → MM → MRes) (m : Nat) (args : List MV) (μ : MM) : MRes :=
  if rok (mtab m).2.2.1 args = true ∧ (lay args).length ≤ (mtab m).1 then run m 0 (pad (mtab m).1 (lay args)) [] μ else none
def enter (run : Nat → Nat → Nat → List MV → List MV → MM → MRes) (d m : Nat) (args : List MV) (μ : MM) : MRes :=
  if m < 1000 then enterM (run d) m args μ
  else if m = 1004 then (match args with
    | [Sum.inr (Sum.inr (2, a))] => if 0 ≤ a ∧ a < 17 then some (some (mI (nth [] jsT a.toNat).length), μ) else none
    | _ => none)
  else if m = 1005 then (match args with
    | [Sum.inr (Sum.inr (2, a)), Sum.inl i] => if 0 ≤ a ∧ a < 17 ∧ 0 ≤ i ∧ i < (nth [] jsT a.toNat).length then some (some (mI (nth 0 (nth [] jsT a.toNat) i.toNat)), μ) else none
    | _ => none)
  else if m = 1006 then (match d with
    | 0 => none
    | d + 1 => match args with
      | [Sum.inr (Sum.inr (16, x)), Sum.inl i, Sum.inr (Sum.inr (5, o))] => if 0 ≤ o ∧ 0 < gLn μ.1 o then
          (match enterM (run d) mX10_led [mR 16 x, mI i] μ with
          | some (some (Sum.inl p), ν) => some (some (mI 0), (ν.1, up ν.2 o 0 p))
          | some (some (Sum.inr (Sum.inr (3, _))), ν) => some (some (mI 1), ν)
          | _ => none) else none
      | _ => none)
  else none
def runF : Nat → Nat → Nat → Nat → List MV → List MV → MM → MRes
  | 0, _, _, _, _, _, _ => none
  | n + 1, d, m, pc, ls, st, μ => stepG (α := MRes) none (fun p dp x => @ite _ p dp x none) (fun _ b k => k b) (fun pc ls st μ => runF n d m pc ls st μ) (fun r μ => some (r, μ))
      (fun m' _ args μ k => match d with
        | 0 => none
        | d + 1 => match enter (runF n) d m' args μ with
          | some (v, ν) => k v ν
          | none => none) (mtab m).2.1 (look (mtab m).2.2.2 pc) pc ls st μ
def At (d m pc : Nat) (ls st : List MV) (μ : MM) (Q : Option MV → MM → Prop) : Prop := ∃ (N : Nat) (r : Option MV) (ν : MM), (∀ n, N ≤ n → runF n d m pc ls st μ = some (r, ν)) ∧ Q r ν
def Ev (d m : Nat) (args : List MV) (μ : MM) (Q : Option MV → MM → Prop) : Prop := ∃ (N : Nat) (r : Option MV) (ν : MM), (∀ n, N ≤ n → enter (runF n) d m args μ = some (r, ν)) ∧ Q r ν
/-- typed answers -/
def QV (P : MM → Prop) : Option MV → MM → Prop := fun v ν => match v with
  | none => P ν
  | _ => False
def QI (P : Int → MM → Prop) : Option MV → MM → Prop := fun v ν => match v with
  | some (Sum.inl x) => P x ν
  | _ => False
def QL (P : Int → MM → Prop) : Option MV → MM → Prop := fun v ν => match v with
  | some (Sum.inr (Sum.inl x)) => P x ν
  | _ => False
def QR (P : Int → MM → Prop) : Option MV → MM → Prop := fun v ν => match v with
  | some (Sum.inr (Sum.inr (11, x))) => P x ν
  | _ => False
def QO (P : Int → MM → Prop) : Option MV → MM → Prop := fun v ν => match v with
  | some (Sum.inr (Sum.inr (15, x))) => P x ν
  | _ => False
abbrev EvV (d m : Nat) (args : List MV) (μ : MM) (P : MM → Prop) : Prop := Ev d m args μ (QV P)
abbrev EvI (d m : Nat) (args : List MV) (μ : MM) (P : Int → MM → Prop) : Prop := Ev d m args μ (QI P)
abbrev EvL (d m : Nat) (args : List MV) (μ : MM) (P : Int → MM → Prop) : Prop := Ev d m args μ (QL P)
abbrev EvR (d m : Nat) (args : List MV) (μ : MM) (P : Int → MM → Prop) : Prop := Ev d m args μ (QR P)
abbrev EvO (d m : Nat) (args : List MV) (μ : MM) (P : Int → MM → Prop) : Prop := Ev d m args μ (QO P)
def evK (d m k : Nat) (args : List MV) (μ : MM) (P : Option MV → MM → Prop) : Prop := match k with
  | 0 => EvV d m args μ fun ν => P none ν
  | 1 => EvI d m args μ fun x ν => P (some (mI x)) ν
  | 2 => EvI d m args μ fun x ν => P (some (mI x)) ν
  | 3 => EvL d m args μ fun x ν => P (some (mL x)) ν
  | 4 => EvR d m args μ fun x ν => P (some (mR 11 x)) ν
  | _ => EvO d m args μ fun x ν => P (some (mR 15 x)) ν
theorem evK_ev {d m k : Nat} {args : List MV} {μ : MM} {P : Option MV → MM → Prop} (h : evK d m k args μ P) : Ev d m args μ P := by
  unfold evK at h
  split at h
  all_goals
    obtain ⟨N, r, ν, h1, h2⟩ := h
    refine ⟨N, r, ν, h1, ?_⟩
    simp only [QV, QI, QL, QR, QO] at h2
    split at h2
    · exact h2
    · exact h2.elim
/-- locals that are not live any more are forgotten -/
def mask : List Bool → List MV → List MV
  | true :: bs, v :: l => v :: mask bs l
  | false :: bs, _ :: l => MU :: mask bs l
  | [], l => l
  | _, [] => []
def cutAt (pc : Nat) : List (Nat × List Bool) → Option (List Bool)
  | [] => none
  | x :: l => match Nat.beq pc x.1 with
    | true => some x.2
    | false => cutAt pc l
def wpF (rk : Nat) (code : List (List Instr)) (cut : List (Nat × List Bool)) (d m : Nat) (Q : Option MV → MM → Prop) : Nat → Nat → List MV → List MV → MM → Prop
  | 0, pc, ls, st, μ => At (d + 1) m pc ls st μ Q
  | n + 1, pc, ls, st, μ => stepG (α := Prop) False (fun p _ x => p ∧ x) (fun _ b k => ∀ x, x = b → k x) (fun pc ls st μ => match cutAt pc cut with
      | some b => At (d + 1) m pc (mask b ls) st μ Q
      | none => wpF rk code cut d m Q n pc ls st μ) Q (fun m' k args μ P => evK d m' k args μ P) rk (look code pc) pc ls st μ
/-! more known locals never hurt -/
def lle (l l' : List MV) : Prop := l.length = l'.length ∧ ∀ (k : Nat) (v : MV), l[k]? = some v → v = MU ∨ l'[k]? = some v
def Rm (a b : MRes) : Prop := ∀ x, a = some x → b = some x
theorem lle_rf {l : List MV} : lle l l := ⟨rfl, fun _ _ h => Or.inr h⟩
theorem lle_set {l l' : List MV} (h : lle l l') (k : Nat) (v : MV) : lle (l.set k v) (l'.set k v) := by
  refine ⟨by simp [h.1], fun j w hw => ?_⟩
  rw [List.getElem?_set] at hw ⊢
  rw [← h.1]
  by_cases e : k = j
  · rw [if_pos e] at hw ⊢; exact Or.inr hw
  · rw [if_neg e] at hw ⊢; exact h.2 j w hw
theorem lle_setU {l l' : List MV} (h : lle l l') (k : Nat) (hk : ∀ v, l[k]? = some v → v = MU) : lle l (l'.set k MU) := by
  refine ⟨by simp [h.1], fun j w hw => ?_⟩
  rw [List.getElem?_set]
  split
  · rename_i e; subst e; exact Or.inl (hk w hw)
  · exact h.2 j w hw
theorem lle_lset {l l' : List MV} (h : lle l l') (k : Nat) (v : MV) : lle (lset l k v) (lset l' k v) := by
  unfold lset
  split
  · exact lle_set h 0 v
  · rename_i k
    split
    · rename_i x hx
      rcases h.2 k _ hx with q | q
      · cases q
      · rw [q]; exact lle_set (lle_set h _ _) _ _
    · rename_i hx
      split
      · rename_i x hx'
        refine lle_set (lle_setU h k fun w hw => ?_) _ _
        rcases h.2 k w hw with q | q
        · exact q
        · rw [hx'] at q
          cases q
          exact absurd hw (hx x)
      · exact lle_set h _ _
theorem lle_mask : ∀ (b : List Bool) (l : List MV), lle (mask b l) l := by
  intro b
  induction b with
  | nil => intro l; simp only [mask]; exact lle_rf
  | cons x b ih =>
    intro l
    cases l with
    | nil => cases x <;> exact lle_rf
    | cons v l =>
      obtain ⟨h1, h2⟩ := ih l
      cases x with
      | true =>
        refine ⟨by simp [mask, h1], fun k w hw => ?_⟩
        cases k with
        | zero => exact Or.inr hw
        | succ k => exact h2 k w hw
      | false =>
        refine ⟨by simp [mask, h1], fun k w hw => ?_⟩
        cases k with
        | zero => left; simpa [mask] using hw.symm
        | succ k => exact h2 k w hw
section Mono
theorem rm_D {b : MRes} : Rm none b := fun _ h => by cases h
theorem rm_rf {a : MRes} : Rm a a := fun _ h => h
theorem rm_pI {st : List MV} {f g : Int → List MV → MRes} (h : ∀ x r, Rm (f x r) (g x r)) : Rm (pI none st f) (pI none st g) := by
  unfold pI
  split
  · exact h _ _
  · exact rm_D
theorem rm_pL {st : List MV} {f g : Int → List MV → MRes} (h : ∀ x r, Rm (f x r) (g x r)) : Rm (pL none st f) (pL none st g) := by
  unfold pL
  split
  · exact h _ _
  · exact rm_D
theorem rm_pR {st : List MV} {f g : Nat → Int → List MV → MRes} (h : ∀ t x r, Rm (f t x r) (g t x r)) : Rm (pR none st f) (pR none st g) := by
  unfold pR
  split
  · exact h _ _ _
  · exact rm_D
theorem rm_lI {l l' : List MV} (hl : lle l l') {k : Nat} {f g : Int → MRes} (h : ∀ x, Rm (f x) (g x)) : Rm (lI none l k f) (lI none l' k g) := by
  unfold lI
  split
  · rename_i x hx
    rcases hl.2 k _ hx with q | q
    · cases q
    · rw [q]; exact h _
  · exact rm_D
theorem rm_lL {l l' : List MV} (hl : lle l l') {k : Nat} {f g : Int → MRes} (h : ∀ x, Rm (f x) (g x)) : Rm (lL none l k f) (lL none l' k g) := by
  unfold lL
  split
  · rename_i x hx
    rcases hl.2 k _ hx with q | q
    · cases q
    · rw [q]; exact h _
  · exact rm_D
theorem rm_lR {l l' : List MV} (hl : lle l l') {k : Nat} {f g : Nat → Int → MRes} (h : ∀ t x, Rm (f t x) (g t x)) : Rm (lR none l k f) (lR none l' k g) := by
  unfold lR
  split
  · exact rm_D
  · rename_i t a hx
    rcases hl.2 k _ hx with q | q
    · cases q
    · rw [q]; exact h _ _
  · exact rm_D
theorem rm_sI {l l' : List MV} (hl : lle l l') {k : Nat} {v : MV} {f g : List MV → MRes} (h : ∀ x y, lle x y → Rm (f x) (g y)) : Rm (sI none l k v f) (sI none l' k v g) := by
  unfold sI
  rw [hl.1]
  split
  · exact h _ _ (lle_lset hl k v)
  · exact rm_D
theorem rm_sL {l l' : List MV} (hl : lle l l') {k : Nat} {v : MV} {f g : List MV → MRes} (h : ∀ x y, lle x y → Rm (f x) (g y)) : Rm (sL none l k v f) (sL none l' k v g) := by
  unfold sL
  rw [hl.1]
  split
  · exact h _ _ (lle_set (lle_lset hl k v) _ _)
  · exact rm_D
theorem rm_ite {p : Prop} {dp : Decidable p} {a b a' b' : MRes} (h1 : Rm a a') (h2 : Rm b b') : Rm (if p then a else b) (if p then a' else b') := by
  split
  · exact h1
  · exact h2
theorem rm_br {c : Jvm.ClassFile.Cond} {x y : Int} {a b a' b' : MRes} (h1 : Rm a a') (h2 : Rm b b') : Rm (br c x y a b) (br c x y a' b') := by
  cases c <;> unfold br <;> first | exact rm_ite h1 h2 | exact rm_ite h2 h1
theorem rm_pF {f : Nat} {st : List MV} {F g : Int → List MV → MRes} (h : ∀ x r, Rm (F x r) (g x r)) : Rm (pF none (fun p dp x => @ite _ p dp x none) f st F) (pF none (fun p dp x => @ite _ p dp x none) f st g) := by
  unfold pF
  split
  · exact rm_pI h
  · exact rm_pL h
  · exact rm_pI fun x r => rm_ite (h x r) rm_rf
  · exact rm_D
  · exact rm_pR fun t x r => rm_ite (h _ _) (rm_ite (h _ _) rm_D)
theorem rm_sw {K g : Nat → MRes} {x : Int} {d : Nat} (h : ∀ t, Rm (K t) (g t)) : ∀ (os : List Int) (i : Int), Rm (sw K x d i os) (sw g x d i os) := by
  intro os
  induction os with
  | nil => intro i; exact h _
  | cons o os ih => intro i; exact rm_ite (h _) (ih _)
theorem rm_step {K K' : Nat → List MV → List MV → MM → MRes} {cr : Nat → Nat → List MV → MM → (Option MV → MM → MRes) → MRes}
    (hK : ∀ pc l l' st μ, lle l l' → Rm (K pc l st μ) (K' pc l' st μ))
    (hc : ∀ (m q : Nat) (args : List MV) (μ : MM) (k g : Option MV → MM → MRes), (∀ v ν, Rm (k v ν) (g v ν)) → Rm (cr m q args μ k) (cr m q args μ g))
    (rk : Nat) (i : Instr) (pc : Nat) (ls ls' st : List MV) (μ : MM) (hl : lle ls ls') :
    Rm (stepG (α := MRes) none (fun p dp x => @ite _ p dp x none) (fun _ b k => k b) K (fun r μ => some (r, μ)) cr rk i pc ls st μ) (stepG (α := MRes) none (fun p dp x => @ite _ p dp x none) (fun _ b k => k b) K' (fun r μ => some (r, μ)) cr rk i pc ls' st μ) := by
  cases i <;> simp only [stepG] <;>
    repeat (first
      | exact rm_D
      | exact rm_rf
      | exact hK _ _ _ _ _ (by assumption)
      | (refine rm_pF fun _ _ => ?_)
      | (refine rm_pI fun _ _ => ?_)
      | (refine rm_pL fun _ _ => ?_)
      | (refine rm_pR fun _ _ _ => ?_)
      | (refine rm_lI hl fun _ => ?_)
      | (refine rm_lL hl fun _ => ?_)
      | (refine rm_lR hl fun _ _ => ?_)
      | (refine rm_sI hl fun _ _ _ => ?_)
      | (refine rm_sL hl fun _ _ _ => ?_)
      | exact rm_br (hK _ _ _ _ _ hl) (hK _ _ _ _ _ hl)
      | (refine rm_sw (fun _ => hK _ _ _ _ _ hl) _ _)
      | (refine hc _ _ _ _ _ _ fun _ _ => ?_)
      | (refine rm_ite ?_ ?_)
      | split)
end Mono
theorem run_mono : ∀ (n d m pc : Nat) (l l' st : List MV) (μ : MM), lle l l' → Rm (runF n d m pc l st μ) (runF n d m pc l' st μ) := by
  intro n
  induction n with
  | zero => intro d m pc l l' st μ _; exact rm_D
  | succ n ih =>
    intro d m pc l l' st μ hl
    simp only [runF]
    refine rm_step (fun pc l l' st μ h => ih d m pc l l' st μ h) (fun m' q args μ k g h => ?_) _ _ _ _ _ _ _ hl
    cases d with
    | zero => exact rm_D
    | succ d =>
      dsimp only
      split
      · exact h _ _
      · exact rm_D
theorem at_mask {d m pc : Nat} {ls st : List MV} {μ : MM} {Q : Option MV → MM → Prop} (b : List Bool) (h : At d m pc (mask b ls) st μ Q) : At d m pc ls st μ Q := by
  obtain ⟨N, r, ν, h1, h2⟩ := h
  exact ⟨N, r, ν, fun n hn => run_mono n d m pc _ _ st μ (lle_mask b ls) _ (h1 n hn), h2⟩
/-- what the one says, the other does, from some fuel on -/
def Rl (Q : Option MV → MM → Prop) (P : Prop) (x : Nat → MRes) : Prop := P → ∃ (N : Nat) (r : Option MV) (ν : MM), (∀ n, N ≤ n → x n = some (r, ν)) ∧ Q r ν
section Rel
variable {Q : Option MV → MM → Prop}
theorem rl_D {x : Nat → MRes} : Rl Q False x := fun h => h.elim
theorem rl_pI {st : List MV} {f : Int → List MV → Prop} {g : Nat → Int → List MV → MRes} (h : ∀ x r, Rl Q (f x r) (fun n => g n x r)) : Rl Q (pI False st f) (fun n => pI none st (g n)) := by
  unfold pI
  split
  · exact h _ _
  · exact rl_D
theorem rl_pL {st : List MV} {f : Int → List MV → Prop} {g : Nat → Int → List MV → MRes} (h : ∀ x r, Rl Q (f x r) (fun n => g n x r)) : Rl Q (pL False st f) (fun n => pL none st (g n)) := by
  unfold pL
  split
  · exact h _ _
  · exact rl_D
theorem rl_pR {st : List MV} {f : Nat → Int → List MV → Prop} {g : Nat → Nat → Int → List MV → MRes} (h : ∀ t x r, Rl Q (f t x r) (fun n => g n t x r)) : Rl Q (pR False st f) (fun n => pR none st (g n)) := by
  unfold pR
  split
  · exact h _ _ _
  · exact rl_D
theorem rl_lI {ls : List MV} {k : Nat} {f : Int → Prop} {g : Nat → Int → MRes} (h : ∀ x, Rl Q (f x) (fun n => g n x)) : Rl Q (lI False ls k f) (fun n => lI none ls k (g n)) := by
  unfold lI
  split
  · exact h _
  · exact rl_D
theorem rl_lL {ls : List MV} {k : Nat} {f : Int → Prop} {g : Nat → Int → MRes} (h : ∀ x, Rl Q (f x) (fun n => g n x)) : Rl Q (lL False ls k f) (fun n => lL none ls k (g n)) := by
  unfold lL
  split
  · exact h _
  · exact rl_D
theorem rl_lR {ls : List MV} {k : Nat} {f : Nat → Int → Prop} {g : Nat → Nat → Int → MRes} (h : ∀ t x, Rl Q (f t x) (fun n => g n t x)) : Rl Q (lR False ls k f) (fun n => lR none ls k (g n)) := by
  unfold lR
  split
  · exact rl_D
  · exact h _ _
  · exact rl_D
theorem rl_sI {ls : List MV} {k : Nat} {v : MV} {f : List MV → Prop} {g : Nat → List MV → MRes} (h : ∀ x, Rl Q (f x) (fun n => g n x)) : Rl Q (sI False ls k v f) (fun n => sI none ls k v (g n)) := by
  unfold sI
  split
  · exact h _
  · exact rl_D
theorem rl_sL {ls : List MV} {k : Nat} {v : MV} {f : List MV → Prop} {g : Nat → List MV → MRes} (h : ∀ x, Rl Q (f x) (fun n => g n x)) : Rl Q (sL False ls k v f) (fun n => sL none ls k v (g n)) := by
  unfold sL
  split
  · exact h _
  · exact rl_D
theorem rl_chk {p P : Prop} {dp : Decidable p} {x : Nat → MRes} (h : Rl Q P x) : Rl Q (p ∧ P) (fun n => @ite _ p dp (x n) none) := by
  intro ⟨hp, hP⟩
  obtain ⟨N, r, ν, h1, h2⟩ := h hP
  exact ⟨N, r, ν, fun n hn => by show (if p then x n else none) = _; rw [if_pos hp]; exact h1 n hn, h2⟩
theorem rl_ite {p : Prop} {dp : Decidable p} {A B : Prop} {x y : Nat → MRes} (h1 : Rl Q A x) (h2 : Rl Q B y) : Rl Q (if p then A else B) (fun n => if p then x n else y n) := by
  by_cases hp : p
  · simp only [if_pos hp]; exact h1
  · simp only [if_neg hp]; exact h2
theorem rl_br {c : Jvm.ClassFile.Cond} {a b : Int} {A B : Prop} {x y : Nat → MRes} (h1 : Rl Q A x) (h2 : Rl Q B y) : Rl Q (br c a b A B) (fun n => br c a b (x n) (y n)) := by
  cases c <;> unfold br <;> first | exact rl_ite h1 h2 | exact rl_ite h2 h1
theorem rl_pF {f : Nat} {st : List MV} {F : Int → List MV → Prop} {g : Nat → Int → List MV → MRes} (h : ∀ x r, Rl Q (F x r) (fun n => g n x r)) : Rl Q (pF False (fun p _ x => p ∧ x) f st F) (fun n => pF none (fun p dp x => @ite _ p dp x none) f st (g n)) := by
  unfold pF
  split
  · exact rl_pI h
  · exact rl_pL h
  · exact rl_pI fun x r => rl_chk (h x r)
  · exact rl_D
  · exact rl_pR fun t x r => rl_ite (h _ _) (rl_ite (h _ _) rl_D)
theorem rl_sw {K : Nat → Prop} {g : Nat → Nat → MRes} {x : Int} {d : Nat} (h : ∀ t, Rl Q (K t) (fun n => g n t)) : ∀ (os : List Int) (i : Int), Rl Q (sw K x d i os) (fun n => sw (g n) x d i os) := by
  intro os
  induction os with
  | nil => intro i; exact h _
  | cons o os ih => intro i; exact rl_ite (h _) (ih _)
theorem rl_step {K : Nat → List MV → List MV → MM → Prop} {run : Nat → Nat → List MV → List MV → MM → MRes} {cp : Nat → Nat → List MV → MM → (Option MV → MM → Prop) → Prop} {cr : Nat → Nat → Nat → List MV → MM → (Option MV → MM → MRes) → MRes}
    (hK : ∀ pc ls st μ, Rl Q (K pc ls st μ) (fun n => run n pc ls st μ))
    (hc : ∀ (m q : Nat) (args : List MV) (μ : MM) (k : Option MV → MM → Prop) (g : Nat → Option MV → MM → MRes), (∀ v ν, Rl Q (k v ν) (fun n => g n v ν)) → Rl Q (cp m q args μ k) (fun n => cr n m q args μ (g n)))
    (rk : Nat) (i : Instr) (pc : Nat) (ls st : List MV) (μ : MM) :
    Rl Q (stepG (α := Prop) False (fun p _ x => p ∧ x) (fun _ b k => ∀ x, x = b → k x) K Q cp rk i pc ls st μ) (fun n => stepG (α := MRes) none (fun p dp x => @ite _ p dp x none) (fun _ b k => k b) (run n) (fun r μ => some (r, μ)) (cr n) rk i pc ls st μ) := by
  have hret : ∀ r ν, Rl Q (Q r ν) (fun _ => (some (r, ν) : MRes)) := fun r ν h => ⟨0, r, ν, fun _ _ => rfl, h⟩
  cases i <;> simp only [stepG] <;>
    repeat (first
      | exact rl_D
      | exact hK _ _ _ _
      | exact hret _ _
      | (refine rl_pF fun _ _ => ?_)
      | (refine rl_pI fun _ _ => ?_)
      | (refine rl_pL fun _ _ => ?_)
      | (refine rl_pR fun _ _ _ => ?_)
      | (refine rl_lI fun _ => ?_)
      | (refine rl_lL fun _ => ?_)
      | (refine rl_lR fun _ _ => ?_)
      | (refine rl_sI fun _ => ?_)
      | (refine rl_sL fun _ => ?_)
      | exact rl_br (hK _ _ _ _) (hK _ _ _ _)
      | (refine rl_sw (fun _ => hK _ _ _ _) _ _)
      | (refine hc _ _ _ _ _ _ fun _ _ => ?_)
      | (refine rl_chk ?_)
      | exact fun hq => hK _ _ _ _ (hq _ rfl)
      | exact fun hq => hK _ _ _ _ (hq _ rfl _ rfl)
      | (refine rl_ite ?_ ?_)
      | split)
end Rel
theorem wp_sound {rk maxL rt : Nat} {code : List (List Instr)} {cut : List (Nat × List Bool)} {d m : Nat} {Q : Option MV → MM → Prop} (hm : mtab m = (maxL, rk, rt, code)) : ∀ (n pc : Nat) (ls st : List MV) (μ : MM), wpF rk code cut d m Q n pc ls st μ → At (d + 1) m pc ls st μ Q := by
  intro n
  induction n with
  | zero => intro pc ls st μ h; exact h
  | succ n ih =>
    intro pc ls st μ h
    have hs := rl_step (Q := Q) (K := fun pc ls st μ => match cutAt pc cut with
      | some b => At (d + 1) m pc (mask b ls) st μ Q
      | none => wpF rk code cut d m Q n pc ls st μ) (run := fun n pc ls st μ => runF n (d + 1) m pc ls st μ) (cp := fun m' k args μ P => evK d m' k args μ P)
      (cr := fun n m' _ args μ k => match enter (runF n) d m' args μ with
          | some (v, ν) => k v ν
          | none => none) (fun pc ls st μ => ?_) (fun m' q args μ k g hk => ?_) rk (look code pc) pc ls st μ h
    · obtain ⟨N, r, ν, h1, h2⟩ := hs
      refine ⟨N + 1, r, ν, fun n hn => ?_, h2⟩
      obtain ⟨n, rfl⟩ : ∃ q, n = q + 1 := ⟨n - 1, by omega⟩
      have h3 := h1 n (by omega)
      simp only [runF, hm]
      exact h3
    · intro h
      cases hb : cutAt pc cut with
      | some b => rw [hb] at h; exact at_mask b h
      | none => rw [hb] at h; exact ih _ _ _ _ h
    · intro h
      obtain ⟨N, r, ν, h1, h2⟩ := evK_ev h
      obtain ⟨N', r', ν', h3, h4⟩ := hk r ν h2
      refine ⟨N + N', r', ν', fun n hn => ?_, h4⟩
      dsimp only
      rw [h1 n (by omega)]
      exact h3 n (by omega)
theorem ev_of {maxL rk rt : Nat} {code : List (List Instr)} {d m : Nat} {args : List MV} {μ : MM} {Q : Option MV → MM → Prop} (hm : mtab m = (maxL, rk, rt, code)) (hl : m < 1000) (hr : rok rt args = true) (hle : (lay args).length ≤ maxL) (h : At d m 0 (pad maxL (lay args)) [] μ Q) : Ev d m args μ Q := by
  obtain ⟨N, r, ν, h1, h2⟩ := h
  refine ⟨N, r, ν, fun n hn => ?_, h2⟩
  unfold enter
  rw [if_pos hl, enterM, hm, if_pos ⟨hr, hle⟩]
  exact h1 n hn
theorem ev_mono {d m : Nat} {args : List MV} {μ : MM} {Q Q' : Option MV → MM → Prop} (h : Ev d m args μ Q) (hq : ∀ r ν, Q r ν → Q' r ν) : Ev d m args μ Q' := by
  obtain ⟨N, r, ν, h1, h2⟩ := h
  exact ⟨N, r, ν, h1, hq _ _ h2⟩
theorem at_mono {d m pc : Nat} {ls st : List MV} {μ : MM} {Q Q' : Option MV → MM → Prop} (h : At d m pc ls st μ Q) (hq : ∀ r ν, Q r ν → Q' r ν) : At d m pc ls st μ Q' := by
  obtain ⟨N, r, ν, h1, h2⟩ := h
  exact ⟨N, r, ν, h1, hq _ _ h2⟩
