/-! the memory only grows -/
def Gr (μ ν : MM) : Prop := gTop μ.1 ≤ gTop ν.1 ∧ gCl μ.1 ≤ gCl ν.1 ∧ gSl μ.1 ≤ gSl ν.1 ∧ (∀ x, x < gTop μ.1 → gTy ν.1 x = gTy μ.1 x) ∧ ∀ x, x < gTop μ.1 → gLn ν.1 x = gLn μ.1 x
theorem Gr.rf {μ : MM} : Gr μ μ := ⟨Int.le_refl _, Nat.le_refl _, Nat.le_refl _, fun _ _ => rfl, fun _ _ => rfl⟩
theorem Gr.tr {a b c : MM} (h : Gr a b) (k : Gr b c) : Gr a c := ⟨Int.le_trans h.1 k.1, Nat.le_trans h.2.1 k.2.1, Nat.le_trans h.2.2.1 k.2.2.1, fun x hx => (k.2.2.2.1 x (Int.lt_of_lt_of_le hx h.1)).trans (h.2.2.2.1 x hx), fun x hx => (k.2.2.2.2 x (Int.lt_of_lt_of_le hx h.1)).trans (h.2.2.2.2 x hx)⟩
theorem Gr.c {G : MG} {c c' : MC} : Gr (G, c) (G, c') := ⟨Int.le_refl _, Nat.le_refl _, Nat.le_refl _, fun _ _ => rfl, fun _ _ => rfl⟩
theorem Gr.nw {μ : MM} {t n : Nat} {c : MC} : Gr μ (gNew μ.1 t n, c) := ⟨show gTop μ.1 ≤ gTop μ.1 + 1 by omega, Nat.le_succ _, Nat.le_add_right _ _, fun x hx => if_neg (by omega), fun x hx => if_neg (by omega)⟩
def Rg (μ : MM) (a : MRes) : Prop := ∀ r ν, a = some (r, ν) → Gr μ ν
section Grow
variable {μ : MM}
theorem rg_D : Rg μ none := fun _ _ h => by cases h
theorem rg_up {μ' : MM} {a : MRes} (h : Gr μ μ') (k : Rg μ' a) : Rg μ a := fun r ν q => h.tr (k r ν q)
theorem rg_pI {st : List MV} {f : Int → List MV → MRes} (h : ∀ x r, Rg μ (f x r)) : Rg μ (pI none st f) := by
  unfold pI
  split
  · exact h _ _
  · exact rg_D
theorem rg_pL {st : List MV} {f : Int → List MV → MRes} (h : ∀ x r, Rg μ (f x r)) : Rg μ (pL none st f) := by
  unfold pL
  split
  · exact h _ _
  · exact rg_D
theorem rg_pR {st : List MV} {f : Nat → Int → List MV → MRes} (h : ∀ t x r, Rg μ (f t x r)) : Rg μ (pR none st f) := by
  unfold pR
  split
  · exact h _ _ _
  · exact rg_D
theorem rg_lI {ls : List MV} {k : Nat} {f : Int → MRes} (h : ∀ x, Rg μ (f x)) : Rg μ (lI none ls k f) := by
  unfold lI
  split
  · exact h _
  · exact rg_D
theorem rg_lL {ls : List MV} {k : Nat} {f : Int → MRes} (h : ∀ x, Rg μ (f x)) : Rg μ (lL none ls k f) := by
  unfold lL
  split
  · exact h _
  · exact rg_D
theorem rg_lR {ls : List MV} {k : Nat} {f : Nat → Int → MRes} (h : ∀ t x, Rg μ (f t x)) : Rg μ (lR none ls k f) := by
  unfold lR
  split
  · exact rg_D
  · exact h _ _
  · exact rg_D
theorem rg_sI {ls : List MV} {k : Nat} {v : MV} {f : List MV → MRes} (h : ∀ x, Rg μ (f x)) : Rg μ (sI none ls k v f) := by
  unfold sI
  split
  · exact h _
  · exact rg_D
theorem rg_sL {ls : List MV} {k : Nat} {v : MV} {f : List MV → MRes} (h : ∀ x, Rg μ (f x)) : Rg μ (sL none ls k v f) := by
  unfold sL
  split
  · exact h _
  · exact rg_D
theorem rg_ite {p : Prop} {dp : Decidable p} {a b : MRes} (h1 : Rg μ a) (h2 : Rg μ b) : Rg μ (if p then a else b) := by
  split
  · exact h1
  · exact h2
theorem rg_br {c : Jvm.ClassFile.Cond} {x y : Int} {a b : MRes} (h1 : Rg μ a) (h2 : Rg μ b) : Rg μ (br c x y a b) := by
  cases c <;> unfold br <;> first | exact rg_ite h1 h2 | exact rg_ite h2 h1
theorem rg_pF {f : Nat} {st : List MV} {F : Int → List MV → MRes} (h : ∀ x r, Rg μ (F x r)) : Rg μ (pF none (fun p dp x => @ite _ p dp x none) f st F) := by
  unfold pF
  split
  · exact rg_pI h
  · exact rg_pL h
  · exact rg_pI fun x r => rg_ite (h x r) rg_D
  · exact rg_D
  · exact rg_pR fun t x r => rg_ite (h _ _) (rg_ite (h _ _) rg_D)
theorem rg_sw {K : Nat → MRes} {x : Int} {d : Nat} (h : ∀ t, Rg μ (K t)) : ∀ (os : List Int) (i : Int), Rg μ (sw K x d i os) := by
  intro os
  induction os with
  | nil => intro i; exact h _
  | cons o os ih => intro i; exact rg_ite (h _) (ih _)
end Grow
theorem rg_step {K : Nat → List MV → List MV → MM → MRes} {cr : Nat → Nat → List MV → MM → (Option MV → MM → MRes) → MRes}
    (hK : ∀ pc l st μ, Rg μ (K pc l st μ)) (hc : ∀ (m q : Nat) (args : List MV) (μ : MM) (k : Option MV → MM → MRes), (∀ v ν, Rg ν (k v ν)) → Rg μ (cr m q args μ k))
    (rk : Nat) (i : Instr) (pc : Nat) (ls st : List MV) (μ : MM) : Rg μ (stepG (α := MRes) none (fun p dp x => @ite _ p dp x none) (fun _ b k => k b) K (fun r μ => some (r, μ)) cr rk i pc ls st μ) := by
  have hret : ∀ r, Rg μ (some (r, μ)) := fun r r' ν h => by cases h; exact Gr.rf
  have hthr : ∀ r, Rg μ (some (r, ((gTop μ.1, gCl μ.1 + 1, gSl μ.1 + 6, gTy μ.1, gLn μ.1), μ.2))) := fun r r' ν h => by
    cases h
    exact ⟨Int.le_refl _, Nat.le_succ _, Nat.le_add_right _ _, fun _ _ => rfl, fun _ _ => rfl⟩
  cases i <;> simp only [stepG] <;>
    repeat (first
      | exact rg_D
      | exact hret _
      | exact hthr _
      | exact hK _ _ _ μ
      | exact rg_up (Gr.c (G := μ.1) (c := μ.2)) (hK _ _ _ _)
      | exact rg_up Gr.nw (hK _ _ _ _)
      | (refine rg_pF fun _ _ => ?_)
      | (refine rg_pI fun _ _ => ?_)
      | (refine rg_pL fun _ _ => ?_)
      | (refine rg_pR fun _ _ _ => ?_)
      | (refine rg_lI fun _ => ?_)
      | (refine rg_lL fun _ => ?_)
      | (refine rg_lR fun _ _ => ?_)
      | (refine rg_sI fun _ => ?_)
      | (refine rg_sL fun _ => ?_)
      | exact rg_br (hK _ _ _ _) (hK _ _ _ _)
      | (refine rg_sw (fun _ => hK _ _ _ _) _ _)
      | (refine hc _ _ _ _ _ fun _ _ => ?_)
      | exact hK _ _ _ _
      | (refine rg_ite ?_ ?_)
      | split)
theorem rg_enterM {run : Nat → Nat → List MV → List MV → MM → MRes} (h : ∀ m pc l st μ, Rg μ (run m pc l st μ)) (m : Nat) (args : List MV) (μ : MM) : Rg μ (enterM run m args μ) := by
  unfold enterM
  exact rg_ite (h _ _ _ _ _) rg_D
theorem rg_enter {run : Nat → Nat → Nat → List MV → List MV → MM → MRes} (h : ∀ d m pc l st μ, Rg μ (run d m pc l st μ)) (d m : Nat) (args : List MV) (μ : MM) : Rg μ (enter run d m args μ) := by
  unfold enter
  refine rg_ite (rg_enterM (h d) m args μ) (rg_ite ?_ (rg_ite ?_ (rg_ite ?_ rg_D)))
  · split
    · refine rg_ite ?_ rg_D
      intro r ν q; cases q; exact Gr.rf
    · exact rg_D
  · split
    · refine rg_ite ?_ rg_D
      intro r ν q; cases q; exact Gr.rf
    · exact rg_D
  · split
    · exact rg_D
    · rename_i d
      split
      · refine rg_ite ?_ rg_D
        split
        · rename_i p ν q
          have := rg_enterM (h d) mX10_led _ μ _ _ q
          intro r ν' q'; cases q'
          exact this.tr Gr.c
        · rename_i ν q
          have := rg_enterM (h d) mX10_led _ μ _ _ q
          intro r ν' q'; cases q'
          exact this
        · exact rg_D
      · exact rg_D
theorem run_grow : ∀ (n d m pc : Nat) (l st : List MV) (μ : MM), Rg μ (runF n d m pc l st μ) := by
  intro n
  induction n with
  | zero => intro d m pc l st μ; exact rg_D
  | succ n ih =>
    intro d m pc l st μ
    simp only [runF]
    refine rg_step (fun pc l st μ => ih d m pc l st μ) (fun m' q args μ k h => ?_) _ _ _ _ _ _
    cases d with
    | zero => exact rg_D
    | succ d =>
      dsimp only
      split
      · rename_i v ν q
        exact rg_up (rg_enter ih d m' args μ _ _ q) (h _ _)
      · exact rg_D
