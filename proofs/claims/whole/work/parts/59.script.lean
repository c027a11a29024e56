/-! the script stays as it is -/
def Sc (μ ν : MM) : Prop := 0 ≤ gTop μ.1 → (0 ≤ gTop ν.1 ∧ (∀ j, ν.2 (-1) j = μ.2 (-1) j) ∧ gLn ν.1 (-1) = gLn μ.1 (-1))
theorem Sc.rf {μ : MM} : Sc μ μ := fun h => ⟨h, fun _ => rfl, rfl⟩
theorem Sc.tr {a b c : MM} (h : Sc a b) (k : Sc b c) : Sc a c := fun q => ⟨(k (h q).1).1, fun j => ((k (h q).1).2.1 j).trans ((h q).2.1 j), ((k (h q).1).2.2).trans (h q).2.2⟩
theorem Sc.u {μ : MM} {a j v : Int} (ha : 0 ≤ a) : Sc μ (μ.1, up μ.2 a j v) := fun h => ⟨h, fun k => up_na (by omega), rfl⟩
theorem Sc.cp {μ : MM} {a i b j n : Int} (hb : 0 ≤ b) : Sc μ (μ.1, cCopy μ.2 a i b j n) := fun h => ⟨h, fun k => if_neg (by omega), rfl⟩
theorem Sc.nw {μ : MM} {t n : Nat} {t' : Nat} : Sc μ (gNew μ.1 t n, cNew μ.1 μ.2 t') := fun h => ⟨show 0 ≤ gTop μ.1 + 1 by omega, fun k => if_neg (by omega), if_neg (by omega)⟩
def Rs (μ : MM) (a : MRes) : Prop := ∀ r ν, a = some (r, ν) → Sc μ ν
section Keep
variable {μ : MM}
theorem rs_D : Rs μ none := fun _ _ h => by cases h
theorem rs_up {μ' : MM} {a : MRes} (h : Sc μ μ') (k : Rs μ' a) : Rs μ a := fun r ν q => h.tr (k r ν q)
theorem rs_pI {st : List MV} {f : Int → List MV → MRes} (h : ∀ x r, Rs μ (f x r)) : Rs μ (pI none st f) := by
  unfold pI
  split
  · exact h _ _
  · exact rs_D
theorem rs_pL {st : List MV} {f : Int → List MV → MRes} (h : ∀ x r, Rs μ (f x r)) : Rs μ (pL none st f) := by
  unfold pL
  split
  · exact h _ _
  · exact rs_D
theorem rs_pR {st : List MV} {f : Nat → Int → List MV → MRes} (h : ∀ t x r, Rs μ (f t x r)) : Rs μ (pR none st f) := by
  unfold pR
  split
  · exact h _ _ _
  · exact rs_D
theorem rs_lI {ls : List MV} {k : Nat} {f : Int → MRes} (h : ∀ x, Rs μ (f x)) : Rs μ (lI none ls k f) := by
  unfold lI
  split
  · exact h _
  · exact rs_D
theorem rs_lL {ls : List MV} {k : Nat} {f : Int → MRes} (h : ∀ x, Rs μ (f x)) : Rs μ (lL none ls k f) := by
  unfold lL
  split
  · exact h _
  · exact rs_D
theorem rs_lR {ls : List MV} {k : Nat} {f : Nat → Int → MRes} (h : ∀ t x, Rs μ (f t x)) : Rs μ (lR none ls k f) := by
  unfold lR
  split
  · exact rs_D
  · exact h _ _
  · exact rs_D
theorem rs_sI {ls : List MV} {k : Nat} {v : MV} {f : List MV → MRes} (h : ∀ x, Rs μ (f x)) : Rs μ (sI none ls k v f) := by
  unfold sI
  split
  · exact h _
  · exact rs_D
theorem rs_sL {ls : List MV} {k : Nat} {v : MV} {f : List MV → MRes} (h : ∀ x, Rs μ (f x)) : Rs μ (sL none ls k v f) := by
  unfold sL
  split
  · exact h _
  · exact rs_D
theorem rs_ite {p : Prop} {dp : Decidable p} {a b : MRes} (h1 : p → Rs μ a) (h2 : Rs μ b) : Rs μ (if p then a else b) := by
  split
  · exact h1 (by assumption)
  · exact h2
theorem rs_br {c : Jvm.ClassFile.Cond} {x y : Int} {a b : MRes} (h1 : Rs μ a) (h2 : Rs μ b) : Rs μ (br c x y a b) := by
  cases c <;> unfold br <;> first | exact rs_ite (fun _ => h1) h2 | exact rs_ite (fun _ => h2) h1
theorem rs_pF {f : Nat} {st : List MV} {F : Int → List MV → MRes} (h : ∀ x r, Rs μ (F x r)) : Rs μ (pF none (fun p dp x => @ite _ p dp x none) f st F) := by
  unfold pF
  split
  · exact rs_pI h
  · exact rs_pL h
  · exact rs_pI fun x r => rs_ite (fun _ => h x r) rs_D
  · exact rs_D
  · exact rs_pR fun t x r => rs_ite (fun _ => h _ _) (rs_ite (fun _ => h _ _) rs_D)
theorem rs_sw {K : Nat → MRes} {x : Int} {d : Nat} (h : ∀ t, Rs μ (K t)) : ∀ (os : List Int) (i : Int), Rs μ (sw K x d i os) := by
  intro os
  induction os with
  | nil => intro i; exact h _
  | cons o os ih => intro i; exact rs_ite (fun _ => h _) (ih _)
end Keep
theorem rs_step {K : Nat → List MV → List MV → MM → MRes} {cr : Nat → Nat → List MV → MM → (Option MV → MM → MRes) → MRes}
    (hK : ∀ pc l st μ, Rs μ (K pc l st μ)) (hc : ∀ (m q : Nat) (args : List MV) (μ : MM) (k : Option MV → MM → MRes), (∀ v ν, Rs ν (k v ν)) → Rs μ (cr m q args μ k))
    (rk : Nat) (i : Instr) (pc : Nat) (ls st : List MV) (μ : MM) : Rs μ (stepG (α := MRes) none (fun p dp x => @ite _ p dp x none) (fun _ b k => k b) K (fun r μ => some (r, μ)) cr rk i pc ls st μ) := by
  have hret : ∀ r, Rs μ (some (r, μ)) := fun r r' ν h => by cases h; exact Sc.rf
  have hthr : ∀ r, Rs μ (some (r, ((gTop μ.1, gCl μ.1 + 1, gSl μ.1 + 6, gTy μ.1, gLn μ.1), μ.2))) := fun r r' ν h => by
    cases h
    exact fun h => ⟨h, fun _ => rfl, rfl⟩
  cases i <;> simp only [stepG] <;>
    repeat (first
      | exact rs_D
      | exact hret _
      | exact hthr _
      | exact hK _ _ _ μ
      | exact rs_up (Sc.u (by omega)) (hK _ _ _ _)
      | exact rs_up (Sc.cp (by omega)) (hK _ _ _ _)
      | exact rs_up Sc.nw (hK _ _ _ _)
      | (refine rs_pF fun _ _ => ?_)
      | (refine rs_pI fun _ _ => ?_)
      | (refine rs_pL fun _ _ => ?_)
      | (refine rs_pR fun _ _ _ => ?_)
      | (refine rs_lI fun _ => ?_)
      | (refine rs_lL fun _ => ?_)
      | (refine rs_lR fun _ _ => ?_)
      | (refine rs_sI fun _ => ?_)
      | (refine rs_sL fun _ => ?_)
      | exact rs_br (hK _ _ _ _) (hK _ _ _ _)
      | (refine rs_sw (fun _ => hK _ _ _ _) _ _)
      | (refine hc _ _ _ _ _ fun _ _ => ?_)
      | exact hK _ _ _ _
      | (refine rs_ite (fun _ => ?_) ?_)
      | split)
theorem rs_enterM {run : Nat → Nat → List MV → List MV → MM → MRes} (h : ∀ m pc l st μ, Rs μ (run m pc l st μ)) (m : Nat) (args : List MV) (μ : MM) : Rs μ (enterM run m args μ) := by
  unfold enterM
  exact rs_ite (fun _ => h _ _ _ _ _) rs_D
theorem rs_enter {run : Nat → Nat → Nat → List MV → List MV → MM → MRes} (h : ∀ d m pc l st μ, Rs μ (run d m pc l st μ)) (d m : Nat) (args : List MV) (μ : MM) : Rs μ (enter run d m args μ) := by
  unfold enter
  refine rs_ite (fun _ => rs_enterM (h d) m args μ) (rs_ite (fun _ => ?_) (rs_ite (fun _ => ?_) (rs_ite (fun _ => ?_) rs_D)))
  · split
    · refine rs_ite (fun _ => ?_) rs_D
      intro r ν q; cases q; exact Sc.rf
    · exact rs_D
  · split
    · refine rs_ite (fun _ => ?_) rs_D
      intro r ν q; cases q; exact Sc.rf
    · exact rs_D
  · split
    · exact rs_D
    · rename_i d
      split
      · refine rs_ite (fun ho => ?_) rs_D
        split
        · rename_i p ν q
          have := rs_enterM (h d) mX10_led _ μ _ _ q
          intro r ν' q'; cases q'
          exact this.tr (Sc.u ho.1)
        · rename_i ν q
          have := rs_enterM (h d) mX10_led _ μ _ _ q
          intro r ν' q'; cases q'
          exact this
        · exact rs_D
      · exact rs_D
theorem run_keep : ∀ (n d m pc : Nat) (l st : List MV) (μ : MM), Rs μ (runF n d m pc l st μ) := by
  intro n
  induction n with
  | zero => intro d m pc l st μ; exact rs_D
  | succ n ih =>
    intro d m pc l st μ
    simp only [runF]
    refine rs_step (fun pc l st μ => ih d m pc l st μ) (fun m' q args μ k h => ?_) _ _ _ _ _ _
    cases d with
    | zero => exact rs_D
    | succ d =>
      dsimp only
      split
      · rename_i v ν q
        exact rs_up (rs_enter ih d m' args μ _ _ q) (h _ _)
      · exact rs_D
theorem ev_keep {d m : Nat} {args : List MV} {μ : MM} {Q : Option MV → MM → Prop} (h : Ev d m args μ Q) : Ev d m args μ (fun r ν => Sc μ ν ∧ Q r ν) := by
  obtain ⟨N, r, ν, h1, h2⟩ := h
  exact ⟨N, r, ν, h1, rs_enter (run_keep N) d m args μ r ν (h1 N (Nat.le_refl _)), h2⟩
theorem ev_mn {d m : Nat} {args : List MV} {μ : MM} {Q Q' : Option MV → MM → Prop} (h : Ev d m args μ Q) (k : ∀ r ν, Q r ν → Q' r ν) : Ev d m args μ Q' := by
  obtain ⟨N, r, ν, h1, h2⟩ := h
  exact ⟨N, r, ν, h1, k r ν h2⟩
theorem evI_keep {d m : Nat} {args : List MV} {μ : MM} {P P' : Int → MM → Prop} (h : EvI d m args μ P) (k : ∀ r ν, Sc μ ν → P r ν → P' r ν) : EvI d m args μ P' := by
  refine ev_mn (ev_keep h) (fun r ν q => ?_)
  obtain ⟨q1, q2⟩ := q
  unfold QI at q2 ⊢
  split at q2
  · exact k _ _ q1 q2
  · exact q2.elim
theorem evL_keep {d m : Nat} {args : List MV} {μ : MM} {P P' : Int → MM → Prop} (h : EvL d m args μ P) (k : ∀ r ν, Sc μ ν → P r ν → P' r ν) : EvL d m args μ P' := by
  refine ev_mn (ev_keep h) (fun r ν q => ?_)
  obtain ⟨q1, q2⟩ := q
  unfold QL at q2 ⊢
  split at q2
  · exact k _ _ q1 q2
  · exact q2.elim
