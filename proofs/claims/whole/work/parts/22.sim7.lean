/-! more fuel never hurts -/
theorem rm_step2 {K K' : Nat → List MV → List MV → MM → MRes} {cr cr' : Nat → Nat → List MV → MM → (Option MV → MM → MRes) → MRes}
    (hK : ∀ pc l st μ, Rm (K pc l st μ) (K' pc l st μ))
    (hc : ∀ (m q : Nat) (args : List MV) (μ : MM) (k g : Option MV → MM → MRes), (∀ v ν, Rm (k v ν) (g v ν)) → Rm (cr m q args μ k) (cr' m q args μ g))
    (rk : Nat) (i : Instr) (pc : Nat) (ls st : List MV) (μ : MM) :
    Rm (stepG (α := MRes) none (fun p dp x => @ite _ p dp x none) (fun _ b k => k b) K (fun r μ => some (r, μ)) cr rk i pc ls st μ) (stepG (α := MRes) none (fun p dp x => @ite _ p dp x none) (fun _ b k => k b) K' (fun r μ => some (r, μ)) cr' rk i pc ls st μ) := by
  cases i <;> simp only [stepG] <;>
    repeat (first
      | exact rm_D
      | exact rm_rf
      | exact hK _ _ _ _
      | (refine rm_pF fun _ _ => ?_)
      | (refine rm_pI fun _ _ => ?_)
      | (refine rm_pL fun _ _ => ?_)
      | (refine rm_pR fun _ _ _ => ?_)
      | (refine rm_lI lle_rf fun _ => ?_)
      | (refine rm_lL lle_rf fun _ => ?_)
      | (refine rm_lR lle_rf fun _ _ => ?_)
      | (unfold sI; refine rm_ite ?_ ?_)
      | (unfold sL; refine rm_ite ?_ ?_)
      | exact rm_br (hK _ _ _ _) (hK _ _ _ _)
      | (refine rm_sw (fun _ => hK _ _ _ _) _ _)
      | (refine hc _ _ _ _ _ _ fun _ _ => ?_)
      | (refine rm_ite ?_ ?_)
      | split)
theorem rm_enterM {f g : Nat → Nat → List MV → List MV → MM → MRes} (h : ∀ m pc l st μ, Rm (f m pc l st μ) (g m pc l st μ)) (m : Nat) (args : List MV) (μ : MM) : Rm (enterM f m args μ) (enterM g m args μ) := by
  unfold enterM
  exact rm_ite (h _ _ _ _ _) rm_D
theorem rm_enter {f g : Nat → Nat → Nat → List MV → List MV → MM → MRes} (h : ∀ d m pc l st μ, Rm (f d m pc l st μ) (g d m pc l st μ)) (d m : Nat) (args : List MV) (μ : MM) : Rm (enter f d m args μ) (enter g d m args μ) := by
  unfold enter
  refine rm_ite (rm_enterM (h d) m args μ) (rm_ite rm_rf (rm_ite rm_rf (rm_ite ?_ rm_D)))
  split
  · exact rm_D
  · rename_i d
    split
    · refine rm_ite ?_ rm_D
      intro x hx
      have hq := rm_enterM (h d) mX10_led
      split at hx
      · rename_i p ν q; rw [hq _ _ _ q]; exact hx
      · rename_i ν q; rw [hq _ _ _ q]; exact hx
      · cases hx
    · exact rm_D
theorem run_fuel1 : ∀ (n d m pc : Nat) (l st : List MV) (μ : MM), Rm (runF n d m pc l st μ) (runF (n + 1) d m pc l st μ) := by
  intro n
  induction n with
  | zero => intro d m pc l st μ; exact rm_D
  | succ n ih =>
    intro d m pc l st μ
    rw [runF, runF]
    refine rm_step2 (fun pc l st μ => ih d m pc l st μ) (fun m' q args μ k g h => ?_) _ _ _ _ _ _
    cases d with
    | zero => exact rm_D
    | succ d =>
      dsimp only
      intro x hx
      split at hx
      · rename_i v ν q
        rw [rm_enter ih d m' args μ _ q]
        exact h _ _ _ hx
      · cases hx
theorem run_fuel {n n' : Nat} (h : n ≤ n') (d m pc : Nat) (l st : List MV) (μ : MM) : Rm (runF n d m pc l st μ) (runF n' d m pc l st μ) := by
  induction h with
  | refl => exact rm_rf
  | step h ih => exact fun x hx => run_fuel1 _ _ _ _ _ _ _ _ (ih x hx)
/-- what a call comes to is one thing -/
theorem ev_is {n d m : Nat} {args : List MV} {μ : MM} {Q : Option MV → MM → Prop} {v : Option MV} {ν : MM} (h : enter (runF n) d m args μ = some (v, ν)) (hE : Ev d m args μ Q) : Q v ν := by
  obtain ⟨N, r, ν', h1, h2⟩ := hE
  have h3 := rm_enter (f := runF n) (g := runF (n + N)) (fun d m pc l st μ => run_fuel (by omega) d m pc l st μ) d m args μ _ h
  rw [h1 (n + N) (by omega)] at h3
  cases h3
  exact h2
/-! taking the step apart -/
theorem pI_inv {st : List MV} {f : Int → List MV → MRes} {z : Option MV × MM} (h : pI none st f = some z) : ∃ x r, st = mI x :: r ∧ f x r = some z := by
  unfold pI at h
  split at h
  · exact ⟨_, _, rfl, h⟩
  · cases h
theorem pL_inv {st : List MV} {f : Int → List MV → MRes} {z : Option MV × MM} (h : pL none st f = some z) : ∃ x r, st = mL x :: r ∧ f x r = some z := by
  unfold pL at h
  split at h
  · exact ⟨_, _, rfl, h⟩
  · cases h
theorem pR_inv {st : List MV} {f : Nat → Int → List MV → MRes} {z : Option MV × MM} (h : pR none st f = some z) : ∃ t x r, st = mR t x :: r ∧ f t x r = some z := by
  unfold pR at h
  split at h
  · exact ⟨_, _, _, rfl, h⟩
  · cases h
theorem lI_inv {ls : List MV} {k : Nat} {f : Int → MRes} {z : Option MV × MM} (h : lI none ls k f = some z) : ∃ x, ls[k]? = some (mI x) ∧ f x = some z := by
  unfold lI at h
  split at h
  · rename_i q; exact ⟨_, q, h⟩
  · cases h
theorem lL_inv {ls : List MV} {k : Nat} {f : Int → MRes} {z : Option MV × MM} (h : lL none ls k f = some z) : ∃ x, ls[k]? = some (mL x) ∧ f x = some z := by
  unfold lL at h
  split at h
  · rename_i q; exact ⟨_, q, h⟩
  · cases h
theorem lR_inv {ls : List MV} {k : Nat} {f : Nat → Int → MRes} {z : Option MV × MM} (h : lR none ls k f = some z) : ∃ t x, t ≠ 0 ∧ ls[k]? = some (mR t x) ∧ f t x = some z := by
  unfold lR at h
  split at h
  · cases h
  · rename_i q; exact ⟨_, _, by omega, q, h⟩
  · cases h
theorem sI_inv {ls : List MV} {k : Nat} {v : MV} {f : List MV → MRes} {z : Option MV × MM} (h : sI none ls k v f = some z) : k < ls.length ∧ f (lset ls k v) = some z := by
  unfold sI at h
  split at h
  · exact ⟨by assumption, h⟩
  · cases h
theorem sL_inv {ls : List MV} {k : Nat} {v : MV} {f : List MV → MRes} {z : Option MV × MM} (h : sL none ls k v f = some z) : k + 1 < ls.length ∧ f ((lset ls k v).set (k + 1) MU) = some z := by
  unfold sL at h
  split at h
  · exact ⟨by assumption, h⟩
  · cases h
theorem ite_inv {p : Prop} {dp : Decidable p} {a : MRes} {z : Option MV × MM} (h : @ite _ p dp a none = some z) : p ∧ a = some z := by
  split at h
  · exact ⟨by assumption, h⟩
  · cases h
theorem sw_inv {K : Nat → MRes} {x : Int} {d : Nat} {z : Option MV × MM} : ∀ (os : List Int) (i : Int), sw K x d i os = some z → (∃ j : Nat, ∃ o, os[j]? = some o ∧ x = i + j ∧ K o.toNat = some z) ∨ ((x < i ∨ i + os.length ≤ x) ∧ K d = some z) := by
  intro os
  induction os with
  | nil => intro i h; exact Or.inr ⟨by simp; omega, h⟩
  | cons o os ih =>
    intro i h
    rw [sw] at h
    split at h
    · exact Or.inl ⟨0, o, rfl, by rename_i q; simp [q], h⟩
    · rename_i q
      rcases ih (i + 1) h with ⟨j, o', h1, h2, h3⟩ | ⟨h1, h2⟩
      · exact Or.inl ⟨j + 1, o', h1, by rw [h2]; simp; omega, h3⟩
      · refine Or.inr ⟨?_, h2⟩
        simp only [List.length_cons, Int.natCast_add] at h1 ⊢
        omega
/-- putfield's value -/
theorem pF_inv {f : Nat} {st : List MV} {F : Int → List MV → MRes} {z : Option MV × MM} (h : pF none (fun p dp x => @ite _ p dp x none) f st F = some z) : ∃ x r, (st = ld f x :: r ∨ (4 ≤ f ∧ x = -1 ∧ ∃ u, st = mR 9 u :: r)) ∧ (f = 2 → 0 ≤ x ∧ x ≤ 1) ∧ F x r = some z := by
  unfold pF at h
  split at h
  · obtain ⟨x, r, rfl, h⟩ := pI_inv h
    exact ⟨x, r, Or.inl rfl, (by omega), h⟩
  · obtain ⟨x, r, rfl, h⟩ := pL_inv h
    exact ⟨x, r, Or.inl rfl, (by omega), h⟩
  · obtain ⟨x, r, rfl, h⟩ := pI_inv h
    obtain ⟨h1, h⟩ := ite_inv h
    exact ⟨x, r, Or.inl rfl, fun _ => h1, h⟩
  · cases h
  · rename_i t
    obtain ⟨u, x, r, e, h9⟩ := pR_inv h
    split at h9
    · rename_i q; subst q; exact ⟨x, r, Or.inl e, (by omega), h9⟩
    · obtain ⟨q, h9⟩ := ite_inv h9
      subst q
      exact ⟨-1, r, Or.inr ⟨by omega, rfl, x, e⟩, (by omega), h9⟩
def RetI (rk : Nat) (i : Instr) (st : List MV) (μ : MM) (r : Option MV) (ν : MM) : Prop :=
  (i = .ireturn ∧ ∃ x, st = [mI x] ∧ r = some (mI x) ∧ ν = μ ∧ (rk = 1 ∨ rk = 2 ∧ 0 ≤ x ∧ x ≤ 1)) ∨ (i = .lreturn ∧ ∃ x, st = [mL x] ∧ r = some (mL x) ∧ ν = μ ∧ rk = 3) ∨ (i = .areturn ∧ ∃ t x, st = [mR t x] ∧ r = some (mR t x) ∧ ν = μ ∧ rk = 4) ∨ (i = .return_ ∧ st = [] ∧ r = none ∧ ν = μ ∧ rk = 0) ∨
  (i = .new 99 ∧ st = [] ∧ r = some (mR 3 0) ∧ ν = ((gTop μ.1, gCl μ.1 + 1, gSl μ.1 + 6, gTy μ.1, gLn μ.1), μ.2))
theorem dq_of {bytes : ByteArray} {pc n : Nat} {i : Instr} (h : dq bytes pc i n = true) : decode bytes pc = .ok (i, n) := of_decide_eq_true h
