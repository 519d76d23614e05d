/-! ===== pure: places, frames, loops by fuel ===== -/
theorem gI_sI {σ : DD} {o k : Nat} {v : Int32} {o' k' : Nat} : gI (sI σ o k v) o' k' = if o' = o ∧ k' = k then v else gI σ o' k' := rfl
theorem gL_sI {σ : DD} {o k : Nat} {v : Int32} {o' k' : Nat} : gL (sI σ o k v) o' k' = gL σ o' k' := rfl
theorem gR_sI {σ : DD} {o k : Nat} {v : Int32} {o' k' : Nat} : gR (sI σ o k v) o' k' = gR σ o' k' := rfl
theorem gI_sL {σ : DD} {o k : Nat} {v : Int64} {o' k' : Nat} : gI (sL σ o k v) o' k' = gI σ o' k' := rfl
theorem gL_sL {σ : DD} {o k : Nat} {v : Int64} {o' k' : Nat} : gL (sL σ o k v) o' k' = if o' = o ∧ k' = k then v else gL σ o' k' := rfl
theorem gR_sL {σ : DD} {o k : Nat} {v : Int64} {o' k' : Nat} : gR (sL σ o k v) o' k' = gR σ o' k' := rfl
theorem gI_sR {σ : DD} {o k : Nat} {v : Option Nat} {o' k' : Nat} : gI (sR σ o k v) o' k' = gI σ o' k' := rfl
theorem gL_sR {σ : DD} {o k : Nat} {v : Option Nat} {o' k' : Nat} : gL (sR σ o k v) o' k' = gL σ o' k' := rfl
theorem gR_sR {σ : DD} {o k : Nat} {v : Option Nat} {o' k' : Nat} : gR (sR σ o k v) o' k' = if o' = o ∧ k' = k then v else gR σ o' k' := rfl
theorem gI_same {σ : DD} {o k : Nat} {v : Int32} : gI (sI σ o k v) o k = v := by simp [gI_sI]
/-- all ints but those of these places are as they were, and all else is -/
def Ag (P : Nat → Nat → Prop) (σ τ : DD) : Prop := (∀ o k, ¬ P o k → gI τ o k = gI σ o k) ∧ τ.2 = σ.2
theorem Ag.refl {P : Nat → Nat → Prop} (σ : DD) : Ag P σ σ := ⟨fun _ _ _ => rfl, rfl⟩
theorem Ag.trans {P : Nat → Nat → Prop} {σ τ υ : DD} (h : Ag P σ τ) (g : Ag P τ υ) : Ag P σ υ := ⟨fun o k q => (g.1 o k q).trans (h.1 o k q), g.2.trans h.2⟩
theorem Ag.set {P : Nat → Nat → Prop} {σ τ : DD} {o k : Nat} {v : Int32} (h : Ag P σ τ) (p : P o k) : Ag P σ (sI τ o k v) := ⟨fun a b q => by
  rw [gI_sI, if_neg (fun e => q (by rw [e.1, e.2]; exact p))]; exact h.1 a b q, h.2⟩
theorem Ag.put {P : Nat → Nat → Prop} {σ : DD} {o k : Nat} {v : Int32} (p : P o k) : Ag P σ (sI σ o k v) := (Ag.refl σ).set p
theorem Ag.mono {P Q : Nat → Nat → Prop} {σ τ : DD} (h : Ag P σ τ) (pq : ∀ o k, P o k → Q o k) : Ag Q σ τ := ⟨fun o k q => h.1 o k (fun p => q (pq o k p)), h.2⟩
theorem Ag.at {P : Nat → Nat → Prop} {σ τ : DD} (h : Ag P σ τ) (o k : Nat) (q : ¬ P o k) : gI τ o k = gI σ o k := h.1 o k q
theorem LoopN {α : Type} {F : (α → Prop) → α → Prop} (I : Nat → α → Prop) (step : ∀ n x K, I n x → (∀ m y, m < n → I m y → K y) → F K x) {n : Nat} {x : α} (h : I n x) : Loop F x := by
  have key : ∀ N n x, I n x → n < N → lpN F N x := by
    intro N
    induction N with
    | zero => intro n x _ h; exact absurd h (Nat.not_lt_zero _)
    | succ N ih => intro n x hx hlt; exact step n x (lpN F N) hx (fun m y hm hy => ih m y hy (by omega))
  exact ⟨n + 1, key _ n x h (Nat.lt_succ_self _)⟩
abbrev bl (b : Bool) : Int32 := if b then 1 else 0
theorem bl_0 {b : Bool} : bl b = 0 ↔ b = false := by cases b <;> simp [bl]
theorem bl_n {b : Bool} : ¬ bl b = 0 ↔ b = true := by cases b <;> simp [bl]
theorem bl_z (b : Bool) : bz (bl b) := by cases b <;> simp [bl, bz]
theorem lgc_eq {x y : Int64} : lg_cmp x y = 0 ↔ x = y := by unfold lg_cmp; grind
theorem lgc_lt {x y : Int64} : lg_cmp x y < 0 ↔ x < y := by unfold lg_cmp; grind
theorem lgc_gt {x y : Int64} : 0 < lg_cmp x y ↔ y < x := by unfold lg_cmp; grind
