/-! ===== what clauses are made of ===== -/
def Bd (x : Int64) : Prop := -1000000000 ≤ x ∧ x ≤ 1000000000
def DOK (D : DS) : Prop := ∀ e, (∀ j, Bd (e j)) → ∀ x, D e = some x → Bd x
theorem bnd_Bd {x y : Int64} (h : bnd x = some y) : Bd y := by
  unfold bnd at h
  split at h
  · simp at h
  · rename_i hc
    injection h with h
    subst h
    unfold Bd
    grind
theorem DOK_bin {f : Int64 → Int64 → Option Int64} (hf : ∀ x y z, f x y = some z → Bd z) (A B : DS) : DOK (bin f A B) := by
  intro e _ x hx
  unfold bin at hx
  cases hA : A e with
  | none => rw [hA] at hx; simp at hx
  | some a =>
    cases hB : B e with
    | none => rw [hA, hB] at hx; simp at hx
    | some b => rw [hA, hB] at hx; exact hf a b x hx
theorem fS_Bd (c : Int32) : ∀ x y z, fS c x y = some z → Bd z := fun x y z h => bnd_Bd h
theorem fM_Bd (c : Int32) : ∀ x y z, fM c x y = some z → Bd z := by
  intro x y z h
  unfold fM at h
  split at h
  · exact bnd_Bd h
  · split at h
    · simp at h
    · exact bnd_Bd h
def POK (p : Nat → Nat → PR DS) : Prop := ∀ i l j l' D, p i l = .inr (j, l', D) → DOK D
theorem POK_J {op : Int32 → Option (DS → DS → DS)} {c : Nat → Int32} {item : Nat → Nat → PR DS} (hop : ∀ x f A B, op x = some f → DOK (f A B)) : ∀ n i l A, DOK A → ∀ j l' D, pJ op c item n i l A = .inr (j, l', D) → DOK D := by
  intro n
  induction n with
  | zero => intro i l A hA j l' D h; simp [pJ] at h; rw [← h.2.2]; exact hA
  | succ n ih =>
    intro i l A hA j l' D h
    unfold pJ at h
    cases ho : op (c i) with
    | none => rw [ho] at h; simp at h; rw [← h.2.2]; exact hA
    | some f =>
      rw [ho] at h
      simp only [] at h
      cases hq : item (i + 1) l with
      | inl e => rw [hq] at h; simp at h
      | inr q =>
        obtain ⟨j1, l1, B⟩ := q
        rw [hq] at h
        exact ih j1 l1 (f A B) (hop _ f A B ho) j l' D h
theorem POK_seq {op : Int32 → Option (DS → DS → DS)} {c : Nat → Int32} {item : Nat → Nat → PR DS} (hop : ∀ x f A B, op x = some f → DOK (f A B)) (hp : POK item) : POK (pSeq op c item) := by
  intro i l j l' D h
  unfold pSeq at h
  cases hq : item i l with
  | inl e => rw [hq] at h; simp at h
  | inr q =>
    obtain ⟨j1, l1, A⟩ := q
    rw [hq] at h
    exact POK_J hop 401 j1 l1 A (hp i l j1 l1 A hq) j l' D h
theorem opS_ok : ∀ x f A B, opS x = some f → DOK (f A B) := by
  intro x f A B h
  unfold opS at h
  split at h
  · injection h with h; subst h; exact DOK_bin (fS_Bd x) A B
  · simp at h
theorem opM_ok : ∀ x f A B, opM x = some f → DOK (f A B) := by
  intro x f A B h
  unfold opM at h
  split at h
  · injection h with h; subst h; exact DOK_bin (fM_Bd x) A B
  · simp at h
theorem i2l_Bd {x : Int32} (h0 : 0 ≤ x) (h1 : x ≤ 1000) : Bd (i2l x) := by
  obtain ⟨h2, h3⟩ := nI_toN h0
  have h4 : x.toNatClampNeg ≤ 1000 := by
    rw [h2, show (1000 : Int32) = nI 1000 from rfl, nI_leI h3 (by decide)] at h1; exact h1
  have : i2l x = lN x.toNatClampNeg := by
    have := nI_l h3
    rw [← h2] at this; exact this
  rw [this]
  generalize x.toNatClampNeg = n at h4
  refine ⟨?_, ?_⟩
  · have : (0 : Int64) ≤ lN n := by rw [show (0 : Int64) = lN 0 from rfl, pk_lLE (by decide) (by omega)]; omega
    grind
  · rw [show (1000000000 : Int64) = lN 1000000000 from rfl, pk_lLE (by omega) (by decide)]; omega
theorem POK_part {o : Bool} {c v : Nat → Int32} {br : Option (Nat → Nat → PR DS)} (hv : ∀ k, 0 ≤ v k) (hb : ∀ p, br = some p → POK p) : POK (pPart o c v br) := by
  intro i l j l' D h
  unfold pPart at h
  split at h
  · unfold pBr at h
    cases br with
    | none => simp at h
    | some p =>
      cases hq : p (i + 1) l with
      | inl e => simp [hq] at h
      | inr q =>
        obtain ⟨j1, l1, A⟩ := q
        simp only [hq] at h
        split at h
        · simp at h; rw [← h.2.2]; exact hb p rfl _ _ _ _ _ hq
        · simp at h
  · have dE : ∀ k : Nat, DOK (fun e => some (e k)) := by
      intro k e he x hx
      injection hx with hx
      rw [← hx]; exact he k
    unfold pLeaf pNum at h
    split at h
    · rename_i hc
      split at h
      · simp at h
      · split at h
        · split at h
          · simp at h; rw [← h.2.2]; exact dE _
          · simp at h
        · split at h
          · split at h
            · simp at h; rw [← h.2.2]; exact dE _
            · simp at h
          · simp only [Sum.inr.injEq, Prod.mk.injEq] at h
            rw [← h.2.2]
            split
            · rename_i h50
              intro e he x hx
              injection hx with hx
              rw [← hx]
              refine i2l_Bd (hv i) ?_
              rcases hc with z | z
              · exact z.2
              · exfalso
                rw [h50] at z
                cases o <;> exact absurd z.2 (by decide)
            · exact dE _
    · simp at h
theorem POK_sum {o : Bool} {c v : Nat → Int32} (hv : ∀ k, 0 ≤ v k) : ∀ d, POK (pSum o c v d) := by
  intro d
  induction d with
  | zero => exact POK_seq opS_ok (POK_seq opM_ok (POK_part hv (by intro p h; simp at h)))
  | succ d ih => exact POK_seq opS_ok (POK_seq opM_ok (POK_part hv (by intro p h; simp at h; rw [← h]; exact ih)))
theorem DOK_d1 : DOK d1 := by
  intro e _ x hx
  unfold d1 at hx
  injection hx with hx
  rw [← hx]; exact ⟨by decide, by decide⟩
/-- a clause as it can be -/
def COK (o : Bool) (x : CLS) : Prop := DOK x.2.1 ∧ DOK x.2.2.1 ∧ rng x.2.2.2.1 1 20 ∧ (if o then (x.1 = 22 ∨ (x.1 = 24 ∧ x.2.1 = d1 ∧ x.2.2.1 = d1)) else ((x.1 = 1 ∨ x.1 = 2 ∨ x.1 = 3) ∧ (x.1 = 3 → x.2.1 = d1) ∧ x.2.2.1 = d1 ∧ x.2.2.2.1 = 1))
theorem pOne_ok {o : Bool} {c v : Nat → Int32} (hv : ∀ k, 0 ≤ v k) {i l j l' : Nat} {x : CLS} (h : pOne o c v i l = .inr (j, l', x)) : COK o x := by
  have r1 : rng (1 : Int32) 1 20 := ⟨1, by omega, by omega, rfl⟩
  cases o with
  | false =>
    have h : pClause c v i l = .inr (j, l', x) := h
    unfold pClause at h
    split at h
    · rename_i hc
      cases hq : pSum false c v 8 (i + 1) l with
      | inl e => rw [hq] at h; simp at h
      | inr q =>
        obtain ⟨j1, l1, A⟩ := q
        rw [hq] at h
        obtain ⟨T, hx, -⟩ := pIf_inv h
        subst hx
        refine ⟨POK_sum hv 8 _ _ _ _ _ hq, DOK_d1, r1, ?_⟩
        simp only [Bool.false_eq_true, if_false]
        refine ⟨by rcases hc with z | z <;> simp [z], ?_, trivial, trivial⟩
        intro z; rw [z] at hc; exact absurd hc (by decide)
    · split at h
      · obtain ⟨T, hx, -⟩ := pIf_inv h
        subst hx
        exact ⟨DOK_d1, DOK_d1, r1, by simp⟩
      · simp at h
  | true =>
    have h : pOrder c v i l = .inr (j, l', x) := h
    have tm : ∀ hd A B k l2, pTimes true c v hd A B k l2 = .inr (j, l', x) → ∃ t T, rng t 1 20 ∧ x = (hd, A, B, t, T) := by
      intro hd A B k l2 hh
      unfold pTimes at hh
      split at hh
      · split at hh
        · rename_i hc
          obtain ⟨T, hx, -⟩ := pIf_inv hh
          refine ⟨_, T, ?_, hx⟩
          have h0 : 0 ≤ v (k + 1) := hv _
          obtain ⟨h2, h3⟩ := nI_toN h0
          refine ⟨(v (k + 1)).toNatClampNeg, ?_, ?_, h2⟩
          · have := hc.2.1
            rw [h2, show (1 : Int32) = nI 1 from rfl, nI_leI (by decide) h3] at this; exact this
          · have := hc.2.2
            rw [h2, show (20 : Int32) = nI 20 from rfl, nI_leI h3 (by decide)] at this; exact this
        · simp at hh
      · obtain ⟨T, hx, -⟩ := pIf_inv hh
        exact ⟨1, T, r1, hx⟩
    unfold pOrder at h
    split at h
    · cases hq : pSum true c v 8 (i + 1) l with
      | inl e => rw [hq] at h; simp at h
      | inr q =>
        obtain ⟨j1, l1, A⟩ := q
        rw [hq] at h
        simp only [] at h
        split at h
        · cases hq2 : pSum true c v 8 (j1 + 1) l1 with
          | inl e => rw [hq2] at h; simp at h
          | inr q2 =>
            obtain ⟨j2, l2, B⟩ := q2
            rw [hq2] at h
            simp only [] at h
            obtain ⟨t, T, ht, hx⟩ := tm _ _ _ _ _ h
            subst hx
            exact ⟨POK_sum hv 8 _ _ _ _ _ hq, POK_sum hv 8 _ _ _ _ _ hq2, ht, by simp⟩
        · simp at h
    · split at h
      · obtain ⟨t, T, ht, hx⟩ := tm _ _ _ _ _ h
        subst hx
        exact ⟨DOK_d1, DOK_d1, ht, by simp⟩
      · simp at h
theorem pGo_ok {o : Bool} {c v : Nat → Int32} {N : Nat} (hv : ∀ k, 0 ≤ v k) : ∀ n i l xs, pGo o c v N n i l = .inr xs → (∀ x, x ∈ xs → COK o x) ∧ 1 ≤ xs.length ∧ xs.length ≤ n + 1 := by
  intro n
  induction n with
  | zero =>
    intro i l xs h
    unfold pGo at h
    cases hq : pOne o c v i l with
    | inl e => rw [hq] at h; simp at h
    | inr q =>
      obtain ⟨j, l', x⟩ := q
      rw [hq] at h
      simp only [] at h
      have hx := pOne_ok hv hq
      rw [pMore] at h
      split at h
      · simp at h
      · rename_i xs' heq
        have : xs' = [] := by
          split at heq
          · simp at heq
          · split at heq
            · simp at heq
            · simp at heq; exact heq
        subst this
        simp at h
        subst h
        refine ⟨fun y hy => ?_, by simp, by simp⟩
        simp at hy; subst hy; exact hx
  | succ n ih =>
    intro i l xs h
    unfold pGo at h
    cases hq : pOne o c v i l with
    | inl e => rw [hq] at h; simp at h
    | inr q =>
      obtain ⟨j, l', x⟩ := q
      rw [hq] at h
      simp only [] at h
      have hx := pOne_ok hv hq
      by_cases h159 : c j = 159
      · rw [pMore_go h159] at h
        cases hq2 : pGo o c v N n (j + 1) l' with
        | inl e => rw [hq2] at h; simp at h
        | inr ys =>
          rw [hq2] at h
          simp at h
          subst h
          have hy := ih (j + 1) l' ys hq2
          refine ⟨fun y hm => ?_, by simp, by simp; omega⟩
          rcases List.mem_cons.1 hm with z | z
          · rw [z]; exact hx
          · exact hy.1 y z
      · rw [pMore, if_neg h159] at h
        split at h
        · simp at h
        · rename_i xs' heq
          have : xs' = [] := by
            split at heq
            · simp at heq
            · simp at heq; exact heq
          subst this
          simp at h
          subst h
          refine ⟨fun y hy => ?_, by simp, by simp⟩
          simp at hy; subst hy; exact hx
theorem clsOf_ok {K : Nat → Int32} {f : Nat} (h : LawOK K f) : (∀ x, x ∈ clsOf K f → COK false x) ∧ 1 ≤ (clsOf K f).length ∧ (clsOf K f).length ≤ 12 := by
  obtain ⟨-, -, ⟨cl, hcl⟩, hv⟩ := h
  have : clsOf K f = cl := by unfold clsOf; rw [hcl]
  rw [this]
  exact pGo_ok hv 11 0 0 cl hcl
