/-! ===== orders: sums say ints ===== -/
def InI (D : DS) : Prop := ∀ e : Nat → Int64, (∀ j, ∃ z : Int32, e j = i2l z) → ∀ a, D e = some a → ∃ z : Int32, a = i2l z
def PIn (p : Nat → Nat → PR DS) : Prop := ∀ i l j l' D, p i l = .inr (j, l', D) → InI D
theorem bnd_i {x a : Int64} (h : bnd x = some a) : ∃ z : Int32, a = i2l z := by
  unfold bnd at h
  by_cases c : 1000000000 < x ∨ x < -1000000000
  · rw [if_pos c] at h; cases h
  · rw [if_neg c] at h
    cases h
    refine ⟨x.toInt32, ?_⟩
    have h1 : ¬ 1000000000 < x := fun z => c (Or.inl z)
    have h2 : ¬ x < -1000000000 := fun z => c (Or.inr z)
    rw [Int64.lt_iff_toInt_lt] at h1 h2
    have e1 : (1000000000 : Int64).toInt = 1000000000 := rfl
    have e2 : (-1000000000 : Int64).toInt = -1000000000 := rfl
    rw [e1] at h1
    rw [e2] at h2
    apply Int64.toInt_inj.1
    show x.toInt = x.toInt32.toInt64.toInt
    rw [Int32.toInt_toInt64, Int64.toInt_toInt32, Int.bmod_eq_of_le (by omega) (by omega)]
theorem in_bin {f : Int64 → Int64 → Option Int64} (hf : ∀ x y a, f x y = some a → ∃ z : Int32, a = i2l z) (A B : DS) : InI (bin f A B) := by
  intro e _ a ha
  unfold bin at ha
  cases hA : A e with
  | none => rw [hA] at ha; cases ha
  | some x =>
    rw [hA] at ha
    cases hB : B e with
    | none => rw [hB] at ha; cases ha
    | some y =>
      rw [hB] at ha
      exact hf x y a ha
theorem fS_i (c : Int32) : ∀ x y a, fS c x y = some a → ∃ z : Int32, a = i2l z := fun _ _ _ h => bnd_i h
theorem fM_i (c : Int32) : ∀ x y a, fM c x y = some a → ∃ z : Int32, a = i2l z := by
  intro x y a h
  unfold fM at h
  by_cases c1 : c = 142
  · rw [if_pos c1] at h; exact bnd_i h
  · rw [if_neg c1] at h
    by_cases c2 : y = 0
    · rw [if_pos c2] at h; cases h
    · rw [if_neg c2] at h; exact bnd_i h
theorem in_pJ {op : Int32 → Option (DS → DS → DS)} {c : Nat → Int32} {item : Nat → Nat → PR DS} (hop : ∀ x f, op x = some f → ∀ A B, InI (f A B)) : ∀ n i l A j l' D, InI A → pJ op c item n i l A = .inr (j, l', D) → InI D := by
  intro n
  induction n with
  | zero => intro i l A j l' D hA h; cases h; exact hA
  | succ n ih =>
    intro i l A j l' D hA h
    unfold pJ at h
    cases ho : op (c i) with
    | none => rw [ho] at h; cases h; exact hA
    | some f =>
      rw [ho] at h
      simp only [] at h
      cases hq : item (i + 1) l with
      | inl e => rw [hq] at h; cases h
      | inr q =>
        obtain ⟨j2, l2, B⟩ := q
        rw [hq] at h
        exact ih j2 l2 (f A B) j l' D (hop _ f ho A B) h
theorem in_seq {op : Int32 → Option (DS → DS → DS)} {c : Nat → Int32} {item : Nat → Nat → PR DS} (hop : ∀ x f, op x = some f → ∀ A B, InI (f A B)) (hit : PIn item) : PIn (pSeq op c item) := by
  intro i l j l' D h
  unfold pSeq at h
  cases hq : item i l with
  | inl e => rw [hq] at h; cases h
  | inr q =>
    obtain ⟨j2, l2, A⟩ := q
    rw [hq] at h
    exact in_pJ hop 401 j2 l2 A j l' D (hit i l j2 l2 A hq) h
theorem opS_i : ∀ x f, opS x = some f → ∀ A B, InI (f A B) := by
  intro x f h A B
  unfold opS at h
  split at h
  · cases h; exact in_bin (fS_i x) A B
  · cases h
theorem opM_i : ∀ x f, opM x = some f → ∀ A B, InI (f A B) := by
  intro x f h A B
  unfold opM at h
  split at h
  · cases h; exact in_bin (fM_i x) A B
  · cases h
theorem in_part {o : Bool} {c v : Nat → Int32} {br : Option (Nat → Nat → PR DS)} (hb : ∀ p, br = some p → PIn p) : PIn (pPart o c v br) := by
  intro i l j l' D h
  unfold pPart at h
  by_cases c1 : c i = 191
  · rw [if_pos c1] at h
    unfold pBr at h
    cases br with
    | none => cases h
    | some p =>
      simp only [] at h
      cases hq : p (i + 1) l with
      | inl e => rw [hq] at h; cases h
      | inr q =>
        obtain ⟨j2, l2, A⟩ := q
        rw [hq] at h
        simp only [] at h
        split at h
        · cases h; exact hb p rfl (i + 1) l _ l' D hq
        · cases h
  · rw [if_neg c1] at h
    have num : ∀ i l at' hi j l' D, pNum c v i l at' hi = .inr (j, l', D) → InI D := by
      intro i l at' hi j l' D h
      unfold pNum at h
      split at h
      · cases h
        intro e he a ha
        cases ha
        exact he _
      · cases h
    unfold pLeaf at h
    split at h
    · split at h
      · cases h
      · split at h
        · exact num _ _ _ _ _ _ _ h
        · split at h
          · exact num _ _ _ _ _ _ _ h
          · cases h
            intro e he a ha
            split at ha
            · cases ha; exact ⟨_, rfl⟩
            · cases ha; exact he _
    · cases h
theorem in_sum {o : Bool} {c v : Nat → Int32} : ∀ d, PIn (pSum o c v d) := by
  intro d
  induction d with
  | zero => exact in_seq opS_i (in_seq opM_i (in_part (fun p h => by cases h)))
  | succ d ih => exact in_seq opS_i (in_seq opM_i (in_part (fun p h => by cases h; exact ih)))
