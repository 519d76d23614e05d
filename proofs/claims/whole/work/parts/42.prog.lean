/-! ===== the languages: a token is eaten ===== -/
def Prg {α : Type} (N : Nat) (p : Nat → Nat → PR α) : Prop := ∀ i l, i ≤ N → l ≤ 50 → (∀ j l' A, p i l = .inr (j, l', A) → i < j ∧ j ≤ N ∧ l < l' ∧ l' ≤ 50) ∧ ∀ e, p i l = .inl e → i ≤ e ∧ e ≤ N
theorem Prg_pJ {α : Type} {op : Int32 → Option (α → α → α)} {c : Nat → Int32} {item : Nat → Nat → PR α} {N : Nat} (hc : ∀ k, N ≤ k → c k = 0) (h0 : op 0 = none) (hp : Prg N item) : ∀ n i l A, i ≤ N → l ≤ 50 → (∀ j l' B, pJ op c item n i l A = .inr (j, l', B) → i ≤ j ∧ j ≤ N ∧ l ≤ l' ∧ l' ≤ 50) ∧ ∀ e, pJ op c item n i l A = .inl e → i ≤ e ∧ e ≤ N := by
  intro n
  induction n with
  | zero => intro i l A hi hl; constructor <;> simp [pJ] <;> omega
  | succ n ih =>
    intro i l A hi hl
    unfold pJ
    have hlt : op (c i) ≠ none → i < N := fun h => Nat.lt_of_not_le (fun q => h (by rw [hc i q]; exact h0))
    cases ho : op (c i) with
    | none => simp only []; constructor <;> simp <;> omega
    | some f =>
      have h1 := hlt (by rw [ho]; simp)
      have h2 := hp (i + 1) l h1 hl
      cases hq : item (i + 1) l with
      | inl e => simp only []; constructor
                 · intro j l' B h; simp at h
                 · intro e' h; have := h2.2 e hq; simp at h; omega
      | inr q =>
        obtain ⟨j, l', B⟩ := q
        have h3 := h2.1 j l' B hq
        have h4 := ih j l' (f A B) (by omega) (by omega)
        simp only []
        constructor
        · intro j2 l2 B2 h; have := h4.1 j2 l2 B2 h; omega
        · intro e h; have := h4.2 e h; omega
theorem Prg_seq {α : Type} {op : Int32 → Option (α → α → α)} {c : Nat → Int32} {item : Nat → Nat → PR α} {N : Nat} (hc : ∀ k, N ≤ k → c k = 0) (h0 : op 0 = none) (hp : Prg N item) : Prg N (pSeq op c item) := by
  intro i l hi hl
  unfold pSeq
  have h2 := hp i l hi hl
  cases hq : item i l with
  | inl e => simp only []; constructor
             · intro j l' B h; simp at h
             · intro e' h; have := h2.2 e hq; simp at h; omega
  | inr q =>
    obtain ⟨j, l', B⟩ := q
    have h3 := h2.1 j l' B hq
    have h4 := Prg_pJ hc h0 hp 401 j l' B (by omega) (by omega)
    simp only []
    constructor
    · intro j2 l2 B2 h; have := h4.1 j2 l2 B2 h; omega
    · intro e h; have := h4.2 e h; omega
def PrgO {α : Type} (N : Nat) (br : Option (Nat → Nat → PR α)) : Prop := ∀ p, br = some p → Prg N p
theorem Prg_br {α : Type} {c : Nat → Int32} {close : Int32} {br : Option (Nat → Nat → PR α)} {N : Nat} (hc : ∀ k, N ≤ k → c k = 0) (h0 : close ≠ 0) (hp : PrgO N br) {i l : Nat} (hi : i < N) (hl : l ≤ 50) : (∀ j l' A, pBr c close br i l = .inr (j, l', A) → i < j ∧ j ≤ N ∧ l < l' ∧ l' ≤ 50) ∧ ∀ e, pBr c close br i l = .inl e → i ≤ e ∧ e ≤ N := by
  unfold pBr
  cases br with
  | none => simp; omega
  | some p =>
    have h2 := hp p rfl (i + 1) l hi hl
    cases hq : p (i + 1) l with
    | inl e => simp only [hq]; constructor
               · intro j l' B h; simp at h
               · intro e' h; have := h2.2 e hq; simp at h; omega
    | inr q =>
      obtain ⟨j, l', B⟩ := q
      have h3 := h2.1 j l' B hq
      simp only [hq]
      by_cases hj : c j = close
      · have : j < N := Nat.lt_of_not_le (fun q => h0 (by rw [← hj]; exact hc j q))
        simp [hj]; omega
      · simp [hj]; omega
theorem lt_of_c {c : Nat → Int32} {N i : Nat} (hc : ∀ k, N ≤ k → c k = 0) (h : c i ≠ 0) : i < N := Nat.lt_of_not_le (fun q => h (hc i q))
theorem Prg_part {o : Bool} {c v : Nat → Int32} {br : Option (Nat → Nat → PR DS)} {N : Nat} (hc : ∀ k, N ≤ k → c k = 0) (hp : PrgO N br) : Prg N (pPart o c v br) := by
  intro i l hi hl
  unfold pPart
  by_cases h : c i = 191
  · have hlt : i < N := lt_of_c hc (by rw [h]; decide)
    rw [if_pos h]; exact Prg_br hc (by decide) hp hlt hl
  · rw [if_neg h]
    have n0 : ∀ k, c k = 50 → k < N := fun k q => lt_of_c hc (by rw [q]; decide)
    have n1 : fw o ≤ c i → i < N := fun q => lt_of_c hc (by intro z; rw [z] at q; revert q; cases o <;> decide)
    unfold pLeaf pNum
    have a1 := n0 i
    have a2 := n0 (i + 1)
    constructor
    · intro j l' A q
      grind
    · intro e q
      grind
theorem Prg_sum {o : Bool} {c v : Nat → Int32} {N : Nat} (hc : ∀ k, N ≤ k → c k = 0) : ∀ d, Prg N (pSum o c v d) := by
  have hs : opS 0 = none := by decide
  have hm : opM 0 = none := by decide
  intro d
  induction d with
  | zero => exact Prg_seq hc hs (Prg_seq hc hm (Prg_part hc (by intro p h; simp at h)))
  | succ d ih => exact Prg_seq hc hs (Prg_seq hc hm (Prg_part hc (by intro p h; simp at h; rw [← h]; exact ih)))
theorem pNots_ge {c : Nat → Int32} {N : Nat} (hc : ∀ k, N ≤ k → c k = 0) : ∀ n i, i ≤ N → i ≤ (pNots c n i).1 ∧ (pNots c n i).1 ≤ N := by
  intro n
  induction n with
  | zero => intro i h; exact ⟨Nat.le_refl _, h⟩
  | succ n ih =>
    intro i h
    unfold pNots
    by_cases h7 : c i = 7
    · have hlt : i < N := lt_of_c hc (by rw [h7]; decide)
      have := ih (i + 1) hlt
      simp only [h7, if_true]; omega
    · simp only [h7, if_false]; omega
theorem Prg_cmp {c : Nat → Int32} {p : Nat → Nat → PR DS} {N : Nat} (hc : ∀ k, N ≤ k → c k = 0) (hp : Prg N p) : Prg N (pCmp c p) := by
  intro i l hi hl
  unfold pCmp
  have h2 := hp i l hi hl
  cases hq : p i l with
  | inl e => simp only []; constructor
             · intro j l' B h; simp at h
             · intro e' h; have := h2.2 e hq; simp at h; omega
  | inr q =>
    obtain ⟨j, l1, A⟩ := q
    have h3 := h2.1 j l1 A hq
    simp only []
    by_cases hj : c j = 160 ∨ c j = 162 ∨ c j = 161
    · have hlt : j < N := lt_of_c hc (by rcases hj with h | h | h <;> rw [h] <;> decide)
      rw [if_pos hj]
      have h4 := hp (j + 1) l1 hlt (by omega)
      cases hq2 : p (j + 1) l1 with
      | inl e => simp only []; constructor
                 · intro j l' B h; simp at h
                 · intro e' h; have := h4.2 e hq2; simp at h; omega
      | inr q2 =>
        obtain ⟨k, l2, B⟩ := q2
        have h5 := h4.1 k l2 B hq2
        simp; omega
    · rw [if_neg hj]; simp; omega
theorem Prg_plain {c : Nat → Int32} {p : Nat → Nat → PR DS} {br : Option (Nat → Nat → PR DB)} {N : Nat} (hc : ∀ k, N ≤ k → c k = 0) (hp : Prg N p) (hb : PrgO N br) : Prg N (pPlain c p br) := by
  intro i l hi hl
  unfold pPlain
  have h1 := pNots_ge hc 401 i hi
  have h2 : (∀ j l' A, pPos c p br (pNots c 401 i).1 l = .inr (j, l', A) → (pNots c 401 i).1 < j ∧ j ≤ N ∧ l < l' ∧ l' ≤ 50) ∧ ∀ e, pPos c p br (pNots c 401 i).1 l = .inl e → (pNots c 401 i).1 ≤ e ∧ e ≤ N := by
    unfold pPos
    by_cases h : c (pNots c 401 i).1 = 140
    · rw [if_pos h]; exact Prg_br hc (by decide) hb (lt_of_c hc (by rw [h]; decide)) hl
    · rw [if_neg h]; exact Prg_cmp hc hp _ l h1.2 hl
  cases hq : pPos c p br (pNots c 401 i).1 l with
  | inl e => simp only []; constructor
             · intro j l' B h; simp at h
             · intro e' h; have := h2.2 e hq; simp at h; omega
  | inr q =>
    obtain ⟨j, l', B⟩ := q
    have h3 := h2.1 j l' B hq
    simp; omega
theorem Prg_test {o : Bool} {c v : Nat → Int32} {N : Nat} (hc : ∀ k, N ≤ k → c k = 0) : ∀ d, Prg N (pTest o c v d) := by
  have hs : opO 0 = none := by decide
  have hm : opA 0 = none := by decide
  intro d
  induction d with
  | zero => exact Prg_seq hc hs (Prg_seq hc hm (Prg_plain hc (Prg_sum hc _) (by intro p h; simp at h)))
  | succ d ih => exact Prg_seq hc hs (Prg_seq hc hm (Prg_plain hc (Prg_sum hc _) (by intro p h; simp at h; rw [← h]; exact ih)))
