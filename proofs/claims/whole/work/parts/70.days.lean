/-! ===== the fewest days ===== -/
section DA
variable (cf : Nat → Nat → Bool)
def okD (pre : List Nat) (d : Nat) : Bool := (List.range pre.length).all (fun o => !(decide (pre.getD o 0 = d) && cf o pre.length))
def ptR (w : Nat → Nat) : Nat → List Nat → Option (List Nat)
  | 0, pre => some pre
  | m + 1, pre => (List.range (w pre.length)).findSome? (fun d => if okD cf pre d then ptR w m (pre ++ [d]) else none)
/-- it can be gone on with -/
def exD (n m : Nat) (pre : List Nat) : Prop := ∃ f : Nat → Nat, (∀ i, i < pre.length → f i = pre.getD i 0) ∧ ∀ j, pre.length ≤ j → j < pre.length + m → f j < n ∧ ∀ i, i < j → ¬ (f i = f j ∧ cf i j = true)
theorem getD_snoc (pre : List Nat) (d i : Nat) : (pre ++ [d]).getD i 0 = if i < pre.length then pre.getD i 0 else if i = pre.length then d else 0 := by
  rw [List.getD_eq_getElem?_getD, List.getD_eq_getElem?_getD]
  by_cases h : i < pre.length
  · rw [if_pos h, List.getElem?_append_left h]
  · rw [if_neg h, List.getElem?_append_right (by omega)]
    by_cases h2 : i = pre.length
    · rw [if_pos h2, h2, Nat.sub_self]; rfl
    · rw [if_neg h2, List.getElem?_eq_none (by simp; omega)]; rfl
theorem okD_iff (pre : List Nat) (d : Nat) : okD cf pre d = true ↔ ∀ i, i < pre.length → ¬ (pre.getD i 0 = d ∧ cf i pre.length = true) := by
  unfold okD
  rw [List.all_eq_true]
  constructor
  · intro h i hi hh
    have := h i (List.mem_range.2 hi)
    rw [hh.1, hh.2] at this
    simp at this
  · intro h i hi
    have := h i (List.mem_range.1 hi)
    by_cases h1 : pre.getD i 0 = d
    · have : cf i pre.length = false := by
        cases hc : cf i pre.length with
        | false => rfl
        | true => exact absurd ⟨h1, hc⟩ this
      rw [this, Bool.and_false]; rfl
    · rw [decide_eq_false h1]; rfl
theorem ex_step (n m : Nat) (pre : List Nat) : exD cf n (m + 1) pre ↔ ∃ d, d < n ∧ okD cf pre d = true ∧ exD cf n m (pre ++ [d]) := by
  constructor
  · rintro ⟨f, h1, h2⟩
    have hk := h2 pre.length (Nat.le_refl _) (by omega)
    refine ⟨f pre.length, hk.1, ?_, f, ?_, ?_⟩
    · rw [okD_iff]
      intro i hi hh
      exact hk.2 i hi ⟨by rw [h1 i hi]; exact hh.1, hh.2⟩
    · intro i hi
      rw [getD_snoc]
      rw [List.length_append] at hi
      simp at hi
      by_cases h : i < pre.length
      · rw [if_pos h]; exact h1 i h
      · rw [if_neg h, if_pos (by omega)]; congr 1; omega
    · intro j hj1 hj2
      rw [List.length_append] at hj1 hj2
      simp at hj1 hj2
      exact h2 j (by omega) (by omega)
  · rintro ⟨d, hd, hok, f, h1, h2⟩
    rw [List.length_append] at h1 h2
    simp only [List.length_cons, List.length_nil] at h1 h2
    have hfk : f pre.length = d := by
      have := h1 pre.length (by omega)
      rw [this, getD_snoc, if_neg (by omega), if_pos rfl]
    have hpre : ∀ i, i < pre.length → f i = pre.getD i 0 := by
      intro i hi
      have := h1 i (by omega)
      rw [this, getD_snoc, if_pos hi]
    refine ⟨f, hpre, ?_⟩
    intro j hj1 hj2
    by_cases hjk : j = pre.length
    · subst hjk
      rw [hfk]
      refine ⟨hd, ?_⟩
      intro i hi hh
      rw [okD_iff] at hok
      exact hok i hi ⟨by rw [← hpre i hi]; exact hh.1, hh.2⟩
    · exact h2 j (by omega) (by omega)
theorem pt_ex (n : Nat) : ∀ m pre, ptR cf (fun _ => n) m pre ≠ none ↔ exD cf n m pre := by
  intro m
  induction m with
  | zero =>
    intro pre
    refine ⟨fun _ => ⟨fun i => pre.getD i 0, fun _ _ => rfl, by intro j h1 h2; omega⟩, fun _ => by simp [ptR]⟩
  | succ m ih =>
    intro pre
    rw [ex_step, ptR]
    constructor
    · intro h
      cases hf : (List.range n).findSome? (fun d => if okD cf pre d then ptR cf (fun _ => n) m (pre ++ [d]) else none) with
      | none => exact absurd hf h
      | some r =>
        obtain ⟨d, hd, hr⟩ := List.exists_of_findSome?_eq_some hf
        by_cases hok : okD cf pre d = true
        · rw [if_pos hok] at hr
          exact ⟨d, List.mem_range.1 hd, hok, (ih _).1 (by rw [hr]; simp)⟩
        · rw [if_neg hok] at hr; simp at hr
    · rintro ⟨d, hd, hok, he⟩ hn
      rw [List.findSome?_eq_none_iff] at hn
      have := hn d (List.mem_range.2 hd)
      rw [if_pos hok] at this
      exact (ih _).2 he this
def swp (a b x : Nat) : Nat := if x = a then b else if x = b then a else x
theorem swp_inj {a b x y : Nat} (h : swp a b x = swp a b y) : x = y := by
  unfold swp at h
  split at h <;> split at h <;> (try split at h) <;> (try split at h) <;> omega
theorem swp_lt {a b x n : Nat} (ha : a < n) (hb : b < n) (hx : x < n) : swp a b x < n := by
  unfold swp; split
  · exact hb
  · split
    · exact ha
    · exact hx
theorem ex_swap {n m a b : Nat} {pre : List Nat} (ha : a < n) (hb : b < n) (h1 : ∀ i, i < pre.length → pre.getD i 0 ≠ a ∧ pre.getD i 0 ≠ b) (h : exD cf n m (pre ++ [a])) : exD cf n m (pre ++ [b]) := by
  obtain ⟨f, g1, g2⟩ := h
  refine ⟨fun i => swp a b (f i), ?_, ?_⟩
  · intro i hi
    rw [List.length_append] at hi
    simp at hi
    have := g1 i (by rw [List.length_append]; simp; omega)
    simp only []
    rw [this, getD_snoc, getD_snoc]
    by_cases hl : i < pre.length
    · rw [if_pos hl, if_pos hl]
      have := h1 i hl
      unfold swp
      rw [if_neg this.1, if_neg this.2]
    · rw [if_neg hl, if_neg hl, if_pos (by omega), if_pos (by omega)]
      unfold swp; rw [if_pos rfl]
  · intro j hj1 hj2
    rw [List.length_append] at hj1 hj2
    simp only [List.length_cons, List.length_nil] at hj1 hj2
    have := g2 j (by rw [List.length_append]; exact hj1) (by rw [List.length_append]; exact hj2)
    refine ⟨swp_lt ha hb this.1, ?_⟩
    intro i hi hh
    exact this.2 i hi ⟨swp_inj hh.1, hh.2⟩
theorem findSome_append {α β : Type} (f : α → Option β) (l1 l2 : List α) : (l1 ++ l2).findSome? f = (l1.findSome? f).or (l2.findSome? f) := List.findSome?_append
/-- days beyond the acts before are never wanted -/
theorem pt_eq (n : Nat) : ∀ m pre, (∀ i, i < pre.length → pre.getD i 0 ≤ i) → ptR cf (fun _ => n) m pre = ptR cf (fun k => min n (k + 1)) m pre := by
  intro m
  induction m with
  | zero => intro pre _; rfl
  | succ m ih =>
    intro pre hpre
    rw [ptR, ptR]
    have hcan : ∀ d, d ≤ pre.length → ∀ i, i < (pre ++ [d]).length → (pre ++ [d]).getD i 0 ≤ i := by
      intro d hd i hi
      rw [List.length_append] at hi
      simp at hi
      rw [getD_snoc]
      by_cases hl : i < pre.length
      · rw [if_pos hl]; exact hpre i hl
      · rw [if_neg hl, if_pos (by omega)]; omega
    have same : ∀ i, i ≤ pre.length + 1 → (List.range i).findSome? (fun d => if okD cf pre d then ptR cf (fun _ => n) m (pre ++ [d]) else none) = (List.range i).findSome? (fun d => if okD cf pre d then ptR cf (fun k => min n (k + 1)) m (pre ++ [d]) else none) := by
      intro i
      induction i with
      | zero => intro _; rfl
      | succ i ihi =>
        intro hi
        rw [List.range_succ, findSome_append, findSome_append, ihi (by omega)]
        congr 1
        simp only [List.findSome?_cons, List.findSome?_nil]
        rw [ih (pre ++ [i]) (hcan i (by omega))]
    by_cases hn : n ≤ pre.length + 1
    · rw [Nat.min_eq_left hn]; exact same n hn
    · rw [Nat.min_eq_right (by omega)]
      rw [← same (pre.length + 1) (Nat.le_refl _)]
      have hsplit : List.range n = List.range (pre.length + 1) ++ (List.range (n - (pre.length + 1))).map (pre.length + 1 + ·) := by
        rw [← List.range_add]; congr 1; omega
      rw [hsplit, findSome_append]
      cases hf : (List.range (pre.length + 1)).findSome? (fun d => if okD cf pre d then ptR cf (fun _ => n) m (pre ++ [d]) else none) with
      | some r => rfl
      | none =>
        rw [Option.none_or, List.findSome?_eq_none_iff]
        intro d hd
        rw [List.mem_map] at hd
        obtain ⟨e, he, hde⟩ := hd
        rw [List.mem_range] at he
        rw [List.findSome?_eq_none_iff] at hf
        have hk := hf pre.length (List.mem_range.2 (by omega))
        have hokk : okD cf pre pre.length = true := by
          rw [okD_iff]
          intro i hi hh
          have := hpre i hi
          omega
        rw [if_pos hokk] at hk
        by_cases hok : okD cf pre d = true
        · rw [if_pos hok]
          cases hp : ptR cf (fun _ => n) m (pre ++ [d]) with
          | none => rfl
          | some r =>
            exfalso
            have he1 : exD cf n m (pre ++ [d]) := (pt_ex cf n m _).1 (by rw [hp]; simp)
            have he2 := ex_swap cf (a := d) (b := pre.length) (by omega) (by omega) (fun i hi => by have := hpre i hi; omega) he1
            exact (pt_ex cf n m _).2 he2 hk
        · rw [if_neg hok]
theorem pt_full (t : Nat) : ptR cf (fun _ => t) t [] ≠ none := by
  rw [pt_ex]
  refine ⟨fun i => i, by intro i hi; simp at hi, ?_⟩
  intro j _ hj
  simp at hj
  exact ⟨hj, fun i hi hh => by have h3 : i = j := hh.1; omega⟩
theorem pt_len (w : Nat → Nat) (hw : ∀ k, w k ≤ 8) : ∀ m pre r, (∀ x, x ∈ pre → x < 8) → ptR cf w m pre = some r → r.length = pre.length + m ∧ ∀ x, x ∈ r → x < 8 := by
  intro m
  induction m with
  | zero => intro pre r hp h; simp [ptR] at h; subst h; exact ⟨rfl, hp⟩
  | succ m ih =>
    intro pre r hp h
    rw [ptR] at h
    obtain ⟨d, hd, hr⟩ := List.exists_of_findSome?_eq_some h
    by_cases hok : okD cf pre d = true
    · rw [if_pos hok] at hr
      have hdl : d < 8 := Nat.lt_of_lt_of_le (List.mem_range.1 hd) (hw _)
      have := ih (pre ++ [d]) r (by intro x hx; rcases List.mem_append.1 hx with w | w; exact hp x w; simp at w; omega) hr
      rw [List.length_append] at this
      simp at this
      exact ⟨by omega, this.2⟩
    · rw [if_neg hok] at hr; simp at hr
/-- the fewest days, and the first row of them -/
def dsR (t : Nat) : Nat → Nat → Nat × List Nat
  | 0, n => (n, (ptR cf (fun _ => n) t []).getD [])
  | f + 1, n => match ptR cf (fun _ => n) t [] with
    | some r => (n, r)
    | none => dsR t f (n + 1)
end DA
