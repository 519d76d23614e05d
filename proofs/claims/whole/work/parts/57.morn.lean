/-! ===== mornings: rows of readings, the first of the fewest ===== -/
section MO
variable (n N t0 : Nat) (op : Nat → Nat → Bool) (la : Nat → Nat → Nat) (nd : Nat → Option Nat) (mi th : Nat → Bool)
def hE (U : Nat → Nat) (a : Nat) : Bool := decide (t0 + n < U a)
def okR (k a : Nat) (U : Nat → Nat) : Bool := op k a && (match nd a with
  | none => true
  | some m => decide (t0 + k < U m))
def goalR (U : Nat → Nat) : Bool := (List.range N).all (fun a => (!mi a || hE n t0 U a) && (!th a || !hE n t0 U a))
def upU (U : Nat → Nat) (a v : Nat) : Nat → Nat := fun x => if x = a then v else U x
def cntR (row : List Nat) : Nat := (row.filter (fun a => a != 100)).length
def vR : Nat → Nat → (Nat → Nat) → List (List Nat)
  | 0, _, U => if goalR n N t0 mi th U then [[]] else []
  | m + 1, k, U => ((List.range N).flatMap (fun a => if okR t0 op nd k a U then (vR m (k + 1) (upU U a (t0 + k + la k a))).map (a :: ·) else [])) ++ (vR m (k + 1) U).map (100 :: ·)
/-- a row that is better is kept -/
def upR (used : Nat) (pre : List Nat) (acc : Nat × List Nat) (row : List Nat) : Nat × List Nat := if used + cntR row < acc.1 then (used + cntR row, pre ++ row) else acc
theorem cntR_a {a : Nat} (ha : a ≠ 100) (row : List Nat) : cntR (a :: row) = 1 + cntR row := by
  unfold cntR; rw [List.filter_cons_of_pos (by simpa using ha), List.length_cons]; omega
theorem cntR_100 (row : List Nat) : cntR (100 :: row) = cntR row := by
  unfold cntR; rw [List.filter_cons_of_neg (by simp)]
theorem upR_a {used a : Nat} (ha : a ≠ 100) (pre : List Nat) (acc : Nat × List Nat) (row : List Nat) : upR used pre acc (a :: row) = upR (used + 1) (pre ++ [a]) acc row := by
  unfold upR; rw [cntR_a ha, ← Nat.add_assoc]; simp
theorem upR_100 (used : Nat) (pre : List Nat) (acc : Nat × List Nat) (row : List Nat) : upR used pre acc (100 :: row) = upR used (pre ++ [100]) acc row := by
  unfold upR; rw [cntR_100]; simp
theorem fold_prune {used : Nat} {pre : List Nat} : ∀ (l : List (List Nat)) (acc : Nat × List Nat), (∀ row, row ∈ l → acc.1 ≤ used + cntR row) → l.foldl (upR used pre) acc = acc := by
  intro l
  induction l with
  | nil => intro acc _; rfl
  | cons x l ih =>
    intro acc h
    have : upR used pre acc x = acc := by unfold upR; rw [if_neg (by have := h x (List.mem_cons_self ..); omega)]
    rw [List.foldl_cons, this]
    exact ih acc (fun row hr => h row (List.mem_cons_of_mem _ hr))
theorem fold_map_a {used a : Nat} (ha : a ≠ 100) (pre : List Nat) (l : List (List Nat)) : ∀ acc, (l.map (a :: ·)).foldl (upR used pre) acc = l.foldl (upR (used + 1) (pre ++ [a])) acc := by
  induction l with
  | nil => intro acc; rfl
  | cons x l ih => intro acc; rw [List.map_cons, List.foldl_cons, List.foldl_cons, ih, upR_a ha]
theorem fold_map_100 (used : Nat) (pre : List Nat) (l : List (List Nat)) : ∀ acc, (l.map (100 :: ·)).foldl (upR used pre) acc = l.foldl (upR used (pre ++ [100])) acc := by
  induction l with
  | nil => intro acc; rfl
  | cons x l ih => intro acc; rw [List.map_cons, List.foldl_cons, List.foldl_cons, ih, upR_100]
/-- the acts tried so far -/
def vS (m k : Nat) (U : Nat → Nat) (i : Nat) : List (List Nat) := (List.range i).flatMap (fun a => if okR t0 op nd k a U then (vR n N t0 op la nd mi th m (k + 1) (upU U a (t0 + k + la k a))).map (a :: ·) else [])
theorem vS_succ (m k : Nat) (U : Nat → Nat) (i : Nat) : vS n N t0 op la nd mi th m k U (i + 1) = vS n N t0 op la nd mi th m k U i ++ (if okR t0 op nd k i U then (vR n N t0 op la nd mi th m (k + 1) (upU U i (t0 + k + la k i))).map (i :: ·) else []) := by
  unfold vS; rw [List.range_succ, List.flatMap_append]; simp
theorem vR_S (m k : Nat) (U : Nat → Nat) : vR n N t0 op la nd mi th (m + 1) k U = vS n N t0 op la nd mi th m k U N ++ (vR n N t0 op la nd mi th m (k + 1) U).map (100 :: ·) := rfl
variable (ne : Nat → Bool)
def wrg (U : Nat → Nat) (a : Nat) : Bool := (mi a && !hE n t0 U a) || (th a && hE n t0 U a)
def usf (U : Nat → Nat) (a : Nat) : Bool := wrg n t0 mi th U a || (ne a && !hE n t0 U a)
def uR : Nat → Nat → (Nat → Nat) → List (List Nat)
  | 0, _, U => if goalR n N t0 mi th U then [[]] else []
  | m + 1, k, U => ((List.range N).flatMap (fun a => if usf n t0 mi th ne U a && okR t0 op nd k a U then (uR m (k + 1) (upU U a (t0 + k + la k a))).map (a :: ·) else [])) ++ (uR m (k + 1) U).map (100 :: ·)
def uS (m k : Nat) (U : Nat → Nat) (i : Nat) : List (List Nat) := (List.range i).flatMap (fun a => if usf n t0 mi th ne U a && okR t0 op nd k a U then (uR n N t0 op la nd mi th ne m (k + 1) (upU U a (t0 + k + la k a))).map (a :: ·) else [])
theorem uS_succ (m k : Nat) (U : Nat → Nat) (i : Nat) : uS n N t0 op la nd mi th ne m k U (i + 1) = uS n N t0 op la nd mi th ne m k U i ++ (if usf n t0 mi th ne U i && okR t0 op nd k i U then (uR n N t0 op la nd mi th ne m (k + 1) (upU U i (t0 + k + la k i))).map (i :: ·) else []) := by
  unfold uS; rw [List.range_succ, List.flatMap_append]; simp
theorem uR_S (m k : Nat) (U : Nat → Nat) : uR n N t0 op la nd mi th ne (m + 1) k U = uS n N t0 op la nd mi th ne m k U N ++ (uR n N t0 op la nd mi th ne m (k + 1) U).map (100 :: ·) := rfl
/-- whether all of a row's readings are of use -/
def allU : Nat → (Nat → Nat) → List Nat → Bool
  | _, _, [] => true
  | k, U, a :: row => if a = 100 then allU (k + 1) U row else usf n t0 mi th ne U a && allU (k + 1) (upU U a (t0 + k + la k a)) row
theorem filter_map_cons {p : List Nat → Bool} {q : List Nat → Bool} {a : Nat} (l : List (List Nat)) (h : ∀ row, p (a :: row) = q row) : (l.map (a :: ·)).filter p = (l.filter q).map (a :: ·) := by
  induction l with
  | nil => rfl
  | cons x l ih =>
    rw [List.map_cons, List.filter_cons, List.filter_cons, h, ih]
    cases q x <;> simp
theorem uR_filter (hN : N ≤ 100) : ∀ m k U, uR n N t0 op la nd mi th ne m k U = (vR n N t0 op la nd mi th m k U).filter (allU n t0 la mi th ne k U) := by
  intro m
  induction m with
  | zero =>
    intro k U
    by_cases hg : goalR n N t0 mi th U = true
    · simp [uR, vR, hg]; rfl
    · simp [uR, vR, hg]
  | succ m ih =>
    intro k U
    rw [uR_S, vR_S, List.filter_append]
    congr 1
    · have : ∀ i, i ≤ N → uS n N t0 op la nd mi th ne m k U i = (vS n N t0 op la nd mi th m k U i).filter (allU n t0 la mi th ne k U) := by
        intro i
        induction i with
        | zero => intro _; rfl
        | succ i ihi =>
          intro hi
          rw [uS_succ, vS_succ, List.filter_append, ihi (by omega)]
          congr 1
          by_cases ho : okR t0 op nd k i U = true
          · rw [ho, Bool.and_true, if_pos rfl]
            by_cases hu : usf n t0 mi th ne U i = true
            · rw [if_pos hu, ih, filter_map_cons (q := allU n t0 la mi th ne (k + 1) (upU U i (t0 + k + la k i)))]
              intro row
              rw [allU, if_neg (by omega), hu, Bool.true_and]
            · rw [if_neg hu, filter_map_cons (q := fun _ => false)]
              · simp
              · intro row
                rw [allU, if_neg (by omega)]
                simp at hu
                rw [hu, Bool.false_and]
          · have hf : okR t0 op nd k i U = false := by simpa using ho
            simp [hf]
      exact this N (Nat.le_refl _)
    · rw [ih, filter_map_cons (q := allU n t0 la mi th ne (k + 1) U)]
      intro row
      rw [allU, if_pos rfl]
/-- the first of the fewest: what the fold finds -/
theorem fold_spec {used : Nat} {pre : List Nat} : ∀ (l : List (List Nat)) (acc : Nat × List Nat), (l.foldl (upR used pre) acc = acc ∧ ∀ y, y ∈ l → acc.1 ≤ used + cntR y) ∨ ∃ l1 x l2, l = l1 ++ x :: l2 ∧ l.foldl (upR used pre) acc = (used + cntR x, pre ++ x) ∧ used + cntR x < acc.1 ∧ (∀ y, y ∈ l1 → cntR x < cntR y) ∧ ∀ y, y ∈ l2 → cntR x ≤ cntR y := by
  intro l
  induction l with
  | nil => intro acc; left; exact ⟨rfl, by simp⟩
  | cons z l ih =>
    intro acc
    rw [List.foldl_cons]
    rcases ih (upR used pre acc z) with ⟨h1, h2⟩ | ⟨l1, x, l2, h1, h2, h3, h4, h5⟩
    · by_cases hz : used + cntR z < acc.1
      · have e : upR used pre acc z = (used + cntR z, pre ++ z) := by unfold upR; rw [if_pos hz]
        right
        refine ⟨[], z, l, rfl, by rw [h1, e], hz, by simp, ?_⟩
        intro y hy
        have := h2 y hy
        rw [e] at this
        simp only [] at this
        omega
      · have e : upR used pre acc z = acc := by unfold upR; rw [if_neg hz]
        left
        rw [e] at h1 h2
        rw [e]
        refine ⟨h1, ?_⟩
        intro y hy
        rcases List.mem_cons.1 hy with w | w
        · rw [w]; omega
        · exact h2 y w
    · right
      refine ⟨z :: l1, x, l2, by rw [h1]; rfl, h2, ?_, ?_, h5⟩
      · unfold upR at h3
        split at h3
        · simp only [] at h3; omega
        · exact h3
      · intro y hy
        rcases List.mem_cons.1 hy with w | w
        · rw [w]
          unfold upR at h3
          split at h3
          · simp only [] at h3; omega
          · omega
        · exact h4 y w
theorem fold_filter {used : Nat} {pre : List Nat} {p : List Nat → Bool} (l : List (List Nat)) (acc : Nat × List Nat) (h : ∀ x, x ∈ l → (∀ y, y ∈ l → cntR x ≤ cntR y) → p x = true) : (l.filter p).foldl (upR used pre) acc = l.foldl (upR used pre) acc := by
  rcases fold_spec (used := used) (pre := pre) l acc with ⟨h1, h2⟩ | ⟨l1, x, l2, h1, h2, h3, h4, h5⟩
  · rw [h1, fold_prune]
    intro row hr
    exact h2 row (List.mem_filter.1 hr).1
  · have hx : p x = true := by
      refine h x (by rw [h1]; simp) ?_
      intro y hy
      rw [h1] at hy
      rcases List.mem_append.1 hy with w | w
      · have := h4 y w; omega
      · rcases List.mem_cons.1 w with w | w
        · rw [w]; omega
        · exact h5 y w
    rcases fold_spec (used := used) (pre := pre) (l.filter p) acc with ⟨g1, g2⟩ | ⟨m1, y, m2, g1, g2, g3, g4, g5⟩
    · have := g2 x (List.mem_filter.2 ⟨by rw [h1]; simp, hx⟩)
      omega
    · rw [g2, h2]
      have hf : l.filter p = l1.filter p ++ x :: l2.filter p := by
        rw [h1, List.filter_append, List.filter_cons, if_pos hx]
      have hy : y ∈ l := (List.mem_filter.1 (by rw [g1]; simp : y ∈ l.filter p)).1
      have hxm : x ∈ l.filter p := List.mem_filter.2 ⟨by rw [h1]; simp, hx⟩
      have c1 : cntR x ≤ cntR y := by
        rw [h1] at hy
        rcases List.mem_append.1 hy with w | w
        · have := h4 y w; omega
        · rcases List.mem_cons.1 w with w | w
          · rw [w]; omega
          · exact h5 y w
      have c2 : cntR y ≤ cntR x := by
        rw [g1] at hxm
        rcases List.mem_append.1 hxm with w | w
        · have := g4 x w; omega
        · rcases List.mem_cons.1 w with w | w
          · rw [w]; omega
          · exact g5 x w
      have hc : cntR x = cntR y := by omega
      have : x = y := by
        rw [hf] at g1
        rcases List.append_eq_append_iff.1 g1 with ⟨a', ha1, ha2⟩ | ⟨a', ha1, ha2⟩
        · cases a' with
          | nil => simp at ha2; exact ha2.1
          | cons b a' =>
            exfalso
            simp at ha2
            have hb : x ∈ m1 := by rw [ha1, ← ha2.1]; simp
            have := g4 x hb; omega
        · cases a' with
          | nil => simp at ha2; exact ha2.1.symm
          | cons b a' =>
            exfalso
            simp at ha2
            have hb : y ∈ l1.filter p := by rw [ha1, ← ha2.1]; simp
            have := h4 y (List.mem_filter.1 hb).1; omega
      rw [this]
/-- a row without what is of no use -/
def flt : Nat → (Nat → Nat) → List Nat → List Nat
  | _, _, [] => []
  | k, U, a :: row => if a = 100 then 100 :: flt (k + 1) U row else if usf n t0 mi th ne U a then a :: flt (k + 1) (upU U a (t0 + k + la k a)) row else 100 :: flt (k + 1) U row
theorem flt_cnt (row : List Nat) : ∀ k U, (∀ a, a ∈ row → True) → cntR (flt n t0 la mi th ne k U row) ≤ cntR row ∧ (allU n t0 la mi th ne k U row = false → cntR (flt n t0 la mi th ne k U row) < cntR row) := by
  induction row with
  | nil => intro k U _; simp [flt, allU]
  | cons a row ih =>
    intro k U _
    unfold flt allU
    by_cases h : a = 100
    · rw [if_pos h, if_pos h, cntR_100, h, cntR_100]
      exact ih (k + 1) U (fun _ _ => trivial)
    · rw [if_neg h, if_neg h, cntR_a h]
      by_cases hu : usf n t0 mi th ne U a = true
      · rw [if_pos hu, cntR_a h, hu, Bool.true_and]
        have := ih (k + 1) (upU U a (t0 + k + la k a)) (fun _ _ => trivial)
        exact ⟨by omega, fun h => by have := this.2 h; omega⟩
      · rw [if_neg hu, cntR_100]
        have := ih (k + 1) U (fun _ _ => trivial)
        omega
theorem flt_in (hne : ∀ a m, (mi a || th a || ne a) = true → nd a = some m → ne m = true) (hN : N ≤ 100) (row : List Nat) : ∀ m k Uo Un, k + m = n → (∀ a, a < N → Un a = Uo a ∨ (((mi a = true → hE n t0 Un a = true) ∧ (th a = true → hE n t0 Un a = false) ∧ (ne a = true → hE n t0 Un a = true)) ∨ (mi a || th a || ne a) = false)) → (∀ a b, nd a = some b → b < N) → row ∈ vR n N t0 op la nd mi th m k Uo → flt n t0 la mi th ne k Un row ∈ vR n N t0 op la nd mi th m k Un := by
  induction row with
  | nil =>
    intro m k Uo Un hk hI hnd hr
    cases m with
    | succ m =>
      exfalso
      rw [vR_S] at hr
      unfold vS at hr
      simp at hr
    | zero =>
      unfold flt
      unfold vR at hr ⊢
      split at hr
      · rename_i hg
        rw [if_pos]
        · simp
        · unfold goalR at hg ⊢
          rw [List.all_eq_true] at hg ⊢
          intro a ha
          have h1 := hg a ha
          rw [List.mem_range] at ha
          rcases hI a ha with h | h | h
          · have : hE n t0 Un a = hE n t0 Uo a := by unfold hE; rw [h]
            rw [this]; exact h1
          · obtain ⟨x1, x2, -⟩ := h
            cases hm : mi a <;> cases ht : th a <;> simp_all
          · simp only [Bool.or_eq_false_iff] at h
            simp [h.1.1, h.1.2]
      · simp at hr
  | cons a row ih =>
    intro m k Uo Un hk hI hnd hr
    cases m with
    | zero =>
      exfalso
      unfold vR at hr
      split at hr <;> simp at hr
    | succ m =>
      rw [vR_S] at hr ⊢
      rw [List.mem_append] at hr ⊢
      by_cases h100 : a = 100
      · subst h100
        unfold flt
        rw [if_pos rfl]
        right
        rw [List.mem_map]
        refine ⟨_, ih m (k + 1) Uo Un (by omega) hI hnd ?_, rfl⟩
        rcases hr with w | w
        · exfalso
          unfold vS at w
          simp at w
          obtain ⟨b, hb, w⟩ := w
          have := w.2.2
          omega
        · simp at w; exact w
      · rcases hr with w | w
        · unfold vS at w
          rw [List.mem_flatMap] at w
          obtain ⟨b, hb, w⟩ := w
          rw [List.mem_range] at hb
          split at w
          · rename_i hok
            simp at w
            obtain ⟨w1, w2⟩ := w
            subst w2
            unfold flt
            rw [if_neg h100]
            by_cases hu : usf n t0 mi th ne Un b = true
            · rw [if_pos hu]
              left
              unfold vS
              rw [List.mem_flatMap]
              refine ⟨b, List.mem_range.2 hb, ?_⟩
              have hrel : (mi b || th b || ne b) = true := by
                unfold usf wrg at hu
                cases h1 : mi b <;> cases h2 : th b <;> cases h3 : ne b <;> simp_all
              have hokn : okR t0 op nd k b Un = true := by
                unfold okR at hok ⊢
                cases hnb : nd b with
                | none => rw [hnb] at hok; exact hok
                | some q =>
                  rw [hnb] at hok
                  simp only [Bool.and_eq_true, decide_eq_true_eq] at hok ⊢
                  refine ⟨hok.1, ?_⟩
                  have hq := hnd b q hnb
                  have hneq := hne b q hrel hnb
                  rcases hI q hq with h | h | h
                  · rw [h]; exact hok.2
                  · have := h.2.2 hneq
                    unfold hE at this
                    simp at this
                    omega
                  · rw [hneq] at h; simp at h
              rw [if_pos hokn, List.mem_map]
              refine ⟨_, ih m (k + 1) (upU Uo b (t0 + k + la k b)) (upU Un b (t0 + k + la k b)) (by omega) ?_ hnd w1, rfl⟩
              intro c hc
              by_cases hcb : c = b
              · left; unfold upU; rw [if_pos hcb, if_pos hcb]
              · have e1 : upU Un b (t0 + k + la k b) c = Un c := by unfold upU; rw [if_neg hcb]
                have e2 : upU Uo b (t0 + k + la k b) c = Uo c := by unfold upU; rw [if_neg hcb]
                have e3 : hE n t0 (upU Un b (t0 + k + la k b)) c = hE n t0 Un c := by unfold hE; rw [e1]
                rw [e1, e2, e3]
                exact hI c hc
            · rw [if_neg hu]
              right
              rw [List.mem_map]
              refine ⟨_, ih m (k + 1) (upU Uo b (t0 + k + la k b)) Un (by omega) ?_ hnd w1, rfl⟩
              intro c hc
              by_cases hcb : c = b
              · right
                subst hcb
                unfold usf wrg at hu
                cases h1 : mi c <;> cases h2 : th c <;> cases h3 : ne c <;> cases h4 : hE n t0 Un c <;> simp_all
              · have e2 : upU Uo b (t0 + k + la k b) c = Uo c := by unfold upU; rw [if_neg hcb]
                rw [e2]
                exact hI c hc
          · simp at w
        · exfalso
          simp at w
          exact h100 w.2.symm
/-- only what is of use need be tried -/
theorem fold_useful (hne : ∀ a m, (mi a || th a || ne a) = true → nd a = some m → ne m = true) (hN : N ≤ 100) (hnd : ∀ a b, nd a = some b → b < N) (U : Nat → Nat) {used : Nat} {pre : List Nat} (acc : Nat × List Nat) : (uR n N t0 op la nd mi th ne n 0 U).foldl (upR used pre) acc = (vR n N t0 op la nd mi th n 0 U).foldl (upR used pre) acc := by
  rw [uR_filter n N t0 op la nd mi th ne hN]
  apply fold_filter
  intro x hx hmin
  cases ha : allU n t0 la mi th ne 0 U x with
  | true => rfl
  | false =>
    exfalso
    have h1 := flt_in n N t0 op la nd mi th ne hne hN x n 0 U U (by omega) (fun a _ => Or.inl rfl) hnd hx
    have h2 := (flt_cnt n t0 la mi th ne x 0 U (fun _ _ => trivial)).2 ha
    have h3 := hmin _ h1
    omega
end MO
