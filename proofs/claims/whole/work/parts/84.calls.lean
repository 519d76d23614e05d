/-! ===== both asked: small questions ===== -/
section CQ
variable {m x m' x' : DD} {T : TXT} {n : Nat}
theorem p_of {a1 a2 : Int32} (h : INV T m x n) : w_Face_of T x a1 a2 (fun r x' => w_M_of m a1 a2 (fun r' m' => r = r' ∧ INV T m' x' n)) := by
  obtain ⟨K, L, d, hM, hX, h1, h2, h3, h4, h5, h6, h7, h8, h9, h10⟩ := h
  refine s_Xof hX h2 h3 ?_
  intro x' ax hX'
  refine s_Mof hM h1 h3 ?_
  intro m' pm hM'
  exact ⟨rfl, INV.q hX' hM' pm ax h1 h2 h3 h4 h5 h6 h7 h8 h9 h10⟩
theorem p_throat {a1 a2 : Int32} (h : INV T m x n) : w_Face_throat T x a1 a2 (fun r x' => w_M_throat m a1 a2 (fun r' m' => r = r' ∧ INV T m' x' n)) := by
  obtain ⟨K, L, d, hM, hX, h1, h2, h3, h4, h5, h6, h7, h8, h9, h10⟩ := h
  refine s_Xthroat hX h2 h3 ?_
  intro x' ax hX'
  refine s_Mthroat hM h1 h3 ?_
  intro m' pm hM'
  exact ⟨rfl, INV.q hX' hM' pm ax h1 h2 h3 h4 h5 h6 h7 h8 h9 h10⟩
theorem p_asks {a1 a2 a3 : Int32} (h : INV T m x n) : w_Face_asks T x a1 a2 a3 (fun r x' => w_M_asks m a1 a2 a3 (fun r' m' => r = r' ∧ INV T m' x' n)) := by
  obtain ⟨K, L, d, hM, hX, h1, h2, h3, h4, h5, h6, h7, h8, h9, h10⟩ := h
  refine s_Xasks hX h2 h3 ?_
  intro x' ax hX'
  refine s_Masks hM h1 h3 ?_
  intro m' pm hM'
  exact ⟨rfl, INV.q hX' hM' pm ax h1 h2 h3 h4 h5 h6 h7 h8 h9 h10⟩
theorem p_log {a1 a2 : Int32} (h : INV T m x n) : w_Face_log T x a1 a2 (fun r x' => w_M_log m a1 a2 (fun r' m' => r = r' ∧ INV T m' x' n)) := by
  obtain ⟨K, L, d, hM, hX, h1, h2, h3, h4, h5, h6, h7, h8, h9, h10⟩ := h
  refine s_Xlog hX ?_
  intro x' ax hX'
  refine s_Mlog hM ?_
  intro m' pm hM'
  exact ⟨rfl, INV.q hX' hM' pm ax h1 h2 h3 h4 h5 h6 h7 h8 h9 h10⟩
theorem p_held {a1 : Int32} (h : INV T m x n) : w_Face_held T x a1 (fun r x' => w_M_held m a1 (fun r' m' => r = r' ∧ INV T m' x' n)) := by
  obtain ⟨K, L, d, hM, hX, h1, h2, h3, h4, h5, h6, h7, h8, h9, h10⟩ := h
  refine s_Xheld hX ?_
  intro x' ax hX'
  refine s_Mheld hM ?_
  intro m' pm hM'
  exact ⟨rfl, INV.q hX' hM' pm ax h1 h2 h3 h4 h5 h6 h7 h8 h9 h10⟩
theorem p_bound {a1 a2 : Int32} (h : INV T m x n) : w_Face_bound T x a1 a2 (fun r x' => w_M_bound m a1 a2 (fun r' m' => r = r' ∧ INV T m' x' n)) := by
  obtain ⟨K, L, d, hM, hX, h1, h2, h3, h4, h5, h6, h7, h8, h9, h10⟩ := h
  refine s_Xbound hX ?_
  intro x' ax hX'
  refine s_Mbound hM ?_
  intro m' pm hM'
  exact ⟨rfl, INV.q hX' hM' pm ax h1 h2 h3 h4 h5 h6 h7 h8 h9 h10⟩
theorem p_drawn {a1 a2 : Int32} (h : INV T m x n) : w_Face_drawn T x a1 a2 (fun r x' => w_M_drawn m a1 a2 (fun r' m' => r = r' ∧ INV T m' x' n)) := by
  have hh := h
  obtain ⟨K, L, d, -, -, -, -, -, -, -, h6, -⟩ := hh
  obtain ⟨-, -, -, ⟨dm, d1, d2, d3, d4⟩, -, -⟩ := h6
  have out : (inB a1 0 (nI dm - 1) = false ∨ inB a2 0 1 = false) → w_M_drawn m a1 a2 (fun r' m' => (-1 : Int32) = r' ∧ INV T m' x n) := by
    intro e
    unfold w_M_drawn
    rw [d3]
    refine s_lies (br0 (fun _ => ⟨rfl, h⟩) (fun e1 => ?_))
    refine s_lies (br1 (fun e2 => ?_) (fun _ => ⟨rfl, h⟩))
    rw [e1, e2] at e
    rcases e with z | z <;> exact absurd z (by decide)
  have e1 : ¬ a1 < 0 → ¬ nI dm ≤ a1 → inB a1 0 (nI dm - 1) = true := by
    intro q q2
    unfold inB
    exact decide_eq_true ((lt_pred (by omega)).2 ⟨by grind, by grind⟩)
  have f1 : (a1 < 0 ∨ nI dm ≤ a1) → inB a1 0 (nI dm - 1) = false := by
    intro q
    unfold inB
    refine decide_eq_false (fun z => ?_)
    have := (lt_pred (by omega)).1 z
    grind
  unfold w_Face_drawn
  rw [d2]
  refine ⟨fun q => out (Or.inl (f1 (Or.inl q))), fun q => ⟨fun q2 => out (Or.inl (f1 (Or.inr q2))), fun q2 => ⟨fun q3 => out (Or.inr ?_), fun q3 => ⟨fun q4 => ?_, fun q4 => out (Or.inr ?_)⟩⟩⟩⟩
  · unfold inB; exact decide_eq_false (by grind)
  · obtain ⟨a, ha, ea⟩ := nI_ltE (x := a1) (n := dm) ⟨by grind, by grind⟩ (by omega)
    have hin := vp_in_nI (n := a) (N := 8) (by omega) (by decide)
    have e2 : inB a2 0 1 = true := by unfold inB; exact decide_eq_true (by grind)
    have E1 := e1 q q2
    subst ea
    rw [nI_clamp (by omega)]
    refine ⟨fun q5 => ⟨hin, ?_⟩, fun q5 => ⟨hin, ?_⟩⟩
    · unfold w_M_drawn
      rw [d3]
      refine s_lies (br0 (fun z => absurd (E1.symm.trans z) (by decide)) (fun _ => ?_))
      refine s_lies (br1 (fun _ => ?_) (fun z => absurd (e2.symm.trans z) (by decide)))
      rw [nI_clamp (by omega)]
      exact ⟨fun _ => ⟨hin, (d4 a ha).2, h⟩, fun z => absurd z q5⟩
    · unfold w_M_drawn
      rw [d3]
      refine s_lies (br0 (fun z => absurd (E1.symm.trans z) (by decide)) (fun _ => ?_))
      refine s_lies (br1 (fun _ => ?_) (fun z => absurd (e2.symm.trans z) (by decide)))
      rw [nI_clamp (by omega)]
      exact ⟨fun z => absurd q5 z, fun _ => ⟨hin, (d4 a ha).1, h⟩⟩
  · unfold inB; exact decide_eq_false (by grind)
theorem p_count {a1 : Int32} (h : INV T m x n) : w_Face_count T x a1 (fun r x' => w_M_count m a1 (fun r' m' => r = r' ∧ INV T m' x' n)) := by
  have hh := h
  obtain ⟨K, L, d, hM, hX, h1, h2, -, -, -, h6, -⟩ := hh
  obtain ⟨-, ⟨r1, r2, r3, r4, r5⟩, ⟨sz, t1, t2, t3, -⟩, -, -, -⟩ := h6
  obtain ⟨b1, b2, b3, b4, b5, -, -, -, -, b10, -⟩ := hX.1.1
  have hK := hM.1.1
  have v399 : gI x 200 0 = gI m 4 399 := b1.trans (hK 399 (by unfold dyn; omega)).symm
  have v400 : gI x 200 3 = gI m 4 400 := b2.trans (hK 400 (by unfold dyn; omega)).symm
  have v402 : gI x 200 12 = gI m 4 402 := b3.trans (hK 402 (by unfold dyn; omega)).symm
  have v403 : gI x 200 17 = gI m 4 403 := b4.trans (hK 403 (by unfold dyn; omega)).symm
  have v404 : gI x 200 19 = gI m 4 404 := b5.trans (hK 404 (by unfold dyn; omega)).symm
  have v401 : gI x 200 8 = gI m 4 401 := hX.2.1.len.trans hM.2.2.1.1.symm
  have v13 : gI x 20 1 = gI m 0 13 := t2.trans t3.symm
  have u0 : gI x 208 0 = gI m 4 395 := h2.trans h1.symm
  have u1 : gI x 208 1 = gI m 4 396 := b10.1.trans (hK 396 (by unfold dyn; omega)).symm
  have u2 : gI x 208 2 = gI m 4 397 := b10.2.1.trans (hK 397 (by unfold dyn; omega)).symm
  have u3 : gI x 208 3 = gI m 4 398 := b10.2.2.trans (hK 398 (by unfold dyn; omega)).symm
  have lit : ∀ j N : Nat, j < N → N < 2 ^ 31 → vp_in (nI j) N := fun j N a b => vp_in_nI a b
  by_cases c : 0 ≤ a1 ∧ a1 ≤ 15
  · obtain ⟨j, hj, ej⟩ := inB_z (x := a1) (hi := 15) (by unfold inB; exact decide_eq_true c) (by decide)
    subst ej
    have hj16 : j = 0 ∨ j = 1 ∨ j = 2 ∨ j = 3 ∨ j = 4 ∨ j = 5 ∨ j = 6 ∨ j = 7 ∨ j = 8 ∨ j = 9 ∨ j = 10 ∨ j = 11 ∨ j = 12 ∨ j = 13 ∨ j = 14 ∨ j = 15 := by omega
    unfold w_Face_count w_Face_count_j120 w_Face_count_j142 w_M_count w_M_count_j130 w_M_count_j163
    rcases hj16 with z | z | z | z | z | z | z | z | z | z | z | z | z | z | z | z <;> subst z
    · refine ⟨fun _ => ⟨fun _ => ⟨v399, h⟩, fun q => absurd rfl q⟩, fun q => absurd rfl q⟩
    all_goals simp (config := { decide := true }) only [not_true, false_implies, true_implies, and_true, true_and, not_false_eq_true]
    all_goals first
      | exact ⟨lit 0 5 (by decide) (by decide), lit 1 7 (by decide) (by decide), r1, h⟩
      | exact ⟨lit 1 5 (by decide) (by decide), lit 2 7 (by decide) (by decide), r2, h⟩
      | exact ⟨lit 2 5 (by decide) (by decide), lit 3 7 (by decide) (by decide), r3, h⟩
      | exact ⟨lit 3 5 (by decide) (by decide), r4, h⟩
      | exact ⟨lit 4 5 (by decide) (by decide), r5, h⟩
      | exact ⟨v404, h⟩
      | exact ⟨v400, h⟩
      | exact ⟨v401, h⟩
      | exact ⟨v402, h⟩
      | exact ⟨v403, h⟩
      | exact ⟨v13, h⟩
      | exact ⟨lit 0 4 (by decide) (by decide), lit 395 6012 (by decide) (by decide), u0, h⟩
      | exact ⟨lit 1 4 (by decide) (by decide), lit 396 6012 (by decide) (by decide), u1, h⟩
      | exact ⟨lit 2 4 (by decide) (by decide), lit 397 6012 (by decide) (by decide), u2, h⟩
      | exact ⟨lit 3 4 (by decide) (by decide), lit 398 6012 (by decide) (by decide), u3, h⟩
  · have hne : ∀ j : Nat, j < 16 → ¬ a1 = nI j := by
      intro j hj e
      refine c ?_
      rw [e, show (0 : Int32) = nI 0 from rfl, show (15 : Int32) = nI 15 from rfl, nI_leI (by decide) (by omega), nI_leI (by omega) (by decide)]
      omega
    have e0 : ¬ a1 = 0 := hne 0 (by decide)
    have e1 : ¬ a1 = 1 := hne 1 (by decide)
    have e2 : ¬ a1 = 2 := hne 2 (by decide)
    have e3 : ¬ a1 = 3 := hne 3 (by decide)
    have e4 : ¬ a1 = 4 := hne 4 (by decide)
    have e5 : ¬ a1 = 5 := hne 5 (by decide)
    have e6 : ¬ a1 = 6 := hne 6 (by decide)
    have e7 : ¬ a1 = 7 := hne 7 (by decide)
    have e8 : ¬ a1 = 8 := hne 8 (by decide)
    have e9 : ¬ a1 = 9 := hne 9 (by decide)
    have e10 : ¬ a1 = 10 := hne 10 (by decide)
    have e11 : ¬ a1 = 11 := hne 11 (by decide)
    have e12 : ¬ a1 = 12 := hne 12 (by decide)
    have e13 : ¬ a1 = 13 := hne 13 (by decide)
    have e14 : ¬ a1 = 14 := hne 14 (by decide)
    have e15 : ¬ a1 = 15 := hne 15 (by decide)
    have mm : w_M_count m a1 (fun r' m' => (-1 : Int32) = r' ∧ INV T m' x n) := by
      unfold w_M_count
      simp only [e0, e1, e2, e3, e4, e5, e6, e7, e8, e9, e10, e11, e12, e13, e14, e15, false_implies, true_implies, true_and, not_false_eq_true]
      exact h
    unfold w_Face_count w_Face_count_j120 w_Face_count_j142
    simp only [e0, e1, e2, e3, e4, e5, e6, e7, e8, e9, e10, e11, false_implies, true_implies, true_and, not_false_eq_true]
    refine ⟨fun q => ⟨fun _ => mm, fun q2 => ⟨fun _ => mm, fun q3 => ?_⟩⟩, fun q => ⟨fun q2 => ⟨fun _ => mm, fun q3 => ⟨fun _ => mm, fun q4 => ?_⟩⟩, fun q2 => ?_⟩⟩
    · exact absurd (show 0 ≤ a1 ∧ a1 ≤ 15 by grind) c
    · exact absurd (show 0 ≤ a1 ∧ a1 ≤ 15 by grind) c
    · exact absurd (show 0 ≤ a1 ∧ a1 ≤ 15 by grind) c
end CQ
