/-! ===== base: the words' table, flat data, layouts, worlds, the walk's judgement ===== -/
def TT : List Cond := lw_tbl.filter goodWord
theorem tt_good {w : Cond} (h : w ∈ TT) : (w.onTables && w.keeps) = true ∨ ∃ ty, w = .arrayClass ty := good_of_word (List.mem_filter.mp h).2
theorem tt_in {w : Cond} (i : Nat) (h : tables_1[i]? = some w) (g : goodWord w = true) : w ∈ TT := List.mem_filter.mpr ⟨List.mem_append_right _ (List.mem_of_getElem? h), g⟩
theorem tt_sel {w : Cond} (i : Nat) (h : (k2_sels lw_privs)[i]? = some w) (g : goodWord w = true) : w ∈ TT := List.mem_filter.mpr ⟨List.mem_append_left _ (List.mem_of_getElem? h), g⟩
theorem tt_all {ws : List Cond} (h : ws.all (fun w => decide (w ∈ lw_tbl) && goodWord w) = true) : ∀ w ∈ ws, w ∈ TT := fun w hw => by
  have h1 := List.all_eq_true.mp h w hw
  simp only [Bool.and_eq_true, decide_eq_true_eq] at h1
  exact List.mem_filter.mpr h1
theorem tt_goodIn {c c' : Cond} (h : c' ∈ TT) : GoodIn (c :: TT) (c' :: TT) := fun w hw => by
  rcases List.mem_cons.mp hw with rfl | hw
  · exact ⟨List.mem_cons_of_mem _ h, tt_good h⟩
  · exact ⟨List.mem_cons_of_mem _ hw, tt_good hw⟩
def dkP (cc : ByteArray) (q : Nat × Instr × Nat) : Bool := decide (decode cc q.1 = .ok (q.2.1, q.2.2))
theorem dk_at {cc : ByteArray} {ps : List (Nat × Instr × Nat)} (h : ps.all (dkP cc) = true) (i : Nat) {pc : Nat} {ins : Instr} {n : Nat} (hi : ps[i]? = some (pc, ins, n)) : decode cc pc = .ok (ins, n) := by
  have h1 : dkP cc (pc, ins, n) = true := List.all_eq_true.mp h _ (List.mem_of_getElem? hi)
  unfold dkP at h1
  exact of_decide_eq_true h1
