/-! ===== what the Statement gives: classes, rows' classes, tables, strings ===== -/
theorem kk_start {args : Array Value} {s : State} (h0 : ∀ w ∈ lw_tbl, w.before args s = true) : ∃ (G : va_G) (ca : Nat → ClassId), va_K G cls12 [(ca 0, .int), (ca 1, .byte), (ca 2, .boolean), (ca 3, .long), (ca 4, .object "FadingActs$Text"), (ca 5, .object "FadingActs$Realm")] s := by
  have ht : ∀ {w : Cond} (i : Nat), tables_1[i]? = some w → w.before args s = true := fun i hi => h0 _ (List.mem_append_right _ (List.mem_of_getElem? hi))
  have hT : ∀ w ∈ TT, w.before args s = true := fun w hw => h0 w (List.mem_filter.mp hw).1
  have h : ∀ k : Nat, ∃ d : ClassId × (Nat → Nat), ∀ q : vw_C, cls12[k]? = some q → u_Kn s q.1 q.2.1 q.2.2 d.1 d.2 := by
    intro k
    match k with
    | 0 => obtain ⟨p, q, h⟩ := u_known (C := RX0) (T := TX0) (N := 6) (n := 6) hT tin0 (ht 215 (by decide +kernel)); exact ⟨(p, q), fun q hq => by cases hq; exact h⟩
    | 1 => obtain ⟨p, q, h⟩ := u_known (C := RX1) (T := TX1) (N := 14) (n := 14) hT tin1 (ht 270 (by decide +kernel)); exact ⟨(p, q), fun q hq => by cases hq; exact h⟩
    | 2 => obtain ⟨p, q, h⟩ := u_known (C := RX2) (T := TX2) (N := 7) (n := 7) hT tin2 (ht 241 (by decide +kernel)); exact ⟨(p, q), fun q hq => by cases hq; exact h⟩
    | 3 => obtain ⟨p, q, h⟩ := u_known (C := RX3) (T := TX3) (N := 5) (n := 5) hT tin3 (ht 350 (by decide +kernel)); exact ⟨(p, q), fun q hq => by cases hq; exact h⟩
    | 4 => obtain ⟨p, q, h⟩ := u_known (C := RX4) (T := TX4) (N := 9) (n := 9) hT tin4 (ht 180 (by decide +kernel)); exact ⟨(p, q), fun q hq => by cases hq; exact h⟩
    | 5 => obtain ⟨p, q, h⟩ := u_known (C := RX5) (T := TX5) (N := 20) (n := 20) hT tin5 (ht 30 (by decide +kernel)); exact ⟨(p, q), fun q hq => by cases hq; exact h⟩
    | 6 => obtain ⟨p, q, h⟩ := u_known (C := RX6) (T := TX6) (N := 7) (n := 7) hT tin6 (ht 321 (by decide +kernel)); exact ⟨(p, q), fun q hq => by cases hq; exact h⟩
    | 7 => obtain ⟨p, q, h⟩ := u_known (C := RX7) (T := TX7) (N := 5) (n := 5) hT tin7 (ht 155 (by decide +kernel)); exact ⟨(p, q), fun q hq => by cases hq; exact h⟩
    | 8 => obtain ⟨p, q, h⟩ := u_known (C := RX8) (T := TX8) (N := 4) (n := 4) hT tin8 (ht 797 (by decide +kernel)); exact ⟨(p, q), fun q hq => by cases hq; exact h⟩
    | 9 => obtain ⟨p, q, h⟩ := u_known (C := RX9) (T := TX9) (N := 6) (n := 6) hT tin9 (ht 373 (by decide +kernel)); exact ⟨(p, q), fun q hq => by cases hq; exact h⟩
    | 10 => obtain ⟨p, q, h⟩ := u_known (C := RX10) (T := TX10) (N := 13) (n := 13) hT tin10 (ht 22 (by decide +kernel)); exact ⟨(p, q), fun q hq => by cases hq; exact h⟩
    | 11 => obtain ⟨p, q, h⟩ := u_known (C := RX11) (T := TX11) (N := 57) (n := 57) hT tin11 (ht 1174 (by decide +kernel)); exact ⟨(p, q), fun q hq => by cases hq; exact h⟩
    | k + 12 => exact ⟨(0, fun _ => 0), fun q hq => by simp [cls12] at hq⟩
  obtain ⟨f, hf⟩ := Classical.axiomOfChoice h
  have prim : ∀ {ty : FieldType}, (Cond.arrayClass ty).before args s = true → ∃ cA, ArrOfT s cA ty ∧ s.vm.findClass ("[" ++ ty.toString) = some cA := by
    intro ty hw
    obtain ⟨cA, kA, comp, h1, h2, h3⟩ := Cond.arrayClass_spec hw
    exact ⟨cA, fun n z => ⟨fun k h => (by cases h), kA, h2, comp, h3⟩, h1⟩
  have obj : ∀ {C : String}, (Cond.arrayOver (.object C)).before args s = true → ∃ cA, ArrOfT s cA (.object C) ∧ va_RA s cA (.object C) := by
    intro C hw
    obtain ⟨comp, cA, kA, h1, h2, h3, h4, h5⟩ := Cond.arrayOver_spec hw
    exact ⟨cA, fun n z => ⟨fun k h => (by cases h), kA, h3, comp, h4⟩, kA, comp, h3, h4, h1, h5⟩
  obtain ⟨c0, a0, b0⟩ := prim (ty := .int) (ht 152 (by decide +kernel))
  obtain ⟨c1, a1, b1⟩ := prim (ty := .byte) (ht 818 (by decide +kernel))
  obtain ⟨c2, a2, b2⟩ := prim (ty := .boolean) (ht 371 (by decide +kernel))
  obtain ⟨c3, a3, b3⟩ := prim (ty := .long) (ht 239 (by decide +kernel))
  obtain ⟨c4, a4, b4⟩ := obj (C := "FadingActs$Text") (ht 36 (by decide +kernel))
  obtain ⟨c5, a5, b5⟩ := obj (C := "FadingActs$Realm") (ht 153 (by decide +kernel))
  refine ⟨(fun k => (f k).1, fun k => (f k).2), fun k => match k with | 0 => c0 | 1 => c1 | 2 => c2 | 3 => c3 | 4 => c4 | _ => c5, fun k q hq => hf k q hq, fun k q hq => ?_⟩
  match k, hq with
  | 0, hq => cases hq; exact ⟨a0, b0⟩
  | 1, hq => cases hq; exact ⟨a1, b1⟩
  | 2, hq => cases hq; exact ⟨a2, b2⟩
  | 3, hq => cases hq; exact ⟨a3, b3⟩
  | 4, hq => cases hq; exact ⟨a4, b4⟩
  | 5, hq => cases hq; exact ⟨a5, b5⟩
  | k + 6, hq => simp at hq
def tmS (i : Nat) : Term := Term.string "FadingActs$Parser" (strIx i)
theorem ex_start {args : Array Value} {s : State} (h0 : ∀ w ∈ lw_tbl, w.before args s = true) (hgv : (Jvm.Cond.and given_1 narrow_1).before args s = true) : ∃ z : EXa, EX (fun q => s.heap.size ≤ q) z s s.heap ∧ EZ s := by
  have ht : ∀ {w : Cond} (i : Nat), tables_1[i]? = some w → w.before args s = true := fun i hi => h0 _ (List.mem_append_right _ (List.mem_of_getElem? hi))
  have hs := flat_of_before _ hgv
  have hA : ∀ a : Nat, a < s.heap.size → ¬ (fun q => s.heap.size ≤ q) a := fun a h1 h2 => absurd h1 (Nat.not_lt.mpr h2)
  obtain ⟨adK, adV, hS, hSr⟩ := vk_Sof (args := args) (s := s) (N := 10) (tm := tmS) (len := strLen) (byt := strByt) (A := fun q => s.heap.size ≤ q)
    (by decide +kernel)
    (fun i hi => hs _ ((by decide +kernel : ∀ i : Nat, i < 10 → Cond.exactly (tmS i) "java/lang/String" ∈ flatC (Jvm.Cond.and given_1 narrow_1)) i hi))
    (fun i hi => hs _ ((by decide +kernel : ∀ i : Nat, i < 10 → Cond.eq (.field (tmS i) "java/lang/String" "coder" "B") (.int 0) ∈ flatC (Jvm.Cond.and given_1 narrow_1)) i hi))
    (fun i hi => hs _ ((by decide +kernel : ∀ i : Nat, i < 10 → Cond.arrayOf (.field (tmS i) "java/lang/String" "value" "[B") .byte ∈ flatC (Jvm.Cond.and given_1 narrow_1)) i hi))
    (fun i hi => hs _ ((by decide +kernel : ∀ i : Nat, i < 10 → Cond.eq (.length (.field (tmS i) "java/lang/String" "value" "[B")) (.int (Int32.ofNat (strLen.getD i 0))) ∈ flatC (Jvm.Cond.and given_1 narrow_1)) i hi))
    (fun i hi j hj => hs _ ((by decide +kernel : ∀ i : Nat, i < 10 → ∀ j : Nat, j < strLen.getD i 0 → Cond.eq (.elem (.field (tmS i) "java/lang/String" "value" "[B") (.int (Int32.ofNat j))) (.int ((strByt.getD i []).getD j 0)) ∈ flatC (Jvm.Cond.and given_1 narrow_1)) i hi j hj))
    (fun i j hi hj hij => by
      rcases (by decide +kernel : ∀ i : Nat, i < 10 → ∀ j : Nat, j < 10 → i ≠ j → (Cond.not (Cond.eq (tmS i) (tmS j)) ∈ flatC (Jvm.Cond.and given_1 narrow_1) ∨ Cond.not (Cond.eq (tmS j) (tmS i)) ∈ flatC (Jvm.Cond.and given_1 narrow_1))) i hi j hj hij with h | h
      · exact Or.inl (hs _ h)
      · exact Or.inr (hs _ h))
    hA
  have tab : ∀ n : Nat, ∃ t : Nat, n < 4 → va_Z "FadingActs$Realm" (tabNm n) "[I" (.ref t) (fun q => s.heap.size ≤ q) s s.heap ∧ va_T .int t (tabN n) (fun j => .int (tabV n j)) (fun q => s.heap.size ≤ q) s s.heap := by
    intro n
    by_cases hn : n < 4
    · obtain ⟨t, e1, e2⟩ := va_Tof (args := args) (s := s) (tm := .static "FadingActs$Realm" (tabNm n) "[I") (ty := .int) (N := tabN n) (f := fun j => .int (tabV n j)) (A := fun q => s.heap.size ≤ q) ((by decide : ∀ n, n < 4 → tabN n < 2 ^ 31) n hn)
        (hs _ ((by decide +kernel : ∀ n : Nat, n < 4 → Cond.arrayOf (.static "FadingActs$Realm" (tabNm n) "[I") .int ∈ flatC (Jvm.Cond.and given_1 narrow_1)) n hn))
        (va_eqt (hs _ ((by decide +kernel : ∀ n : Nat, n < 4 → Cond.eq (.length (.static "FadingActs$Realm" (tabNm n) "[I")) (.int (Int32.ofNat (tabN n))) ∈ flatC (Jvm.Cond.and given_1 narrow_1)) n hn)))
        (fun j hj => va_eqt (hs _ ((by decide +kernel : ∀ n : Nat, n < 4 → ∀ j : Nat, j < tabN n → Cond.eq (.elem (.static "FadingActs$Realm" (tabNm n) "[I") (.int (Int32.ofNat j))) (.int (tabV n j)) ∈ flatC (Jvm.Cond.and given_1 narrow_1)) n hn j hj))) hA
      have hl : (Cond.laysStatic "FadingActs$Realm" (tabNm n) "[I").before args s = true := by
        rcases (show n = 0 ∨ n = 1 ∨ n = 2 ∨ n = 3 by omega) with e | e | e | e <;> subst e
        · exact ht 451 (by decide +kernel)
        · exact ht 453 (by decide +kernel)
        · exact ht 573 (by decide +kernel)
        · exact ht 575 (by decide +kernel)
      exact ⟨t, fun _ => ⟨va_Zref hl (h0 (.initialized "FadingActs$Realm") (by decide +kernel)) e1 hA, e2⟩⟩
    · exact ⟨0, fun q => absurd q hn⟩
  obtain ⟨tb, htb⟩ := Classical.axiomOfChoice tab
  refine ⟨(tb, adK, adV), ⟨fun n hn => htb n hn, ?_, ?_, hS, fun i hi => ?_, ?_⟩, ?_, ?_, ?_⟩
  · exact va_Zof (ht 649 (by decide +kernel)) (h0 (.initialized "java/lang/String") (by decide +kernel)) (va_eqt (hs (.eq (.static "java/lang/String" "COMPACT_STRINGS" "Z") (.int 1)) (by decide +kernel))) hA
  · exact va_Zqof (ht 665 (by decide +kernel)) (h0 (.initialized "jdk/internal/util/Preconditions") (by decide +kernel)) (hs (.isRef (.static "jdk/internal/util/Preconditions" "SIOOBE_FORMATTER" "Ljava/util/function/BiFunction;")) (by decide +kernel)) hA
  · refine vk_R.of (A := args) (h0 _ (List.mem_append_right _ ((by decide +kernel : ∀ i : Nat, i < 10 → Cond.stringRef "FadingActs$Parser" (strIx i) (strTx i) ∈ tables_1) i hi))) (hSr i hi)
  · exact va_Nw.of rfl (A := args) (ht 790 (by decide +kernel))
  · exact va_AO.of (ht 36 (by decide +kernel))
  · exact va_AO.of (ht 153 (by decide +kernel))
  · exact va_Nw.of rfl (A := args) (ht 156 (by decide +kernel))
