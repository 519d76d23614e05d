/-! ===== rows of what makes ===== -/
/-- from which cell on all is ours; what else stands, below it -/
abbrev BZ : Type := Nat × (State → Heap → Prop)
def ZB (b : BZ) : Prop := (∀ (u U : State) (H : Heap), (U.vm = u.vm ∨ u.WarmedH U.vm) → b.2 u H → b.2 U H) ∧ ∀ (U : State) (H H1 : Heap), (∀ a : Nat, a < H.size → a < b.1 → H1[a]? = H[a]?) → b.2 U H → b.2 U H1
def BW (b : BZ) (w : WO) : Prop := w.2.2.2.2.1 = b.2 ∧ ZB b ∧ ∀ q, wA w q → b.1 ≤ q
def gA (w : WO) (sz : Nat) : Nat → Prop := fun q => wA w q ∨ sz ≤ q
def CG (X : CT) (w : WO) (L : LIM) (nL : Nat) (cc : ByteArray) (own : String) (rt : Option FieldType) (cw : Cond) (rm : Room) (b : BZ) : Prop := CF X w L nL cc own rt cw rm ∧ BW b w ∧ b.1 ≤ X.s.heap.size ∧ ∀ q, X.s.heap.size ≤ q → L.1 q
abbrev wPc (w : WO) (σ : DD) (av : List Value) (sz : Nat) : Array Value → State → Prop := va_Pc av (fun U => Wd w σ U.heap ∧ KK w U ∧ wZ w U U.heap ∧ U.heap.size = sz)
abbrev mB (w0 : WO) (sz : Nat) (b : BZ) : WO × DD → State → Prop := fun u t => Wd u.1 u.2 t.heap ∧ KK u.1 t ∧ BW b u.1 ∧ (∀ q, wA u.1 q → gA w0 sz q) ∧ ∀ q, q < sz → wA w0 q → wA u.1 q
abbrev wQm (w0 : WO) (sz : Nat) (b : BZ) (post : WO × DD → Prop) : Array Value → State → Outcome → State → Prop := va_Qv post (mB w0 sz b) (gA w0 sz)
abbrev wQmi (w0 : WO) (sz : Nat) (b : BZ) (post : Int32 → WO × DD → Prop) : Array Value → State → Outcome → State → Prop := va_Qi post (mB w0 sz b) (gA w0 sz)
abbrev wQmo (w0 : WO) (sz : Nat) (b : BZ) (post : Option Nat → WO × DD → Prop) : Array Value → State → Outcome → State → Prop := va_Qq post (mB w0 sz b) (gA w0 sz)
theorem BW.zc {b : BZ} {w : WO} (h : BW b w) : ZC w := by
  obtain ⟨e, z, k⟩ := h
  unfold ZC wZ
  rw [e]
  exact ⟨z.1, fun U H H1 g => z.2 U H H1 (fun a h1 h2 => g a h1 (fun q => absurd (k a q) (by omega)))⟩
/-- a new object, as a class's pool names it -/
def NO (own : String) (index ci N : Nat) (fs : List Value) : Prop := ∃ (Cn : String) (T : u_T) (tyf : Nat → FieldType), cls12[ci]? = some (Cn, T, N) ∧ (∀ t ∈ u_ws Cn T N, t ∈ TT) ∧ Cond.classLink own index Cn ∈ TT ∧ Cond.instantiable Cn N ∈ TT ∧ Cond.initialized Cn ∈ TT ∧ (∀ j, j < N → parseFieldDescriptor (T j).2.2.1 = some (tyf j)) ∧ ∀ j, j < N → defaultValue (tyf j) = vp_V fs j
/-- a field that a constructor writes -/
def FW (own : String) (index ci k N : Nat) (ty : FieldType) : Prop := ∃ (Cn : String) (T : u_T) (tyf : Nat → FieldType), cls12[ci]? = some (Cn, T, N) ∧ k < N ∧ (∀ t ∈ u_ws Cn T N, t ∈ TT) ∧ Cond.fieldLink own index (T k).1 (T k).2.1 (T k).2.2.1 ∈ TT ∧ (∀ a, a < N → ∀ b, b < N → a ≠ b → (T a).2.1 ≠ (T b).2.1) ∧ (∀ j, j < N → parseFieldDescriptor (T j).2.2.1 = some (tyf j)) ∧ tyf k = ty ∧ ((T k).2.2.2 = false ∨ ((T k).2.2.2 = true ∧ (T k).1 = own))
/-- a constructor, as a class's pool names it -/
def CI (own : String) (index : Nat) (y : MethodName) (bytes : ByteArray) (maxL : Nat) (n : Nat) : Prop := Cond.methodLink own index y ∈ TT ∧ Cond.instanceMethod y ∈ TT ∧ Cond.initialized y.cls ∈ TT ∧ Cond.code y bytes maxL none ∈ TT ∧ y.name = "<init>" ∧ (y.cls ≠ "java/lang/invoke/MethodHandle" ∧ y.cls ≠ "java/lang/invoke/VarHandle" ∧ (parseMethodDescriptor y.desc).map (fun d => d.parameters.length) = some n)
theorem wA_add {w : WO} {o a q : Nat} {y : LY} (h : wA (wAdd w o a y) q) : wA w q ∨ q = a := by
  obtain ⟨o', y', h1, h2, h3⟩ := h
  by_cases c : o' = o
  · rw [c, wAd_ae] at h3; exact Or.inr h3
  · rw [wLy_an c] at h1
    rw [wAd_an c] at h3
    exact Or.inl ⟨o', y', h1, h2, h3⟩
theorem wA_adn {w : WO} {o a q : Nat} {y : LY} (hn : wLy w o = none) (h : wA w q) : wA (wAdd w o a y) q := by
  obtain ⟨o', y', h1, h2, h3⟩ := h
  have c : ¬ o' = o := fun z => by rw [z, hn] at h1; cases h1
  exact ⟨o', y', by rw [wLy_an c]; exact h1, h2, by rw [wAd_an c]; exact h3⟩
theorem wA_set {w : WO} {o q ci : Nat} {fs fs' : List Value} (hy : wLy w o = some (lR ci fs)) : wA (wSet w o (lR ci fs')) q ↔ wA w q := by
  constructor
  · rintro ⟨o', y', h1, h2, h3⟩
    by_cases c : o' = o
    · exact ⟨o', lR ci fs, by rw [c]; exact hy, fun z => Bool.noConfusion (show false = true from z), h3⟩
    · rw [wLy_sn c] at h1
      exact ⟨o', y', h1, h2, h3⟩
  · rintro ⟨o', y', h1, h2, h3⟩
    by_cases c : o' = o
    · exact ⟨o', lR ci fs', by rw [c]; exact wLy_se, fun z => Bool.noConfusion (show false = true from z), h3⟩
    · exact ⟨o', y', by rw [wLy_sn c]; exact h1, h2, h3⟩
section MKR
variable {X : CT} {w : WO} {L : LIM} {A : Nat → Prop} {c0 s0 : Nat} {nL : Nat} {Q : State → Prop} {σ : DD} {pc : Nat} {lv : List (Nat × Value)} {rest st : List Value} {cc : ByteArray} {own : String} {rt : Option FieldType} {cw : Cond} {rm : Room} {b : BZ}
theorem CG.f (C : CG X w L nL cc own rt cw rm b) : CF X w L nL cc own rt cw rm := C.1
theorem CG.add (C : CG X w L nL cc own rt cw rm b) {o a c' s' : Nat} (y : LY) (hn : wLy w o = none) (ha : X.s.heap.size ≤ a) (hc : c' ≤ rm.cells ∧ s' ≤ rm.slots) : CG X (wAdd w o a y) (L.1, c', s') nL cc own rt cw rm b := by
  obtain ⟨⟨c1, c2, c3, c4, c5, c6, c7, c8, c9, c10, c11, c12, c13⟩, ⟨e, z, k⟩, hb, hl⟩ := C
  have hBW : BW b (wAdd w o a y) := ⟨e, z, fun q hq => by
    rcases wA_add hq with h | h
    · exact k q h
    · omega⟩
  refine ⟨⟨c1, c2, c3, c4, c5, ⟨c6.1, hBW.zc⟩, c7, c8, c9, fun q hq => ?_, fun q h1 h2 => wA_adn hn (c11 q h1 h2), hc, c13⟩, hBW, hb, hl⟩
  rcases wA_add hq with h | h
  · exact c10 q h
  · exact hl q (by omega)
theorem CG.set (C : CG X w L nL cc own rt cw rm b) {o ci : Nat} {fs fs' : List Value} (hy : wLy w o = some (lR ci fs)) : CG X (wSet w o (lR ci fs')) L nL cc own rt cw rm b := by
  obtain ⟨⟨c1, c2, c3, c4, c5, c6, c7, c8, c9, c10, c11, c12, c13⟩, ⟨e, z, k⟩, hb, hl⟩ := C
  have hBW : BW b (wSet w o (lR ci fs')) := ⟨e, z, fun q hq => k q ((wA_set hy).1 hq)⟩
  exact ⟨⟨c1, c2, c3, c4, c5, ⟨c6.1, hBW.zc⟩, c7, c8, c9, fun q hq => c10 q ((wA_set hy).1 hq), fun q h1 h2 => (wA_set hy).2 (c11 q h1 h2), c12, c13⟩, hBW, hb, hl⟩
/-- a new row of numbers -/
theorem r_newP (C : CG X w (A, c0, s0) nL cc own rt cw rm b) {at' : ArrayType} (harr : Cond.arrayClass (newarray.typeOf at') ∈ TT) (o : Nat) (y : LY) {n : Int32} (N : Nat) (hn : ¬ n < 0) (hN : n.toNatClampNeg = N) (hbytes : N * componentBytes (newarray.typeOf at') ≤ 536870912) (hc : ∀ cA : ClassId, ArrOfT X.s cA (newarray.typeOf at') → X.s.vm.findClass ("[" ++ (newarray.typeOf at').toString) = some cA → ∀ (a : Nat) (H : Heap), H[a]? = some (arrV cA N (fun _ => defaultValue (newarray.typeOf at'))) → va_at w.1 cls12 (a, celV (wAdd w o a y) (cle σ o) o y) H) (hno : wLy w o = none) (hr : NR w σ o) {c1 s1 : Nat} (hcel : c0 + 1 = c1 ∧ s0 + N = s1 ∧ c1 ≤ rm.cells ∧ s1 ≤ rm.slots) (hd : decode cc pc = .ok (.newarray at', 2))
    (kk : ∀ a, X.s.heap.size ≤ a → CG X (wAdd w o a y) (A, c1, s1) nL cc own rt cw rm b → gW X (wAdd w o a y) (A, c1, s1) nL Q (cle σ o) (pc + 2) lv (.ref a :: rest)) : gW X w (A, c0, s0) nL Q σ pc lv (.int n :: rest) := fun H locs ls a0 b0 d => by
  have C1 := C.1
  obtain ⟨g1, g2, g3⟩ := hcel
  subst g1; subst g2
  refine va_newaK C1.1 C1.2.1 (C1.wd harr) rfl hd rfl hn hN hbytes (by rw [C1.room]; exact g3.1) (by rw [C1.room]; exact g3.2) (h := H.size) rfl (fun H' cA e1 e2 e3 e4 e5 => ?_)
  have hs : X.s.heap.size ≤ H.size := b0.1
  exact kk H.size hs (C.add y hno hs g3) H' locs ls (wd_add a0 hno hr (fun q k h => cle_n h) e3 (hc cA e4 e5 H.size H' e1)) ⟨by rw [e2]; omega, fun q h1 h2 => by rw [e3 q (by omega)]; exact b0.2.1 q h1 h2, b0.2.2⟩ d
theorem r_newI (C : CG X w (A, c0, s0) nL cc own rt cw rm b) (harr : Cond.arrayClass .int ∈ TT) (o : Nat) {n : Int32} (N : Nat) (hn : ¬ n < 0) (hN : n.toNatClampNeg = N) (hbytes : N * 4 ≤ 536870912) (hno : wLy w o = none) (hr : NR w σ o) {c1 s1 : Nat} (hcel : c0 + 1 = c1 ∧ s0 + N = s1 ∧ c1 ≤ rm.cells ∧ s1 ≤ rm.slots) (hd : decode cc pc = .ok (.newarray .int, 2))
    (kk : ∀ a, X.s.heap.size ≤ a → CG X (wAdd w o a (lI 0 N)) (A, c1, s1) nL cc own rt cw rm b → gW X (wAdd w o a (lI 0 N)) (A, c1, s1) nL Q (cle σ o) (pc + 2) lv (.ref a :: rest)) : gW X w (A, c0, s0) nL Q σ pc lv (.int n :: rest) := by
  refine r_newP C (at' := .int) harr o (lI 0 N) N hn hN hbytes (fun cA _ h2 a H h => ?_) hno hr hcel hd kk
  have e : cA = wCa w 0 := Option.some.inj (h2.symm.trans (C.1.kk.1.2 0 _ rfl).2)
  show H[a]? = some (vp_cell (wCa w 0) (N, .inl (gI (cle σ o) o)))
  rw [h, e, vp_cell_i]
  exact congrArg some (arr_ext (fun k _ => by show Value.int 0 = _; rw [cle_e.1]))
theorem r_newB (C : CG X w (A, c0, s0) nL cc own rt cw rm b) (harr : Cond.arrayClass .byte ∈ TT) (o : Nat) {n : Int32} (N : Nat) (hn : ¬ n < 0) (hN : n.toNatClampNeg = N) (hbytes : N * 1 ≤ 536870912) (hno : wLy w o = none) (hr : NR w σ o) {c1 s1 : Nat} (hcel : c0 + 1 = c1 ∧ s0 + N = s1 ∧ c1 ≤ rm.cells ∧ s1 ≤ rm.slots) (hd : decode cc pc = .ok (.newarray .byte, 2))
    (kk : ∀ a, X.s.heap.size ≤ a → CG X (wAdd w o a (lI 1 N)) (A, c1, s1) nL cc own rt cw rm b → gW X (wAdd w o a (lI 1 N)) (A, c1, s1) nL Q (cle σ o) (pc + 2) lv (.ref a :: rest)) : gW X w (A, c0, s0) nL Q σ pc lv (.int n :: rest) := by
  refine r_newP C (at' := .byte) harr o (lI 1 N) N hn hN hbytes (fun cA _ h2 a H h => ?_) hno hr hcel hd kk
  have e : cA = wCa w 1 := Option.some.inj (h2.symm.trans (C.1.kk.1.2 1 _ rfl).2)
  show H[a]? = some (vp_cell (wCa w 1) (N, .inl (gI (cle σ o) o)))
  rw [h, e, vp_cell_i]
  exact congrArg some (arr_ext (fun k _ => by show Value.int 0 = _; rw [cle_e.1]))
theorem r_newZ (C : CG X w (A, c0, s0) nL cc own rt cw rm b) (harr : Cond.arrayClass .boolean ∈ TT) (o : Nat) {n : Int32} (N : Nat) (hn : ¬ n < 0) (hN : n.toNatClampNeg = N) (hbytes : N * 1 ≤ 536870912) (hno : wLy w o = none) (hr : NR w σ o) {c1 s1 : Nat} (hcel : c0 + 1 = c1 ∧ s0 + N = s1 ∧ c1 ≤ rm.cells ∧ s1 ≤ rm.slots) (hd : decode cc pc = .ok (.newarray .boolean, 2))
    (kk : ∀ a, X.s.heap.size ≤ a → CG X (wAdd w o a (lI 2 N)) (A, c1, s1) nL cc own rt cw rm b → gW X (wAdd w o a (lI 2 N)) (A, c1, s1) nL Q (cle σ o) (pc + 2) lv (.ref a :: rest)) : gW X w (A, c0, s0) nL Q σ pc lv (.int n :: rest) := by
  refine r_newP C (at' := .boolean) harr o (lI 2 N) N hn hN hbytes (fun cA _ h2 a H h => ?_) hno hr hcel hd kk
  have e : cA = wCa w 2 := Option.some.inj (h2.symm.trans (C.1.kk.1.2 2 _ rfl).2)
  show H[a]? = some (vp_cell (wCa w 2) (N, .inl (gI (cle σ o) o)))
  rw [h, e, vp_cell_i]
  exact congrArg some (arr_ext (fun k _ => by show Value.int 0 = _; rw [cle_e.1]))
theorem r_newJ (C : CG X w (A, c0, s0) nL cc own rt cw rm b) (harr : Cond.arrayClass .long ∈ TT) (o : Nat) {n : Int32} (N : Nat) (hn : ¬ n < 0) (hN : n.toNatClampNeg = N) (hbytes : N * 8 ≤ 536870912) (hno : wLy w o = none) (hr : NR w σ o) {c1 s1 : Nat} (hcel : c0 + 1 = c1 ∧ s0 + N = s1 ∧ c1 ≤ rm.cells ∧ s1 ≤ rm.slots) (hd : decode cc pc = .ok (.newarray .long, 2))
    (kk : ∀ a, X.s.heap.size ≤ a → CG X (wAdd w o a (lJ N)) (A, c1, s1) nL cc own rt cw rm b → gW X (wAdd w o a (lJ N)) (A, c1, s1) nL Q (cle σ o) (pc + 2) lv (.ref a :: rest)) : gW X w (A, c0, s0) nL Q σ pc lv (.int n :: rest) := by
  refine r_newP C (at' := .long) harr o (lJ N) N hn hN hbytes (fun cA _ h2 a H h => ?_) hno hr hcel hd kk
  have e : cA = wCa w 3 := Option.some.inj (h2.symm.trans (C.1.kk.1.2 3 _ rfl).2)
  show H[a]? = some (vp_cell (wCa w 3) (N, .inr (.inl (gL (cle σ o) o))))
  rw [h, e, vp_cell_l]
  exact congrArg some (arr_ext (fun k _ => by show Value.long 0 = _; rw [cle_e.2.1]))
/-- a new row of references -/
theorem r_newQ (C : CG X w (A, c0, s0) nL cc own rt cw rm b) {ix t : Nat} {Cn : String} (ht : (t = 4 ∧ Cn = "FadingActs$Text") ∨ (t = 5 ∧ Cn = "FadingActs$Realm")) (hcl : Cond.classLink own ix Cn ∈ TT) (hao : va_AO Cn X.s) (o : Nat) {n : Int32} (N : Nat) (hn : ¬ n < 0) (hN : n.toNatClampNeg = N) (hbytes : N * 4 ≤ 536870912) (hno : wLy w o = none) (hr : NR w σ o) {c1 s1 : Nat} (hcel : c0 + 1 = c1 ∧ s0 + N = s1 ∧ c1 ≤ rm.cells ∧ s1 ≤ rm.slots) (hd : decode cc pc = .ok (.anewarray ix, 3))
    (kk : ∀ a, X.s.heap.size ≤ a → CG X (wAdd w o a (lQ t N)) (A, c1, s1) nL cc own rt cw rm b → gW X (wAdd w o a (lQ t N)) (A, c1, s1) nL Q (cle σ o) (pc + 3) lv (.ref a :: rest)) : gW X w (A, c0, s0) nL Q σ pc lv (.int n :: rest) := fun H locs ls a0 b0 d => by
  have C1 := C.1
  obtain ⟨g1, g2, g3⟩ := hcel
  subst g1; subst g2
  subst hN
  refine W.anew C1.1 C1.2.1 C1.2.2.2.1 (C1.wd hcl) (va_AO.use hao) rfl hd rfl hn hbytes (by rw [C1.room]; exact g3.1) (by rw [C1.room]; exact g3.2) (fun cA kA comp f1 f2 f3 f4 => ?_)
  generalize hH1 : H.push ({ cls := cA, slots := Array.replicate n.toNatClampNeg .null, vm := .none } : Cell) = H1
  have z1 : H1.size = H.size + 1 := by rw [← hH1, Array.size_push]
  have e1 : H1[H.size]? = some (arrV cA n.toNatClampNeg (fun _ => .null)) := by rw [← hH1, Array.getElem?_push_size, ← arrV_new]
  have o1 : ∀ q : Nat, q < H.size → H1[q]? = H[q]? := fun q hq => by rw [← hH1, Array.getElem?_push, if_neg (Nat.ne_of_lt hq)]
  have hs : X.s.heap.size ≤ H.size := b0.1
  have e : cA = wCa w t := by
    rcases ht with ⟨rfl, rfl⟩ | ⟨rfl, rfl⟩
    · obtain ⟨kA', comp', -, -, -, g4⟩ := (C1.kk.1.2 4 _ rfl).2
      exact Option.some.inj (f1.symm.trans g4)
    · obtain ⟨kA', comp', -, -, -, g4⟩ := (C1.kk.1.2 5 _ rfl).2
      exact Option.some.inj (f1.symm.trans g4)
  refine kk H.size hs (C.add _ hno hs g3) H1 locs ls (wd_add a0 hno hr (fun q k h => cle_n h) o1 ?_) ⟨by rw [z1]; omega, fun q h1 h2 => by rw [o1 q (by omega)]; exact b0.2.1 q h1 h2, b0.2.2⟩ d
  show H1[H.size]? = some (vp_cell (wCa w t) (n.toNatClampNeg, .inr (.inr (.inr (.inr (fun k => (gR (cle σ o) o k).map (wAd (wAdd w o H.size (lQ t n.toNatClampNeg)))))))))
  rw [e1, e, vp_cell_q]
  exact congrArg some (arr_ext (fun k _ => by rw [cle_e.2.2]; rfl))
/-- a new object -/
theorem r_newO (C : CG X w (A, c0, s0) nL cc own rt cw rm b) {ix ci N : Nat} {fs : List Value} (hO : NO own ix ci N fs) (o : Nat) (hno : wLy w o = none) (hr : NR w σ o) {c1 s1 : Nat} (hcel : c0 + 1 = c1 ∧ s0 + N = s1 ∧ c1 ≤ rm.cells ∧ s1 ≤ rm.slots) (hd : decode cc pc = .ok (.new ix, 3))
    (kk : ∀ a, X.s.heap.size ≤ a → CG X (wAdd w o a (lR ci fs)) (A, c1, s1) nL cc own rt cw rm b → gW X (wAdd w o a (lR ci fs)) (A, c1, s1) nL Q (cle σ o) (pc + 3) lv (.ref a :: rest)) : gW X w (A, c0, s0) nL Q σ pc lv rest := fun H locs ls a0 b0 d => by
  have C1 := C.1
  obtain ⟨g1, g2, g3⟩ := hcel
  subst g1; subst g2
  obtain ⟨Cn, T, tyf, hc, hin, hcl, hins, hini, hty, hfs⟩ := hO
  have hKn := C1.kk.1.1 ci _ hc
  refine W.newcK C1.1 C1.2.1 C1.2.2.2.1 (C1.wd hcl) (C1.wd hins) (C1.wd hini) rfl hd (by rw [C1.room]; exact g3.1) (by rw [C1.room]; exact g3.2) hKn.2.1 (h := H.size) rfl (fun H1 kC hkC e1 z1 o1 => ?_)
  have hs : X.s.heap.size ≤ H.size := b0.1
  refine kk H.size hs (C.add _ hno hs g3) H1 locs ls (wd_add a0 hno hr (fun q k h => cle_n h) o1 ?_) ⟨by rw [z1]; omega, fun q h1 h2 => by rw [o1 q (by omega)]; exact b0.2.1 q h1 h2, b0.2.2⟩ d
  exact ⟨_, hc, (u_born tyf C1.hts (fun t ht => List.mem_cons_of_mem _ (hin t ht)) hKn hkC e1 hty).to hfs⟩
end MKR
