/-! ===== base: flat data, layouts, worlds, the walk's judgement ===== -/
abbrev cls12 : List vw_C := [(RX0, TX0, 6), (RX1, TX1, 14), (RX2, TX2, 7), (RX3, TX3, 5), (RX4, TX4, 9), (RX5, TX5, 20), (RX6, TX6, 7), (RX7, TX7, 5), (RX8, TX8, 4), (RX9, TX9, 6), (RX10, TX10, 13), (RX11, TX11, 57)]
/-- the data: ints by object and place, longs, references (by object's number) -/
abbrev DD : Type := (Nat → Nat → Int32) × (Nat → Nat → Int64) × (Nat → Nat → Option Nat)
def gI (σ : DD) (o k : Nat) : Int32 := σ.1 o k
def gL (σ : DD) (o k : Nat) : Int64 := σ.2.1 o k
def gR (σ : DD) (o k : Nat) : Option Nat := σ.2.2 o k
def sI (σ : DD) (o k : Nat) (v : Int32) : DD := (fun a b => if a = o ∧ b = k then v else σ.1 a b, σ.2.1, σ.2.2)
def sL (σ : DD) (o k : Nat) (v : Int64) : DD := (σ.1, fun a b => if a = o ∧ b = k then v else σ.2.1 a b, σ.2.2)
def sR (σ : DD) (o k : Nat) (v : Option Nat) : DD := (σ.1, σ.2.1, fun a b => if a = o ∧ b = k then v else σ.2.2 a b)
/-- layouts: an object (class, which fields are references and to whom, how many), an array of ints, bytes, booleans (kind, length), of longs, of references (kind, length) -/
abbrev LY : Type := (Nat × (Nat → Option Nat) × Nat) ⊕ ((Nat × Nat) ⊕ (Nat ⊕ ((Nat × Nat) ⊕ (Nat × List Value))))
abbrev lO (ci : Nat) (rf : Nat → Option Nat) (N : Nat) : LY := .inl (ci, rf, N)
abbrev lI (t n : Nat) : LY := .inr (.inl (t, n))
abbrev lJ (n : Nat) : LY := .inr (.inr (.inl n))
abbrev lQ (t n : Nat) : LY := .inr (.inr (.inr (.inl (t, n))))
/-- an object that is being made: its fields as they are -/
abbrev lR (ci : Nat) (fs : List Value) : LY := .inr (.inr (.inr (.inr (ci, fs))))
abbrev WO : Type := va_G × (Nat → ClassId) × (Nat → Nat) × (Nat → Option LY) × (State → Heap → Prop) × Prop
def wAd (w : WO) (o : Nat) : Nat := w.2.2.1 o
def wLy (w : WO) (o : Nat) : Option LY := w.2.2.2.1 o
/-- what else stands in the heap, and is only read -/
def wZ (w : WO) (U : State) (H : Heap) : Prop := w.2.2.2.2.1 U H
/-- may rows of references be written? -/
def wFl (w : WO) : Prop := w.2.2.2.2.2
def isQ (y : LY) : Bool := match y with
  | .inr (.inr (.inr (.inl _))) => true
  | _ => false
def wCa (w : WO) (t : Nat) : ClassId := w.2.1 t
def fldV (w : WO) (σ : DD) (o : Nat) (r : Option Nat) (k : Nat) : Value := match r with
  | some j => .ref (wAd w j)
  | none => .int (gI σ o k)
def celV (w : WO) (σ : DD) (o : Nat) (y : LY) : va_E := match y with
  | .inl (ci, rf, N) => .inr (ci, (List.range N).map (fun k => fldV w σ o (rf k) k))
  | .inr (.inl (t, n)) => .inl (wCa w t, n, .inl (gI σ o))
  | .inr (.inr (.inl n)) => .inl (wCa w 3, n, .inr (.inl (gL σ o)))
  | .inr (.inr (.inr (.inl (t, n)))) => .inl (wCa w t, n, .inr (.inr (.inr (.inr (fun k => (gR σ o k).map (wAd w))))))
  | .inr (.inr (.inr (.inr (ci, fs)))) => .inr (ci, fs)
def Wd (w : WO) (σ : DD) (H : Heap) : Prop := (∀ o y, wLy w o = some y → va_at w.1 cls12 (wAd w o, celV w σ o y) H) ∧ ∀ o o', wLy w o ≠ none → wLy w o' ≠ none → wAd w o = wAd w o' → o = o'
def wA (w : WO) : Nat → Prop := fun q => ∃ o y, wLy w o = some y ∧ (isQ y = true → wFl w) ∧ q = wAd w o
def tyL (w : WO) : List (ClassId × FieldType) := [(wCa w 0, .int), (wCa w 1, .byte), (wCa w 2, .boolean), (wCa w 3, .long), (wCa w 4, .object "FadingActs$Text"), (wCa w 5, .object "FadingActs$Realm")]
def ZC (w : WO) : Prop := (∀ (u U : State) (H : Heap), (U.vm = u.vm ∨ u.WarmedH U.vm) → wZ w u H → wZ w U H) ∧ ∀ (U : State) (H H1 : Heap), (∀ a : Nat, a < H.size → ¬ wA w a → H1[a]? = H[a]?) → wZ w U H → wZ w U H1
def KK (w : WO) (s : State) : Prop := va_K w.1 cls12 (tyL w) s ∧ ZC w
theorem KK.moved {w : WO} {u U : State} (hvm : u.vm.Alike U.vm) (h : KK w u) : KK w U := ⟨va_K.moved hvm h.1, h.2⟩
/-- which cells may be written, how many cells and slots were made -/
abbrev LIM : Type := (Nat → Prop) × Nat × Nat
abbrev lim0 (w : WO) : LIM := (wA w, 0, 0)
abbrev CT : Type := Program × Launch × Env × Room × State × MethodId × Array Value × List Frame × Method × Code
abbrev CT.p (X : CT) : Program := X.1
abbrev CT.l (X : CT) : Launch := X.2.1
abbrev CT.e (X : CT) : Env := X.2.2.1
abbrev CT.R (X : CT) : Room := X.2.2.2.1
abbrev CT.s (X : CT) : State := X.2.2.2.2.1
abbrev CT.m (X : CT) : MethodId := X.2.2.2.2.2.1
abbrev CT.args (X : CT) : Array Value := X.2.2.2.2.2.2.1
abbrev CT.below (X : CT) : List Frame := X.2.2.2.2.2.2.2.1
abbrev CT.meth (X : CT) : Method := X.2.2.2.2.2.2.2.2.1
abbrev CT.c (X : CT) : Code := X.2.2.2.2.2.2.2.2.2
/-- what stays the same within a method -/
def CF (X : CT) (w : WO) (L : LIM) (nL : Nat) (cc : ByteArray) (own : String) (rt : Option FieldType) (cw : Cond) (rm : Room) : Prop :=
  X.p.tables.exec = Jvm.exec ∧ X.c.code = cc ∧ X.c.maxLocals = nL ∧ X.s.vm.findClass own = some X.m.cls ∧ (∀ t ∈ cw :: TT, t.before X.args X.s = true) ∧ KK w X.s ∧ X.meth.sig.returnType = rt ∧ X.meth.locks = false ∧ X.R = rm ∧ (∀ q, wA w q → L.1 q) ∧ (∀ q, q < X.s.heap.size → L.1 q → wA w q) ∧ (L.2.1 ≤ rm.cells ∧ L.2.2 ≤ rm.slots) ∧ wZ w X.s X.s.heap
/-- the walk: from the data σ, at pc, with these locals and this stack -/
def gW (X : CT) (w : WO) (L : LIM) (nL : Nat) (Q : State → Prop) (σ : DD) (pc : Nat) (lv : List (Nat × Value)) (st : List Value) : Prop :=
  ∀ (H : Heap) (locs : List Loc) (ls : Array Slot), Wd w σ H → va_S L.1 X.s.heap H locs → lv_has ls nL lv → W X.p X.l X.e X.R X.s X.m X.args X.below X.meth X.c H locs L.2.1 L.2.2 Q (F0 X.m pc ls st)
/-- a contract's world behind it -/
abbrev wB (w : WO) : DD → State → Prop := fun σ t => Wd w σ t.heap ∧ KK w t
abbrev wP (w : WO) (σ : DD) (av : List Value) : Array Value → State → Prop := va_Pc av (fun U => Wd w σ U.heap ∧ KK w U ∧ wZ w U U.heap)
abbrev wQi (w : WO) (post : Int32 → DD → Prop) : Array Value → State → Outcome → State → Prop := va_Qi post (wB w) (wA w)
abbrev wQl (w : WO) (post : Int64 → DD → Prop) : Array Value → State → Outcome → State → Prop := va_Ql post (wB w) (wA w)
abbrev wQv (w : WO) (post : DD → Prop) : Array Value → State → Outcome → State → Prop := va_Qv post (wB w) (wA w)
abbrev QI (X : CT) (w : WO) (post : Int32 → DD → Prop) : State → Prop := MQ X.below (wQi w post) X.args X.s 0 0 (wA w)
abbrev QL (X : CT) (w : WO) (post : Int64 → DD → Prop) : State → Prop := MQ X.below (wQl w post) X.args X.s 0 0 (wA w)
abbrev QV (X : CT) (w : WO) (post : DD → Prop) : State → Prop := MQ X.below (wQv w post) X.args X.s 0 0 (wA w)
/-- methods' contracts -/
abbrev MI (l : Launch) (w : WO) (y : MethodName) (cc : ByteArray) (nL : Nat) (rt : FieldType) (rm : Room) (σ : DD) (av : List Value) (post : Int32 → DD → Prop) : Prop := Met l y (.code y cc nL (some rt) :: TT) rm (wP w σ av) (wQi w post) 0 0 (wA w)
abbrev ML (l : Launch) (w : WO) (y : MethodName) (cc : ByteArray) (nL : Nat) (rm : Room) (σ : DD) (av : List Value) (post : Int64 → DD → Prop) : Prop := Met l y (.code y cc nL (some .long) :: TT) rm (wP w σ av) (wQl w post) 0 0 (wA w)
abbrev MV (l : Launch) (w : WO) (y : MethodName) (cc : ByteArray) (nL : Nat) (rm : Room) (σ : DD) (av : List Value) (post : DD → Prop) : Prop := Met l y (.code y cc nL none :: TT) rm (wP w σ av) (wQv w post) 0 0 (wA w)
abbrev rmK (f q : Nat) : Room := { frames := f, cells := 0, slots := 0, locals := q }
/-- a field, as a class's pool names it -/
def FL (own : String) (index ci k N : Nat) (ty : FieldType) (fin : Bool) : Prop := ∃ (Cn : String) (T : u_T) (tyf : Nat → FieldType), cls12[ci]? = some (Cn, T, N) ∧ k < N ∧ (∀ t ∈ u_ws Cn T N, t ∈ TT) ∧ Cond.fieldLink own index (T k).1 (T k).2.1 (T k).2.2.1 ∈ TT ∧ (∀ a, a < N → ∀ b, b < N → a ≠ b → (T a).2.1 ≠ (T b).2.1) ∧ (∀ j, j < N → parseFieldDescriptor (T j).2.2.1 = some (tyf j)) ∧ tyf k = ty ∧ (T k).2.2.2 = fin
/-- a method, as a class's pool names it: on an object of its class; static -/
def CL (own : String) (index : Nat) (ci : Nat) (y : MethodName) (bytes : ByteArray) (maxL : Nat) (ret : Option FieldType) (n : Nat) : Prop := (∃ T N, cls12[ci]? = some (y.cls, T, N)) ∧ Cond.methodLink own index y ∈ TT ∧ Cond.instanceMethod y ∈ TT ∧ Cond.selects y.cls y y ∈ TT ∧ Cond.initialized y.cls ∈ TT ∧ Cond.code y bytes maxL ret ∈ TT ∧ (y.cls ≠ "java/lang/invoke/MethodHandle" ∧ y.cls ≠ "java/lang/invoke/VarHandle" ∧ (parseMethodDescriptor y.desc).map (fun d => d.parameters.length) = some n)
def CS (own : String) (index : Nat) (y : MethodName) (bytes : ByteArray) (maxL : Nat) (ret : Option FieldType) (n : Nat) : Prop := Cond.methodLink own index y ∈ TT ∧ Cond.static y ∈ TT ∧ Cond.initialized y.cls ∈ TT ∧ Cond.code y bytes maxL ret ∈ TT ∧ (y.cls ≠ "java/lang/invoke/MethodHandle" ∧ y.cls ≠ "java/lang/invoke/VarHandle" ∧ (parseMethodDescriptor y.desc).map (fun d => d.parameters.length) = some n)
def jrem (x y : Int32) : Int32 := x - x / y * y
def jlrem (x y : Int64) : Int64 := x - x / y * y
def jshl (x y : Int32) : Int32 := x <<< (y &&& 31)
def jshr (x y : Int32) : Int32 := x >>> (y &&& 31)
def jushr (x y : Int32) : Int32 := (x.toUInt32 >>> (y.toUInt32 &&& Int32.toUInt32 31)).toInt32
def i2l (x : Int32) : Int64 := x.toInt64
def l2i (x : Int64) : Int32 := x.toInt32
def i2b (x : Int32) : Int32 := x.toInt8.toInt32
/-- loops: the least predicate that its body keeps -/
def lpN {α : Type} (F : (α → Prop) → α → Prop) : Nat → α → Prop
  | 0, _ => False
  | n + 1, x => F (lpN F n) x
def Loop {α : Type} (F : (α → Prop) → α → Prop) (x : α) : Prop := ∃ n, lpN F n x
theorem LoopW {α : Type} {F : (α → Prop) → α → Prop} {G : α → Prop} (step : ∀ K x, (∀ y, K y → G y) → F K x → G x) {x : α} (h : Loop F x) : G x := by
  obtain ⟨n, h⟩ := h
  induction n generalizing x with
  | zero => exact h.elim
  | succ n ih => exact step (lpN F n) x (fun y hy => ih hy) h
theorem LoopI {α : Type} {F : (α → Prop) → α → Prop} (I : α → Prop) (μ : α → Nat) (step : ∀ x K, I x → (∀ y, I y → μ y < μ x → K y) → F K x) {x : α} (h : I x) : Loop F x := by
  have key : ∀ n x, I x → μ x < n → lpN F n x := by
    intro n
    induction n with
    | zero => intro x _ h; exact absurd h (Nat.not_lt_zero _)
    | succ n ih => intro x hx hlt; exact step x (lpN F n) hx (fun y hy hl => ih y hy (by omega))
  exact ⟨μ x + 1, key _ x h (Nat.lt_succ_self _)⟩
/-- a method that calls itself: so deep -/
def itN {α : Type} (F : α → α) (z : α) : Nat → α
  | 0 => z
  | n + 1 => F (itN F z n)
theorem vp_lit {i : Int32} {n : Nat} (h : (decide (i < 0) || Nat.ble n i.toNatClampNeg) = false) : vp_in i n := by
  simp only [Bool.or_eq_false_iff, decide_eq_false_iff_not] at h
  rintro (q | q)
  · exact h.1 q
  · rw [Nat.ble_eq_true_of_le q] at h; exact absurd h.2 (by decide)
theorem rmK_ok {f q f' q' maxL : Nat} (h1 : Nat.ble (f' + 1) f = true) (h2 : Nat.ble (8 + (maxL + 11) + q') q = true) : f' + 1 ≤ f ∧ 8 + (maxL + 11) + q' ≤ q ∧ (rmK f' q').cells = 0 ∧ (rmK f' q').slots = 0 := ⟨Nat.le_of_ble_eq_true h1, Nat.le_of_ble_eq_true h2, rfl, rfl⟩
theorem rmK_ok2 {f q f' q' maxL : Nat} (h1 : f' + 1 ≤ f) (h2 : 8 + (maxL + 11) + q' ≤ q) : f' + 1 ≤ f ∧ 8 + (maxL + 11) + q' ≤ q ∧ (rmK f' q').cells = 0 ∧ (rmK f' q').slots = 0 := ⟨h1, h2, rfl, rfl⟩
theorem iincM {x : Int32} {n : Int} {m : Int32} (h : Int32.ofInt n = m) : x + Int32.ofInt n = x + m := by rw [h]
section RWS
variable {X : CT} {w : WO} {L : LIM} {nL : Nat} {Q : State → Prop} {σ : DD} {pc : Nat} {lv lv' : List (Nat × Value)} {rest : List Value} {cc : ByteArray} {own : String} {rt : Option FieldType} {cw : Cond} {rm : Room}
theorem CF.kk (C : CF X w L nL cc own rt cw rm) : KK w X.s := C.2.2.2.2.2.1
theorem CF.hts (C : CF X w L nL cc own rt cw rm) : ∀ t ∈ cw :: TT, t.before X.args X.s = true := C.2.2.2.2.1
theorem CF.rty (C : CF X w L nL cc own rt cw rm) : X.meth.sig.returnType = rt := C.2.2.2.2.2.2.1
theorem CF.lk (C : CF X w L nL cc own rt cw rm) : X.meth.locks = false := C.2.2.2.2.2.2.2.1
theorem CF.room (C : CF X w L nL cc own rt cw rm) : X.R = rm := C.2.2.2.2.2.2.2.2.1
theorem CF.lim (C : CF X w L nL cc own rt cw rm) : ∀ q, wA w q → L.1 q := C.2.2.2.2.2.2.2.2.2.1
theorem CF.lim2 (C : CF X w L nL cc own rt cw rm) : ∀ q, q < X.s.heap.size → L.1 q → wA w q := C.2.2.2.2.2.2.2.2.2.2.1
theorem CF.cel (C : CF X w L nL cc own rt cw rm) : L.2.1 ≤ rm.cells ∧ L.2.2 ≤ rm.slots := C.2.2.2.2.2.2.2.2.2.2.2.1
theorem CF.z (C : CF X w L nL cc own rt cw rm) : wZ w X.s X.s.heap := C.2.2.2.2.2.2.2.2.2.2.2.2
/-- .. in a state that a call starts from -/
theorem CF.zAt (C : CF X w L nL cc own rt cw rm) {H : Heap} {locs : List Loc} (b : va_S L.1 X.s.heap H locs) {U : State} (hU : U.heap = H) (hW : X.s.WarmedH U.vm) : wZ w U U.heap := by
  rw [hU]
  exact C.kk.2.1 X.s U H (Or.inr hW) (C.kk.2.2 X.s X.s.heap H (fun a h1 h2 => b.2.1 a h1 (fun q => h2 (C.lim2 a h1 q))) C.z)
theorem CF.wd {t : Cond} (C : CF X w L nL cc own rt cw rm) (h : t ∈ TT) : t.before X.args X.s = true := C.2.2.2.2.1 t (List.mem_cons_of_mem _ h)
theorem r_iconst (C : CF X w L nL cc own rt cw rm) {n : Int} (v : Int32) (hd : decode cc pc = .ok (.iconst n, 1)) (k : gW X w L nL Q σ (pc + 1) lv (.int v :: rest)) (hv : Int32.ofInt n = v := by decide) : gW X w L nL Q σ pc lv rest := fun H locs ls a b d => lv_iconst C.1 C.2.1 hd hv (k H locs ls a b d)
theorem r_bipush (C : CF X w L nL cc own rt cw rm) {n : Int} (v : Int32) (hd : decode cc pc = .ok (.bipush n, 2)) (k : gW X w L nL Q σ (pc + 2) lv (.int v :: rest)) (hv : (Int8.ofInt n).toInt32 = v := by decide) : gW X w L nL Q σ pc lv rest := fun H locs ls a b d => lv_bipush C.1 C.2.1 hd hv (k H locs ls a b d)
theorem r_sipush (C : CF X w L nL cc own rt cw rm) {n : Int} (v : Int32) (hd : decode cc pc = .ok (.sipush n, 3)) (k : gW X w L nL Q σ (pc + 3) lv (.int v :: rest)) (hv : (Int16.ofInt n).toInt32 = v := by decide) : gW X w L nL Q σ pc lv rest := fun H locs ls a b d => lv_sipush C.1 C.2.1 hd hv (k H locs ls a b d)
theorem r_lconst (C : CF X w L nL cc own rt cw rm) {n : Fin 2} (v : Int64) (hd : decode cc pc = .ok (.lconst n, 1)) (k : gW X w L nL Q σ (pc + 1) lv (.long v :: rest)) (hv : Int64.ofNat (n : Nat) = v := by decide) : gW X w L nL Q σ pc lv rest := fun H locs ls a b d => lv_lconst C.1 C.2.1 hd hv (k H locs ls a b d)
theorem r_ldc (C : CF X w L nL cc own rt cw rm) {ix : Nat} {v : Int32} (hc : Cond.constant own ix v ∈ TT) (hd : decode cc pc = .ok (.ldc ix, 2)) (k : gW X w L nL Q σ (pc + 2) lv (.int v :: rest)) : gW X w L nL Q σ pc lv rest := fun H locs ls a b d => lv_ldc C.1 C.2.1 C.2.2.2.1 (C.wd hc) hd (k H locs ls a b d)
theorem r_ldc2 (C : CF X w L nL cc own rt cw rm) {ix : Nat} {v : Int64} (hc : Cond.constantLong own ix v ∈ TT) (hd : decode cc pc = .ok (.ldc2_w ix, 3)) (k : gW X w L nL Q σ (pc + 3) lv (.long v :: rest)) : gW X w L nL Q σ pc lv rest := fun H locs ls a b d => lv_ldc2 C.1 C.2.1 C.2.2.2.1 (C.wd hc) hd (k H locs ls a b d)
theorem r_iload_n (C : CF X w L nL cc own rt cw rm) {j : Fin 4} {x : Int32} (i : Nat) (hl : lv[i]? = some ((j : Nat), .int x)) (hd : decode cc pc = .ok (.iload_n j, 1)) (k : gW X w L nL Q σ (pc + 1) lv (.int x :: rest)) : gW X w L nL Q σ pc lv rest := fun H locs ls a b d => lv_iload_n C.1 C.2.1 hd rfl (lv_at d i hl) (k H locs ls a b d)
theorem r_iload (C : CF X w L nL cc own rt cw rm) {j : Nat} {x : Int32} (i : Nat) (hl : lv[i]? = some (j, .int x)) (hd : decode cc pc = .ok (.iload j, 2)) (k : gW X w L nL Q σ (pc + 2) lv (.int x :: rest)) : gW X w L nL Q σ pc lv rest := fun H locs ls a b d => lv_iload C.1 C.2.1 hd (lv_at d i hl) (k H locs ls a b d)
theorem r_lload_n (C : CF X w L nL cc own rt cw rm) {j : Fin 4} {x : Int64} (i : Nat) (hl : lv[i]? = some ((j : Nat), .long x)) (hd : decode cc pc = .ok (.lload_n j, 1)) (k : gW X w L nL Q σ (pc + 1) lv (.long x :: rest)) : gW X w L nL Q σ pc lv rest := fun H locs ls a b d => lv_lload_n C.1 C.2.1 hd rfl (lv_at d i hl) (k H locs ls a b d)
theorem r_lload (C : CF X w L nL cc own rt cw rm) {j : Nat} {x : Int64} (i : Nat) (hl : lv[i]? = some (j, .long x)) (hd : decode cc pc = .ok (.lload j, 2)) (k : gW X w L nL Q σ (pc + 2) lv (.long x :: rest)) : gW X w L nL Q σ pc lv rest := fun H locs ls a b d => lv_lload C.1 C.2.1 hd (lv_at d i hl) (k H locs ls a b d)
theorem r_aload_n (C : CF X w L nL cc own rt cw rm) {j : Fin 4} {x : Nat} (i : Nat) (hl : lv[i]? = some ((j : Nat), .ref x)) (hd : decode cc pc = .ok (.aload_n j, 1)) (k : gW X w L nL Q σ (pc + 1) lv (.ref x :: rest)) : gW X w L nL Q σ pc lv rest := fun H locs ls a b d => lv_aload_n C.1 C.2.1 hd rfl (lv_at d i hl) (k H locs ls a b d)
theorem r_aload (C : CF X w L nL cc own rt cw rm) {j : Nat} {x : Nat} (i : Nat) (hl : lv[i]? = some (j, .ref x)) (hd : decode cc pc = .ok (.aload j, 2)) (k : gW X w L nL Q σ (pc + 2) lv (.ref x :: rest)) : gW X w L nL Q σ pc lv rest := fun H locs ls a b d => lv_aload C.1 C.2.1 hd (lv_at d i hl) (k H locs ls a b d)
theorem r_istore_n (C : CF X w L nL cc own rt cw rm) {j : Fin 4} {x : Int32} (lv' : List (Nat × Value)) (hl : ((j : Nat), Value.int x) :: lv.filter (fun q => !(q.1 == (j : Nat)) && !(q.1 + 1 == (j : Nat) && q.2.category == 2)) = lv') (hn : Nat.blt (j : Nat) nL = true) (hd : decode cc pc = .ok (.istore_n j, 1)) (k : gW X w L nL Q σ (pc + 1) lv' rest) : gW X w L nL Q σ pc lv (.int x :: rest) := fun H locs ls a b d => lv_istore_n C.1 C.2.1 hd rfl d (Nat.le_of_ble_eq_true hn) hl (fun ls2 d2 => k H locs ls2 a b d2)
theorem r_istore (C : CF X w L nL cc own rt cw rm) {j : Nat} {x : Int32} (lv' : List (Nat × Value)) (hl : (j, Value.int x) :: lv.filter (fun q => !(q.1 == j) && !(q.1 + 1 == j && q.2.category == 2)) = lv') (hn : Nat.blt j nL = true) (hd : decode cc pc = .ok (.istore j, 2)) (k : gW X w L nL Q σ (pc + 2) lv' rest) : gW X w L nL Q σ pc lv (.int x :: rest) := fun H locs ls a b d => lv_istore C.1 C.2.1 hd d (Nat.le_of_ble_eq_true hn) hl (fun ls2 d2 => k H locs ls2 a b d2)
theorem r_astore_n (C : CF X w L nL cc own rt cw rm) {j : Fin 4} {x : Nat} (lv' : List (Nat × Value)) (hl : ((j : Nat), Value.ref x) :: lv.filter (fun q => !(q.1 == (j : Nat)) && !(q.1 + 1 == (j : Nat) && q.2.category == 2)) = lv') (hn : Nat.blt (j : Nat) nL = true) (hd : decode cc pc = .ok (.astore_n j, 1)) (k : gW X w L nL Q σ (pc + 1) lv' rest) : gW X w L nL Q σ pc lv (.ref x :: rest) := fun H locs ls a b d => lv_astore_n C.1 C.2.1 hd rfl d (Nat.le_of_ble_eq_true hn) hl (fun ls2 d2 => k H locs ls2 a b d2)
theorem r_astore (C : CF X w L nL cc own rt cw rm) {j : Nat} {x : Nat} (lv' : List (Nat × Value)) (hl : (j, Value.ref x) :: lv.filter (fun q => !(q.1 == j) && !(q.1 + 1 == j && q.2.category == 2)) = lv') (hn : Nat.blt j nL = true) (hd : decode cc pc = .ok (.astore j, 2)) (k : gW X w L nL Q σ (pc + 2) lv' rest) : gW X w L nL Q σ pc lv (.ref x :: rest) := fun H locs ls a b d => lv_astore C.1 C.2.1 hd d (Nat.le_of_ble_eq_true hn) hl (fun ls2 d2 => k H locs ls2 a b d2)
theorem r_lstore_n (C : CF X w L nL cc own rt cw rm) {j : Fin 4} {x : Int64} (lv' : List (Nat × Value)) (hl : ((j : Nat), Value.long x) :: lv.filter (fun q => !(q.1 == (j : Nat)) && (!(q.1 == (j : Nat) + 1) && !(q.1 + 1 == (j : Nat) && q.2.category == 2))) = lv') (hn : Nat.blt ((j : Nat) + 1) nL = true) (hd : decode cc pc = .ok (.lstore_n j, 1)) (k : gW X w L nL Q σ (pc + 1) lv' rest) : gW X w L nL Q σ pc lv (.long x :: rest) := fun H locs ls a b d => lv_lstore_n C.1 C.2.1 hd rfl d (Nat.le_of_ble_eq_true hn) hl (fun ls2 d2 => k H locs ls2 a b d2)
theorem r_lstore (C : CF X w L nL cc own rt cw rm) {j : Nat} {x : Int64} (lv' : List (Nat × Value)) (hl : (j, Value.long x) :: lv.filter (fun q => !(q.1 == j) && (!(q.1 == j + 1) && !(q.1 + 1 == j && q.2.category == 2))) = lv') (hn : Nat.blt (j + 1) nL = true) (hd : decode cc pc = .ok (.lstore j, 2)) (k : gW X w L nL Q σ (pc + 2) lv' rest) : gW X w L nL Q σ pc lv (.long x :: rest) := fun H locs ls a b d => lv_lstore C.1 C.2.1 hd d (Nat.le_of_ble_eq_true hn) hl (fun ls2 d2 => k H locs ls2 a b d2)
theorem r_iinc (C : CF X w L nL cc own rt cw rm) {j : Nat} {n : Int} {x v : Int32} (i : Nat) (hi : lv[i]? = some (j, .int x)) (hv : x + Int32.ofInt n = v) (lv' : List (Nat × Value)) (hl : (j, Value.int v) :: lv.filter (fun q => !(q.1 == j) && !(q.1 + 1 == j && q.2.category == 2)) = lv') (hn : Nat.blt j nL = true) (hd : decode cc pc = .ok (.iinc j n, 3)) (k : gW X w L nL Q σ (pc + 3) lv' rest) : gW X w L nL Q σ pc lv rest := fun H locs ls a b d => lv_iinc C.1 C.2.1 hd d hi hv (Nat.le_of_ble_eq_true hn) hl (fun ls2 d2 => k H locs ls2 a b d2)
/-- fewer listed locals, in any order -/
theorem r_lv (ks : List Nat) (hl : lv_pick lv ks = lv') {st : List Value} (k : gW X w L nL Q σ pc lv' st) : gW X w L nL Q σ pc lv st := fun H locs ls a b d => k H locs ls a b (lv_sub d ks hl)
theorem r_iadd (C : CF X w L nL cc own rt cw rm) {x y : Int32} (hd : decode cc pc = .ok (.iadd, 1)) (k : gW X w L nL Q σ (pc + 1) lv (.int (x + y) :: rest)) : gW X w L nL Q σ pc lv (.int y :: .int x :: rest) := fun H locs ls a b d => lv_iadd C.1 C.2.1 hd (k H locs ls a b d)
theorem r_isub (C : CF X w L nL cc own rt cw rm) {x y : Int32} (hd : decode cc pc = .ok (.isub, 1)) (k : gW X w L nL Q σ (pc + 1) lv (.int (x - y) :: rest)) : gW X w L nL Q σ pc lv (.int y :: .int x :: rest) := fun H locs ls a b d => lv_isub C.1 C.2.1 hd (k H locs ls a b d)
theorem r_imul (C : CF X w L nL cc own rt cw rm) {x y : Int32} (hd : decode cc pc = .ok (.imul, 1)) (k : gW X w L nL Q σ (pc + 1) lv (.int (x * y) :: rest)) : gW X w L nL Q σ pc lv (.int y :: .int x :: rest) := fun H locs ls a b d => lv_imul C.1 C.2.1 hd (k H locs ls a b d)
theorem r_iand (C : CF X w L nL cc own rt cw rm) {x y : Int32} (hd : decode cc pc = .ok (.iand, 1)) (k : gW X w L nL Q σ (pc + 1) lv (.int (x &&& y) :: rest)) : gW X w L nL Q σ pc lv (.int y :: .int x :: rest) := fun H locs ls a b d => lv_iand C.1 C.2.1 hd (k H locs ls a b d)
theorem r_ior (C : CF X w L nL cc own rt cw rm) {x y : Int32} (hd : decode cc pc = .ok (.ior, 1)) (k : gW X w L nL Q σ (pc + 1) lv (.int (x ||| y) :: rest)) : gW X w L nL Q σ pc lv (.int y :: .int x :: rest) := fun H locs ls a b d => lv_ior C.1 C.2.1 hd (k H locs ls a b d)
theorem r_ixor (C : CF X w L nL cc own rt cw rm) {x y : Int32} (hd : decode cc pc = .ok (.ixor, 1)) (k : gW X w L nL Q σ (pc + 1) lv (.int (x ^^^ y) :: rest)) : gW X w L nL Q σ pc lv (.int y :: .int x :: rest) := fun H locs ls a b d => lv_ixor C.1 C.2.1 hd (k H locs ls a b d)
theorem r_idiv (C : CF X w L nL cc own rt cw rm) {x y : Int32} (h0 : ¬ y = 0) (hd : decode cc pc = .ok (.idiv, 1)) (k : gW X w L nL Q σ (pc + 1) lv (.int (x / y) :: rest)) : gW X w L nL Q σ pc lv (.int y :: .int x :: rest) := fun H locs ls a b d => lv_idiv C.1 C.2.1 hd h0 (k H locs ls a b d)
theorem r_irem (C : CF X w L nL cc own rt cw rm) {x y : Int32} (h0 : ¬ y = 0) (hd : decode cc pc = .ok (.irem, 1)) (k : gW X w L nL Q σ (pc + 1) lv (.int (jrem x y) :: rest)) : gW X w L nL Q σ pc lv (.int y :: .int x :: rest) := fun H locs ls a b d => lv_irem C.1 C.2.1 hd h0 (k H locs ls a b d)
theorem r_ineg (C : CF X w L nL cc own rt cw rm) {x : Int32} (hd : decode cc pc = .ok (.ineg, 1)) (k : gW X w L nL Q σ (pc + 1) lv (.int (-x) :: rest)) : gW X w L nL Q σ pc lv (.int x :: rest) := fun H locs ls a b d => lv_ineg C.1 C.2.1 hd (k H locs ls a b d)
theorem r_ishl (C : CF X w L nL cc own rt cw rm) {x y : Int32} (hd : decode cc pc = .ok (.ishl, 1)) (k : gW X w L nL Q σ (pc + 1) lv (.int (jshl x y) :: rest)) : gW X w L nL Q σ pc lv (.int y :: .int x :: rest) := fun H locs ls a b d => lv_ishl C.1 C.2.1 hd (k H locs ls a b d)
theorem r_ishr (C : CF X w L nL cc own rt cw rm) {x y : Int32} (hd : decode cc pc = .ok (.ishr, 1)) (k : gW X w L nL Q σ (pc + 1) lv (.int (jshr x y) :: rest)) : gW X w L nL Q σ pc lv (.int y :: .int x :: rest) := fun H locs ls a b d => lv_ishr C.1 C.2.1 hd (k H locs ls a b d)
theorem r_iushr (C : CF X w L nL cc own rt cw rm) {x y : Int32} (hd : decode cc pc = .ok (.iushr, 1)) (k : gW X w L nL Q σ (pc + 1) lv (.int (jushr x y) :: rest)) : gW X w L nL Q σ pc lv (.int y :: .int x :: rest) := fun H locs ls a b d => lv_iushr C.1 C.2.1 hd rfl (k H locs ls a b d)
theorem r_ladd (C : CF X w L nL cc own rt cw rm) {x y : Int64} (hd : decode cc pc = .ok (.ladd, 1)) (k : gW X w L nL Q σ (pc + 1) lv (.long (x + y) :: rest)) : gW X w L nL Q σ pc lv (.long y :: .long x :: rest) := fun H locs ls a b d => lv_ladd C.1 C.2.1 hd (k H locs ls a b d)
theorem r_lsub (C : CF X w L nL cc own rt cw rm) {x y : Int64} (hd : decode cc pc = .ok (.lsub, 1)) (k : gW X w L nL Q σ (pc + 1) lv (.long (x - y) :: rest)) : gW X w L nL Q σ pc lv (.long y :: .long x :: rest) := fun H locs ls a b d => lv_lsub C.1 C.2.1 hd (k H locs ls a b d)
theorem r_lmul (C : CF X w L nL cc own rt cw rm) {x y : Int64} (hd : decode cc pc = .ok (.lmul, 1)) (k : gW X w L nL Q σ (pc + 1) lv (.long (x * y) :: rest)) : gW X w L nL Q σ pc lv (.long y :: .long x :: rest) := fun H locs ls a b d => lv_lmul C.1 C.2.1 hd (k H locs ls a b d)
theorem r_ldiv (C : CF X w L nL cc own rt cw rm) {x y : Int64} (h0 : ¬ y = 0) (hd : decode cc pc = .ok (.ldiv, 1)) (k : gW X w L nL Q σ (pc + 1) lv (.long (x / y) :: rest)) : gW X w L nL Q σ pc lv (.long y :: .long x :: rest) := fun H locs ls a b d => lv_ldiv C.1 C.2.1 hd h0 (k H locs ls a b d)
theorem r_lrem (C : CF X w L nL cc own rt cw rm) {x y : Int64} (h0 : ¬ y = 0) (hd : decode cc pc = .ok (.lrem, 1)) (k : gW X w L nL Q σ (pc + 1) lv (.long (jlrem x y) :: rest)) : gW X w L nL Q σ pc lv (.long y :: .long x :: rest) := fun H locs ls a b d => lv_lrem C.1 C.2.1 hd h0 (k H locs ls a b d)
theorem r_lcmp (C : CF X w L nL cc own rt cw rm) {x y : Int64} (hd : decode cc pc = .ok (.lcmp, 1)) (k : gW X w L nL Q σ (pc + 1) lv (.int (lg_cmp x y) :: rest)) : gW X w L nL Q σ pc lv (.long y :: .long x :: rest) := fun H locs ls a b d => W.lcmp C.1 C.2.1 hd (k H locs ls a b d)
theorem r_i2l (C : CF X w L nL cc own rt cw rm) {x : Int32} (hd : decode cc pc = .ok (.i2l, 1)) (k : gW X w L nL Q σ (pc + 1) lv (.long (i2l x) :: rest)) : gW X w L nL Q σ pc lv (.int x :: rest) := fun H locs ls a b d => lv_i2l C.1 C.2.1 hd rfl (k H locs ls a b d)
theorem r_l2i (C : CF X w L nL cc own rt cw rm) {x : Int64} (hd : decode cc pc = .ok (.l2i, 1)) (k : gW X w L nL Q σ (pc + 1) lv (.int (l2i x) :: rest)) : gW X w L nL Q σ pc lv (.long x :: rest) := fun H locs ls a b d => lv_l2i C.1 C.2.1 hd rfl (k H locs ls a b d)
theorem r_i2b (C : CF X w L nL cc own rt cw rm) {x : Int32} (hd : decode cc pc = .ok (.i2b, 1)) (k : gW X w L nL Q σ (pc + 1) lv (.int (i2b x) :: rest)) : gW X w L nL Q σ pc lv (.int x :: rest) := fun H locs ls a b d => lv_i2b C.1 C.2.1 hd rfl (k H locs ls a b d)
theorem r_dup (C : CF X w L nL cc own rt cw rm) {v : Value} (hv : v.category = 1) (hd : decode cc pc = .ok (.dup, 1)) (k : gW X w L nL Q σ (pc + 1) lv (v :: v :: rest)) : gW X w L nL Q σ pc lv (v :: rest) := fun H locs ls a b d => lv_dup C.1 C.2.1 hd hv (k H locs ls a b d)
theorem r_pop (C : CF X w L nL cc own rt cw rm) {v : Value} (hv : v.category = 1) (hd : decode cc pc = .ok (.pop, 1)) (k : gW X w L nL Q σ (pc + 1) lv rest) : gW X w L nL Q σ pc lv (v :: rest) := fun H locs ls a b d => lv_pop C.1 C.2.1 hd hv (k H locs ls a b d)
theorem r_dup_x1 (C : CF X w L nL cc own rt cw rm) {v u : Value} (hv : v.category = 1) (hu : u.category = 1) (hd : decode cc pc = .ok (.dup_x1, 1)) (k : gW X w L nL Q σ (pc + 1) lv (v :: u :: v :: rest)) : gW X w L nL Q σ pc lv (v :: u :: rest) := fun H locs ls a b d => lv_dup_x1 C.1 C.2.1 hd hv hu (k H locs ls a b d)
theorem r_dup2 (C : CF X w L nL cc own rt cw rm) {v u : Value} (hv : v.category = 1) (hu : u.category = 1) (hd : decode cc pc = .ok (.dup2, 1)) (k : gW X w L nL Q σ (pc + 1) lv (v :: u :: v :: u :: rest)) : gW X w L nL Q σ pc lv (v :: u :: rest) := fun H locs ls a b d => lv_dup2_11 C.1 C.2.1 hd hv hu (k H locs ls a b d)
theorem r_goto (C : CF X w L nL cc own rt cw rm) {off : Int} (tgt : Nat) (ht : (pc : Int) + off = (tgt : Int)) (hd : decode cc pc = .ok (.goto off, 3)) {st : List Value} (k : gW X w L nL Q σ tgt lv st) : gW X w L nL Q σ pc lv st := fun H locs ls a b d => lv_goto C.1 C.2.1 hd ht (k H locs ls a b d)
theorem r_if_eq (C : CF X w L nL cc own rt cw rm) {x : Int32} {off : Int} (tgt : Nat) (ht : (pc : Int) + off = (tgt : Int)) (hd : decode cc pc = .ok (.ifCond .eq off, 3)) (kt : x = 0 → gW X w L nL Q σ tgt lv rest) (kf : ¬ x = 0 → gW X w L nL Q σ (pc + 3) lv rest) : gW X w L nL Q σ pc lv (.int x :: rest) := fun H locs ls a b d => lv_if_eq C.1 C.2.1 hd ht (fun q => kt q H locs ls a b d) (fun q => kf q H locs ls a b d)
theorem r_icmp_eq (C : CF X w L nL cc own rt cw rm) {x y : Int32} {off : Int} (tgt : Nat) (ht : (pc : Int) + off = (tgt : Int)) (hd : decode cc pc = .ok (.if_icmp .eq off, 3)) (kt : x = y → gW X w L nL Q σ tgt lv rest) (kf : ¬ x = y → gW X w L nL Q σ (pc + 3) lv rest) : gW X w L nL Q σ pc lv (.int y :: .int x :: rest) := fun H locs ls a b d => lv_icmp_eq C.1 C.2.1 hd ht (fun q => kt q H locs ls a b d) (fun q => kf q H locs ls a b d)
theorem r_if_ne (C : CF X w L nL cc own rt cw rm) {x : Int32} {off : Int} (tgt : Nat) (ht : (pc : Int) + off = (tgt : Int)) (hd : decode cc pc = .ok (.ifCond .ne off, 3)) (kt : ¬ x = 0 → gW X w L nL Q σ tgt lv rest) (kf : x = 0 → gW X w L nL Q σ (pc + 3) lv rest) : gW X w L nL Q σ pc lv (.int x :: rest) := fun H locs ls a b d => lv_if_ne C.1 C.2.1 hd ht (fun q => kt q H locs ls a b d) (fun q => kf q H locs ls a b d)
theorem r_icmp_ne (C : CF X w L nL cc own rt cw rm) {x y : Int32} {off : Int} (tgt : Nat) (ht : (pc : Int) + off = (tgt : Int)) (hd : decode cc pc = .ok (.if_icmp .ne off, 3)) (kt : ¬ x = y → gW X w L nL Q σ tgt lv rest) (kf : x = y → gW X w L nL Q σ (pc + 3) lv rest) : gW X w L nL Q σ pc lv (.int y :: .int x :: rest) := fun H locs ls a b d => lv_icmp_ne C.1 C.2.1 hd ht (fun q => kt q H locs ls a b d) (fun q => kf q H locs ls a b d)
theorem r_if_lt (C : CF X w L nL cc own rt cw rm) {x : Int32} {off : Int} (tgt : Nat) (ht : (pc : Int) + off = (tgt : Int)) (hd : decode cc pc = .ok (.ifCond .lt off, 3)) (kt : x < 0 → gW X w L nL Q σ tgt lv rest) (kf : ¬ x < 0 → gW X w L nL Q σ (pc + 3) lv rest) : gW X w L nL Q σ pc lv (.int x :: rest) := fun H locs ls a b d => lv_if_lt C.1 C.2.1 hd ht (fun q => kt q H locs ls a b d) (fun q => kf q H locs ls a b d)
theorem r_icmp_lt (C : CF X w L nL cc own rt cw rm) {x y : Int32} {off : Int} (tgt : Nat) (ht : (pc : Int) + off = (tgt : Int)) (hd : decode cc pc = .ok (.if_icmp .lt off, 3)) (kt : x < y → gW X w L nL Q σ tgt lv rest) (kf : ¬ x < y → gW X w L nL Q σ (pc + 3) lv rest) : gW X w L nL Q σ pc lv (.int y :: .int x :: rest) := fun H locs ls a b d => lv_icmp_lt C.1 C.2.1 hd ht (fun q => kt q H locs ls a b d) (fun q => kf q H locs ls a b d)
theorem r_if_ge (C : CF X w L nL cc own rt cw rm) {x : Int32} {off : Int} (tgt : Nat) (ht : (pc : Int) + off = (tgt : Int)) (hd : decode cc pc = .ok (.ifCond .ge off, 3)) (kt : 0 ≤ x → gW X w L nL Q σ tgt lv rest) (kf : ¬ 0 ≤ x → gW X w L nL Q σ (pc + 3) lv rest) : gW X w L nL Q σ pc lv (.int x :: rest) := fun H locs ls a b d => lv_if_ge C.1 C.2.1 hd ht (fun q => kt q H locs ls a b d) (fun q => kf q H locs ls a b d)
theorem r_icmp_ge (C : CF X w L nL cc own rt cw rm) {x y : Int32} {off : Int} (tgt : Nat) (ht : (pc : Int) + off = (tgt : Int)) (hd : decode cc pc = .ok (.if_icmp .ge off, 3)) (kt : y ≤ x → gW X w L nL Q σ tgt lv rest) (kf : ¬ y ≤ x → gW X w L nL Q σ (pc + 3) lv rest) : gW X w L nL Q σ pc lv (.int y :: .int x :: rest) := fun H locs ls a b d => lv_icmp_ge C.1 C.2.1 hd ht (fun q => kt q H locs ls a b d) (fun q => kf q H locs ls a b d)
theorem r_if_gt (C : CF X w L nL cc own rt cw rm) {x : Int32} {off : Int} (tgt : Nat) (ht : (pc : Int) + off = (tgt : Int)) (hd : decode cc pc = .ok (.ifCond .gt off, 3)) (kt : 0 < x → gW X w L nL Q σ tgt lv rest) (kf : ¬ 0 < x → gW X w L nL Q σ (pc + 3) lv rest) : gW X w L nL Q σ pc lv (.int x :: rest) := fun H locs ls a b d => lv_if_gt C.1 C.2.1 hd ht (fun q => kt q H locs ls a b d) (fun q => kf q H locs ls a b d)
theorem r_icmp_gt (C : CF X w L nL cc own rt cw rm) {x y : Int32} {off : Int} (tgt : Nat) (ht : (pc : Int) + off = (tgt : Int)) (hd : decode cc pc = .ok (.if_icmp .gt off, 3)) (kt : y < x → gW X w L nL Q σ tgt lv rest) (kf : ¬ y < x → gW X w L nL Q σ (pc + 3) lv rest) : gW X w L nL Q σ pc lv (.int y :: .int x :: rest) := fun H locs ls a b d => lv_icmp_gt C.1 C.2.1 hd ht (fun q => kt q H locs ls a b d) (fun q => kf q H locs ls a b d)
theorem r_if_le (C : CF X w L nL cc own rt cw rm) {x : Int32} {off : Int} (tgt : Nat) (ht : (pc : Int) + off = (tgt : Int)) (hd : decode cc pc = .ok (.ifCond .le off, 3)) (kt : x ≤ 0 → gW X w L nL Q σ tgt lv rest) (kf : ¬ x ≤ 0 → gW X w L nL Q σ (pc + 3) lv rest) : gW X w L nL Q σ pc lv (.int x :: rest) := fun H locs ls a b d => lv_if_le C.1 C.2.1 hd ht (fun q => kt q H locs ls a b d) (fun q => kf q H locs ls a b d)
theorem r_icmp_le (C : CF X w L nL cc own rt cw rm) {x y : Int32} {off : Int} (tgt : Nat) (ht : (pc : Int) + off = (tgt : Int)) (hd : decode cc pc = .ok (.if_icmp .le off, 3)) (kt : x ≤ y → gW X w L nL Q σ tgt lv rest) (kf : ¬ x ≤ y → gW X w L nL Q σ (pc + 3) lv rest) : gW X w L nL Q σ pc lv (.int y :: .int x :: rest) := fun H locs ls a b d => lv_icmp_le C.1 C.2.1 hd ht (fun q => kt q H locs ls a b d) (fun q => kf q H locs ls a b d)
theorem r_sg {τ : DD} {st : List Value} (k : ∀ σ1, σ1 = τ → gW X w L nL Q σ1 pc lv st) : gW X w L nL Q τ pc lv st := k τ rfl
theorem r_topi {x : Int32} (k : ∀ y : Int32, y = x → gW X w L nL Q σ pc lv (.int y :: rest)) : gW X w L nL Q σ pc lv (.int x :: rest) := k x rfl
theorem r_topl {x : Int64} (k : ∀ y : Int64, y = x → gW X w L nL Q σ pc lv (.long y :: rest)) : gW X w L nL Q σ pc lv (.long x :: rest) := k x rfl
theorem r_tabK (C : CF X w L nL cc own rt cw rm) {dflt lo hi : Int} {offs : Array Int} {len : Nat} {x : Int32} (k : Int32) (hx : x = k) {off : Int} {tgt : Nat} (hk : (¬ k.toInt < lo ∧ ¬ hi < k.toInt) ∧ offs[(k.toInt - lo).toNat]? = some off ∧ (pc : Int) + off = (tgt : Int)) (hd : decode cc pc = .ok (.tableswitch dflt lo hi offs, len)) (kk : gW X w L nL Q σ tgt lv rest) : gW X w L nL Q σ pc lv (.int x :: rest) := by
  subst hx
  exact fun H locs ls a b d => lv_tableIn C.1 C.2.1 hd hk.1.1 hk.1.2 hk.2.1 hk.2.2 (kk H locs ls a b d)
theorem r_tabD (C : CF X w L nL cc own rt cw rm) {dflt lo hi : Int} {offs : Array Int} {len : Nat} {x : Int32} {tgt : Nat} (hd : decode cc pc = .ok (.tableswitch dflt lo hi offs, len)) (hx : x.toInt < lo ∨ hi < x.toInt) (ht : (pc : Int) + dflt = (tgt : Int)) (kk : gW X w L nL Q σ tgt lv rest) : gW X w L nL Q σ pc lv (.int x :: rest) := fun H locs ls a b d => lv_tableOut C.1 C.2.1 hd hx ht (kk H locs ls a b d)
theorem tab_out {x : Int32} {lo hi : Int} (h : ∀ k : Int, lo ≤ k → k ≤ hi → ¬ x = Int32.ofInt k) : x.toInt < lo ∨ hi < x.toInt := by
  rcases Int.lt_or_le x.toInt lo with a | a
  · exact Or.inl a
  · rcases Int.lt_or_le hi x.toInt with b | b
    · exact Or.inr b
    · exact absurd (Int32.ofInt_toInt x).symm (h _ a b)
end RWS
