/-! ===== rows for the class: tables, strings, references that may be null, copying, Math ===== -/
def strIx : Nat → Nat
  | 0 => 94 | 1 => 137 | 2 => 135 | 3 => 122 | 4 => 155 | 5 => 157 | 6 => 103 | 7 => 113 | 8 => 108 | _ => 85
def strTx : Nat → String
  | 0 => "lasts takes bars" | 1 => "not" | 2 => "and" | 3 => "or" | 4 => "act length term binds reader class weekday mood" | 5 => "day held done last since voice" | 6 => "read wait" | 7 => "by" | 8 => "times" | _ => "if"
def strLen : List Nat := [16, 3, 3, 2, 47, 30, 9, 2, 5, 2]
def strByt : List (List Int32) := [[108, 97, 115, 116, 115, 32, 116, 97, 107, 101, 115, 32, 98, 97, 114, 115], [110, 111, 116], [97, 110, 100], [111, 114], [97, 99, 116, 32, 108, 101, 110, 103, 116, 104, 32, 116, 101, 114, 109, 32, 98, 105, 110, 100, 115, 32, 114, 101, 97, 100, 101, 114, 32, 99, 108, 97, 115, 115, 32, 119, 101, 101, 107, 100, 97, 121, 32, 109, 111, 111, 100], [100, 97, 121, 32, 104, 101, 108, 100, 32, 100, 111, 110, 101, 32, 108, 97, 115, 116, 32, 115, 105, 110, 99, 101, 32, 118, 111, 105, 99, 101], [114, 101, 97, 100, 32, 119, 97, 105, 116], [98, 121], [116, 105, 109, 101, 115], [105, 102]]
def sLen (i : Nat) : Int32 := Int32.ofNat (strLen.getD i 0)
def sByt (i j : Nat) : Int32 := (strByt.getD i []).getD j 0
def tabNm : Nat → String
  | 0 => "LOWEST_TRAIT" | 1 => "HIGHEST_TRAIT" | 2 => "LOWEST_TERM" | _ => "HIGHEST_TERM"
def tabN : Nat → Nat
  | 0 => 3 | 1 => 3 | 2 => 4 | _ => 4
def tabL : Nat → List Int32
  | 0 => [1, 1, 1] | 1 => [60, 30, 63] | 2 => [0, 0, 1, 0] | _ => [999, 10, 60, 9]
def tabV (n j : Nat) : Int32 := (tabL n).getD j 0
abbrev EXa : Type := (Nat → Nat) × (Nat → Nat) × (Nat → Nat)
def EX (A : Nat → Prop) (z : EXa) (U : State) (H : Heap) : Prop :=
  (∀ n, n < 4 → va_Z "FadingActs$Realm" (tabNm n) "[I" (.ref (z.1 n)) A U H ∧ va_T .int (z.1 n) (tabN n) (fun j => .int (tabV n j)) A U H) ∧
  va_Z "java/lang/String" "COMPACT_STRINGS" "Z" (.int 1) A U H ∧ va_Zq "jdk/internal/util/Preconditions" "SIOOBE_FORMATTER" "Ljava/util/function/BiFunction;" A U H ∧
  vk_S 10 strLen strByt z.2.1 z.2.2 A U H ∧ (∀ i, i < 10 → vk_R "FadingActs$Parser" (strIx i) (strTx i) (z.2.1 i) U) ∧ va_Nw (.castable "[I" "java/lang/Cloneable") U
theorem EX.moved {A : Nat → Prop} {z : EXa} {u U : State} {H : Heap} (hv : U.vm = u.vm ∨ u.WarmedH U.vm) (h : EX A z u H) : EX A z U H := by
  have ha : u.vm.Alike U.vm := by
    rcases hv with q | q
    · rw [q]; exact Vm.Alike.refl _
    · exact q.alike
  obtain ⟨h1, h2, h3, h4, h5, h6⟩ := h
  refine ⟨fun n hn => ⟨va_Z.moved ha (h1 n hn).1, va_T.moved ha (h1 n hn).2⟩, va_Z.moved ha h2, va_Zq.moved ha h3, vk_S.moved ha h4, fun i hi => ?_, ?_⟩
  · rcases hv with q | q
    · exact vk_R.same q (h5 i hi)
    · exact vk_R.warm q (h5 i hi)
  · rcases hv with q | q
    · exact va_Nw.same rfl q.symm h6
    · exact va_Nw.warmC q h6
theorem EX.kept {A : Nat → Prop} {z : EXa} {U : State} {H H1 : Heap} (hq : ∀ a : Nat, a < H.size → ¬ A a → H1[a]? = H[a]?) (h : EX A z U H) : EX A z U H1 := by
  obtain ⟨h1, h2, h3, h4, h5, h6⟩ := h
  exact ⟨fun n hn => ⟨(h1 n hn).1.kept hq, (h1 n hn).2.kept hq⟩, h2.kept hq, h3.kept hq, h4.kept hq, h5, h6⟩
/-- texts, by the number of the object: how long its code, its heads -/
abbrev TXT : Type := Nat → Option (Nat × Nat)
def rfT (t : Nat) : Nat → Option Nat := fun k => match k with
  | 2 => some (t + 3)
  | 3 => some (t + 4)
  | _ => none
def isT (w : WO) (t n1 n2 : Nat) : Prop := wLy w t = some (lO 8 (rfT t) 4) ∧ wLy w (t + 3) = some (lI 0 n1) ∧ wLy w (t + 4) = some (lI 0 n2)
def rfR (b : Nat) : Nat → Option Nat := fun k => match k with
  | 1 => some (b + 2)
  | 2 => some (b + 3)
  | 4 => some (b + 5)
  | 5 => some (b + 6)
  | 6 => some (b + 7)
  | 7 => some (b + 8)
  | 9 => some (b + 10)
  | 10 => some (b + 11)
  | 11 => some (b + 12)
  | 13 => some (b + 14)
  | 14 => some (b + 15)
  | 15 => some (b + 16)
  | 16 => some (b + 17)
  | 18 => some (b + 19)
  | _ => none
def LR (b : Nat) : Nat → Option LY := fun k => match k with
  | 0 => some (lO 5 (rfR b) 20)
  | 2 => some (lI 0 32)
  | 3 => some (lI 0 8)
  | 5 => some (lI 0 4)
  | 6 => some (lI 0 4)
  | 7 => some (lI 0 7)
  | 8 => some (lI 0 4)
  | 10 => some (lI 0 84)
  | 11 => some (lI 0 84)
  | 12 => some (lI 0 84)
  | 14 => some (lI 0 8)
  | 15 => some (lI 0 8)
  | 16 => some (lI 0 8)
  | 17 => some (lI 0 8)
  | 19 => some (lQ 4 6)
  | _ => none
def LyR (w : WO) (b : Nat) : Prop := ∀ k y, LR b k = some y → wLy w (b + k) = some y
def oV (w : WO) (r : Option Nat) : Value := match r with
  | none => .null
  | some t => .ref (wAd w t)
theorem oV_rf (w : WO) (r : Option Nat) : va_rf (r.map (wAd w)) = oV w r := by cases r <;> rfl
abbrev wQo (w : WO) (post : Option Nat → DD → Prop) : Array Value → State → Outcome → State → Prop := va_Qq (fun r σ => ∃ r0 : Option Nat, r = r0.map (wAd w) ∧ post r0 σ) (wB w) (wA w)
abbrev QO (X : CT) (w : WO) (post : Option Nat → DD → Prop) : State → Prop := MQ X.below (wQo w post) X.args X.s 0 0 (wA w)
abbrev MO (l : Launch) (w : WO) (y : MethodName) (cc : ByteArray) (nL : Nat) (rt : FieldType) (rm : Room) (σ : DD) (av : List Value) (post : Option Nat → DD → Prop) : Prop := Met l y (.code y cc nL (some rt) :: TT) rm (wP w σ av) (wQo w post) 0 0 (wA w)
/-- n ints of o1 from sp on, laid into o2 from dp on -/
def cpI (σ : DD) (o1 o2 sp dp n : Nat) : DD := (fun a b => if a = o2 ∧ dp ≤ b ∧ b < dp + n then σ.1 o1 (sp + (b - dp)) else σ.1 a b, σ.2.1, σ.2.2)
theorem gI_cpI_up {σ : DD} {o1 o2 sp dp n : Nat} : gI (cpI σ o1 o2 sp dp n) o2 = va_cpy (gI σ o1) (gI σ o2) sp dp n := by funext j; simp [gI, cpI, va_cpy]
theorem gI_cpI_ne {σ : DD} {o1 o2 sp dp n o' : Nat} (h : o' ≠ o2) : gI (cpI σ o1 o2 sp dp n) o' = gI σ o' := by funext j; simp [gI, cpI, h]
theorem cel_cpI {w : WO} {σ : DD} {o1 o2 sp dp n : Nat} : ∀ o' y', o' ≠ o2 → celV w (cpI σ o1 o2 sp dp n) o' y' = celV w σ o' y' := by
  intro o' y' h
  rcases y' with ⟨ci, rf, N⟩ | ⟨t, m⟩ | m | ⟨t, m⟩ | ⟨ci, fs⟩
  · simp only [celV]
    congr 2
    apply List.map_congr_left
    intro j _
    cases hr : rf j with
    | none => simp only [fldV]; rw [gI_cpI_ne h]
    | some q => rfl
  · simp only [celV, gI_cpI_ne h]
  · rfl
  · rfl
  · rfl
def jmin (x y : Int32) : Int32 := if y < x then y else x
def jmax (x y : Int32) : Int32 := if x < y then y else x
def jlmin (x y : Int64) : Int64 := if y < x then y else x
def jlmax (x y : Int64) : Int64 := if y < x then x else y
def i2c (x : Int32) : Int32 := (x.toUInt32 % 65536).toInt32
/-- what a char's, a byte's answer must be -/
def cz (v : Int32) : Prop := narrow .char (.int v) = .int v
def cb (v : Int32) : Prop := narrow .byte (.int v) = .int v
/-- a method of another class's object -/
def CJ (own : String) (index : Nat) (y : MethodName) (bytes : ByteArray) (maxL : Nat) (ret : Option FieldType) (n : Nat) : Prop := Cond.methodLink own index y ∈ TT ∧ Cond.instanceMethod y ∈ TT ∧ Cond.selects y.cls y y ∈ TT ∧ Cond.initialized y.cls ∈ TT ∧ Cond.code y bytes maxL ret ∈ TT ∧ (y.cls ≠ "java/lang/invoke/MethodHandle" ∧ y.cls ≠ "java/lang/invoke/VarHandle" ∧ (parseMethodDescriptor y.desc).map (fun d => d.parameters.length) = some n)
theorem cj_good {own : String} {ix maxL n : Nat} {y : MethodName} {bytes : ByteArray} {ret : Option FieldType} {cw : Cond} (h : CJ own ix y bytes maxL ret n) : GoodIn (cw :: TT) (wsV own ix y.cls y (.code y bytes maxL ret :: TT)) := by
  obtain ⟨h1, h2, h3, h4, h5, -⟩ := h
  intro t ht
  have key : t ∈ TT → t ∈ cw :: TT ∧ ((t.onTables && t.keeps) = true ∨ ∃ ty, t = .arrayClass ty) := fun q => ⟨List.mem_cons_of_mem _ q, tt_good q⟩
  simp only [wsV, List.cons_append, List.nil_append, List.mem_cons] at ht
  rcases ht with rfl | rfl | rfl | rfl | rfl | ht
  · exact key h1
  · exact key h2
  · exact key h3
  · exact key h4
  · exact key h5
  · exact key ht
section RWX
variable {X : CT} {w : WO} {L : LIM} {nL : Nat} {Q : State → Prop} {σ : DD} {pc : Nat} {lv lv' : List (Nat × Value)} {rest st : List Value} {cc : ByteArray} {own : String} {rt : Option FieldType} {cw : Cond} {rm : Room} {z : EXa}
theorem CF.zL {C0 n d : String} {v : Value} (C : CF X w L nL cc own rt cw rm) (h : va_Z C0 n d v (wA w) X.s X.s.heap) : va_Z C0 n d v L.1 X.s X.s.heap := by
  obtain ⟨cf, kf, fi, f, a, cell, h1, h2, h3, h4, h5, h6, h7, h8⟩ := h
  exact ⟨cf, kf, fi, f, a, cell, h1, h2, h3, h4, h5, h6, h7, fun q => h8 (C.lim2 a (Array.getElem?_eq_some_iff.mp h5).1 q)⟩
theorem CF.tL {ty : FieldType} {t N : Nat} {f : Nat → Value} (C : CF X w L nL cc own rt cw rm) (h : va_T ty t N f (wA w) X.s X.s.heap) : va_T ty t N f L.1 X.s X.s.heap := by
  obtain ⟨cell, h1, h2, h3, h4, h5, h6, h7⟩ := h
  exact ⟨cell, h1, h2, h3, h4, h5, h6, fun q => h7 (C.lim2 t (Array.getElem?_eq_some_iff.mp h1).1 q)⟩
theorem CF.oL {o n d : String} {v : Value} {t : Nat} (C : CF X w L nL cc own rt cw rm) (h : va_OF o n d v t (wA w) X.s X.s.heap) : va_OF o n d v t L.1 X.s X.s.heap := by
  obtain ⟨cf, k, i, f, cell, h1, h2, h3, h4, h5, h6⟩ := h
  exact ⟨cf, k, i, f, cell, h1, h2, h3, h4, h5, fun q => h6 (C.lim2 t (Array.getElem?_eq_some_iff.mp h3).1 q)⟩
theorem CF.pL {E : String} {t : Nat} (C : CF X w L nL cc own rt cw rm) (h : va_O E t (wA w) X.s X.s.heap) : va_O E t L.1 X.s X.s.heap := by
  obtain ⟨cell, h1, h2, h3, h4⟩ := h
  exact ⟨cell, h1, h2, h3, fun q => h4 (C.lim2 t (Array.getElem?_eq_some_iff.mp h1).1 q)⟩
theorem r_getsT (C : CF X w L nL cc own rt cw rm) (hE : EX (wA w) z X.s X.s.heap) (n : Nat) (hn : n < 4) {ix : Nat} (hl : Cond.fieldLink own ix "FadingActs$Realm" (tabNm n) "[I" ∈ TT) (hd : decode cc pc = .ok (.getstatic ix, 3)) (kk : gW X w L nL Q σ (pc + 3) lv (.ref (z.1 n) :: rest)) : gW X w L nL Q σ pc lv rest := fun H locs ls a b d => va_gets C.1 C.2.1 (C.zL (hE.1 n hn).1) b C.2.2.2.1 (C.wd hl) (fun _ q => q) hd (kk H locs ls a b d)
theorem r_tbld (C : CF X w L nL cc own rt cw rm) (hE : EX (wA w) z X.s X.s.heap) (n : Nat) (hn : n < 4) {i : Int32} (hin : vp_in i (tabN n)) (hd : decode cc pc = .ok (.iaload, 1)) (kk : gW X w L nL Q σ (pc + 1) lv (.int (tabV n i.toNatClampNeg) :: rest)) : gW X w L nL Q σ pc lv (.int i :: .ref (z.1 n) :: rest) := fun H locs ls a b d => va_ti C.1 C.2.1 (C.tL (hE.1 n hn).2) b hin rfl hd (kk H locs ls a b d)
theorem r_tblen (C : CF X w L nL cc own rt cw rm) (hE : EX (wA w) z X.s X.s.heap) (n : Nat) (hn : n < 4) (v : Int32) (hv : Int32.ofNat (tabN n) = v) (hd : decode cc pc = .ok (.arraylength, 1)) (kk : gW X w L nL Q σ (pc + 1) lv (.int v :: rest)) : gW X w L nL Q σ pc lv (.ref (z.1 n) :: rest) := fun H locs ls a b d => va_tlen C.1 C.2.1 (C.tL (hE.1 n hn).2) b hv hd (kk H locs ls a b d)
theorem r_ldcS (C : CF X w L nL cc own rt cw rm) (hE : EX (wA w) z X.s X.s.heap) (ho : own = "FadingActs$Parser") (i : Nat) (hi : i < 10) {ix : Nat} (hx : strIx i = ix) (hd : decode cc pc = .ok (.ldc ix, 2)) (kk : gW X w L nL Q σ (pc + 2) lv (.ref (z.2.1 i) :: rest)) : gW X w L nL Q σ pc lv rest := by
  subst ho; subst hx
  exact fun H locs ls a b d => va_ldcS C.1 C.2.1 C.2.2.2.1 (hE.2.2.2.2.1 i hi) hd (kk H locs ls a b d)
theorem r_sgV (C : CF X w L nL cc own rt cw rm) (hE : EX (wA w) z X.s X.s.heap) (i : Nat) (hi : i < 10) {ix : Nat} (hl : Cond.fieldLink own ix "java/lang/String" "value" "[B" ∈ TT) (hd : decode cc pc = .ok (.getfield ix, 3)) (kk : gW X w L nL Q σ (pc + 3) lv (.ref (z.2.2 i) :: rest)) : gW X w L nL Q σ pc lv (.ref (z.2.1 i) :: rest) := fun H locs ls a b d => vk_getf C.1 C.2.1 (C.oL (hE.2.2.2.1.1 i hi).2.2.1) b C.2.2.2.1 (C.wd hl) (fun _ q => q) hd (kk H locs ls a b d)
theorem r_sgC (C : CF X w L nL cc own rt cw rm) (hE : EX (wA w) z X.s X.s.heap) (i : Nat) (hi : i < 10) {ix : Nat} (hl : Cond.fieldLink own ix "java/lang/String" "coder" "B" ∈ TT) (hd : decode cc pc = .ok (.getfield ix, 3)) (kk : gW X w L nL Q σ (pc + 3) lv (.int 0 :: rest)) : gW X w L nL Q σ pc lv (.ref (z.2.1 i) :: rest) := fun H locs ls a b d => vk_getf C.1 C.2.1 (C.oL (hE.2.2.2.1.1 i hi).2.1) b C.2.2.2.1 (C.wd hl) (fun _ q => q) hd (kk H locs ls a b d)
theorem r_slen (C : CF X w L nL cc own rt cw rm) (hE : EX (wA w) z X.s X.s.heap) (i : Nat) (hi : i < 10) (hd : decode cc pc = .ok (.arraylength, 1)) (kk : gW X w L nL Q σ (pc + 1) lv (.int (sLen i) :: rest)) : gW X w L nL Q σ pc lv (.ref (z.2.2 i) :: rest) := fun H locs ls a b d => va_tlen C.1 C.2.1 (C.tL (hE.2.2.2.1.1 i hi).2.2.2) b rfl hd (kk H locs ls a b d)
theorem r_sbald (C : CF X w L nL cc own rt cw rm) (hE : EX (wA w) z X.s X.s.heap) (i : Nat) (hi : i < 10) {j : Int32} (hin : vp_in j (strLen.getD i 0)) (hd : decode cc pc = .ok (.baload, 1)) (kk : gW X w L nL Q σ (pc + 1) lv (.int (sByt i j.toNatClampNeg) :: rest)) : gW X w L nL Q σ pc lv (.int j :: .ref (z.2.2 i) :: rest) := fun H locs ls a b d => va_tb C.1 C.2.1 (C.tL (hE.2.2.2.1.1 i hi).2.2.2) b hin rfl hd (kk H locs ls a b d)
theorem r_getsC (C : CF X w L nL cc own rt cw rm) (hE : EX (wA w) z X.s X.s.heap) {ix : Nat} (hl : Cond.fieldLink own ix "java/lang/String" "COMPACT_STRINGS" "Z" ∈ TT) (hd : decode cc pc = .ok (.getstatic ix, 3)) (kk : gW X w L nL Q σ (pc + 3) lv (.int 1 :: rest)) : gW X w L nL Q σ pc lv rest := fun H locs ls a b d => va_gets C.1 C.2.1 (C.zL hE.2.1) b C.2.2.2.1 (C.wd hl) (fun _ q => q) hd (kk H locs ls a b d)
theorem r_getsQ (C : CF X w L nL cc own rt cw rm) (hE : EX (wA w) z X.s X.s.heap) {ix : Nat} (hl : Cond.fieldLink own ix "jdk/internal/util/Preconditions" "SIOOBE_FORMATTER" "Ljava/util/function/BiFunction;" ∈ TT) (hd : decode cc pc = .ok (.getstatic ix, 3)) (kk : ∀ v : Value, (v = .null ∨ ∃ t, v = .ref t) → gW X w L nL Q σ (pc + 3) lv (v :: rest)) : gW X w L nL Q σ pc lv rest := fun H locs ls a b d => by
  rcases hE.2.2.1 with q | ⟨t, q⟩
  · exact va_gets C.1 C.2.1 (C.zL q) b C.2.2.2.1 (C.wd hl) (fun _ q => q) hd (kk .null (Or.inl rfl) H locs ls a b d)
  · exact va_gets C.1 C.2.1 (C.zL q) b C.2.2.2.1 (C.wd hl) (fun _ q => q) hd (kk (.ref t) (Or.inr ⟨t, rfl⟩) H locs ls a b d)
theorem r_ldc_w (C : CF X w L nL cc own rt cw rm) {ix : Nat} {v : Int32} (hc : Cond.constant own ix v ∈ TT) (hd : decode cc pc = .ok (.ldc_w ix, 3)) (k : gW X w L nL Q σ (pc + 3) lv (.int v :: rest)) : gW X w L nL Q σ pc lv rest := fun H locs ls a b d => lv_ldcw C.1 C.2.1 C.2.2.2.1 (C.wd hc) hd (k H locs ls a b d)
theorem r_i2c (C : CF X w L nL cc own rt cw rm) {x : Int32} (hd : decode cc pc = .ok (.i2c, 1)) (k : gW X w L nL Q σ (pc + 1) lv (.int (i2c x) :: rest)) : gW X w L nL Q σ pc lv (.int x :: rest) := fun H locs ls a b d => lv_i2c C.1 C.2.1 hd rfl (k H locs ls a b d)
theorem r_nret (C : CF X w (lim0 w) nL cc own rt cw rm) {ty : FieldType} (ht : rt = some ty) {post : Int32 → DD → Prop} {v : Int32} (hz : narrow ty (.int v) = .int v) (h : post v σ) (hd : decode cc pc = .ok (.ireturn, 1)) : gW X w (lim0 w) nL (QI X w post) σ pc lv [.int v] := fun H locs ls a b d => by
  subst ht
  exact W.zret C.1 C.2.1 C.rty hz (fun t ht hW => ⟨⟨v, σ, rfl, h, by rw [ht]; exact a, KK.moved hW.alike C.kk⟩, b.F ht⟩) (fun q hq => b.2.2 q hq) hd C.lk
/-! null or not -/
theorem r_null (C : CF X w L nL cc own rt cw rm) (hd : decode cc pc = .ok (.aconst_null, 1)) (k : gW X w L nL Q σ (pc + 1) lv (.null :: rest)) : gW X w L nL Q σ pc lv rest := fun H locs ls a b d => lv_null C.1 C.2.1 hd (k H locs ls a b d)
theorem r_ifnonnull (C : CF X w L nL cc own rt cw rm) {x : Nat} {off : Int} (tgt : Nat) (ht : (pc : Int) + off = (tgt : Int)) (hd : decode cc pc = .ok (.ifnonnull off, 3)) (k : gW X w L nL Q σ tgt lv rest) : gW X w L nL Q σ pc lv (.ref x :: rest) := fun H locs ls a b d => lv_ifnonnull C.1 C.2.1 hd ht (k H locs ls a b d)
theorem r_ifnonnullN (C : CF X w L nL cc own rt cw rm) {off : Int} (hd : decode cc pc = .ok (.ifnonnull off, 3)) (k : gW X w L nL Q σ (pc + 3) lv rest) : gW X w L nL Q σ pc lv (.null :: rest) := fun H locs ls a b d => lv_ifnonnullN C.1 C.2.1 hd (k H locs ls a b d)
theorem r_ifnull (C : CF X w L nL cc own rt cw rm) {x : Nat} {off : Int} (hd : decode cc pc = .ok (.ifnull off, 3)) (k : gW X w L nL Q σ (pc + 3) lv rest) : gW X w L nL Q σ pc lv (.ref x :: rest) := fun H locs ls a b d => lv_ifnull C.1 C.2.1 hd (k H locs ls a b d)
theorem r_ifnullN (C : CF X w L nL cc own rt cw rm) {off : Int} (tgt : Nat) (ht : (pc : Int) + off = (tgt : Int)) (hd : decode cc pc = .ok (.ifnull off, 3)) (k : gW X w L nL Q σ tgt lv rest) : gW X w L nL Q σ pc lv (.null :: rest) := fun H locs ls a b d => lv_ifnullN C.1 C.2.1 hd ht (k H locs ls a b d)
theorem r_aloadN (C : CF X w L nL cc own rt cw rm) {j : Nat} (i : Nat) (hl : lv[i]? = some (j, .null)) (hd : decode cc pc = .ok (.aload j, 2)) (k : gW X w L nL Q σ (pc + 2) lv (.null :: rest)) : gW X w L nL Q σ pc lv rest := fun H locs ls a b d => lv_aloadN C.1 C.2.1 hd (lv_at d i hl) (k H locs ls a b d)
theorem r_aload_nN (C : CF X w L nL cc own rt cw rm) {j : Fin 4} (i : Nat) (hl : lv[i]? = some ((j : Nat), .null)) (hd : decode cc pc = .ok (.aload_n j, 1)) (k : gW X w L nL Q σ (pc + 1) lv (.null :: rest)) : gW X w L nL Q σ pc lv rest := fun H locs ls a b d => lv_aload_nN C.1 C.2.1 hd rfl (lv_at d i hl) (k H locs ls a b d)
theorem r_astoreO (C : CF X w L nL cc own rt cw rm) {j : Nat} {r : Option Nat} (lv' : List (Nat × Value)) (hl : (j, oV w r) :: lv.filter (fun q => !(q.1 == j) && !(q.1 + 1 == j && q.2.category == 2)) = lv') (hn : Nat.blt j nL = true) (hd : decode cc pc = .ok (.astore j, 2)) (k : gW X w L nL Q σ (pc + 2) lv' rest) : gW X w L nL Q σ pc lv (oV w r :: rest) := fun H locs ls a b d => by
  cases r with
  | none => exact lv_astoreN C.1 C.2.1 hd d (Nat.le_of_ble_eq_true hn) hl (fun ls2 d2 => k H locs ls2 a b d2)
  | some t => exact lv_astore C.1 C.2.1 hd d (Nat.le_of_ble_eq_true hn) hl (fun ls2 d2 => k H locs ls2 a b d2)
theorem r_astore_nO (C : CF X w L nL cc own rt cw rm) {j : Fin 4} {r : Option Nat} (lv' : List (Nat × Value)) (hl : ((j : Nat), oV w r) :: lv.filter (fun q => !(q.1 == (j : Nat)) && !(q.1 + 1 == (j : Nat) && q.2.category == 2)) = lv') (hn : Nat.blt (j : Nat) nL = true) (hd : decode cc pc = .ok (.astore_n j, 1)) (k : gW X w L nL Q σ (pc + 1) lv' rest) : gW X w L nL Q σ pc lv (oV w r :: rest) := fun H locs ls a b d => by
  cases r with
  | none => exact lv_astore_nN C.1 C.2.1 hd rfl d (Nat.le_of_ble_eq_true hn) hl (fun ls2 d2 => k H locs ls2 a b d2)
  | some t => exact lv_astore_n C.1 C.2.1 hd rfl d (Nat.le_of_ble_eq_true hn) hl (fun ls2 d2 => k H locs ls2 a b d2)
theorem r_aald (C : CF X w L nL cc own rt cw rm) (o : Nat) {t n : Nat} (hy : wLy w o = some (lQ t n)) (ht : t = 4 ∨ t = 5) {i : Int32} (hin : vp_in i n) (hd : decode cc pc = .ok (.aaload, 1)) (kk : gW X w L nL Q σ (pc + 1) lv (oV w (gR σ o i.toNatClampNeg) :: rest)) : gW X w L nL Q σ pc lv (.int i :: .ref (wAd w o) :: rest) := fun H locs ls a b d => by
  rcases ht with rfl | rfl
  · refine va_aldq C.1 C.2.1 C.kk.1 (wd_one a hy) 0 4 rfl rfl hin hd ?_
    rw [oV_rf]; exact kk H locs ls a b d
  · refine va_aldq C.1 C.2.1 C.kk.1 (wd_one a hy) 0 5 rfl rfl hin hd ?_
    rw [oV_rf]; exact kk H locs ls a b d
theorem r_aastN (C : CF X w L nL cc own rt cw rm) (hF : wFl w) (o : Nat) {t n : Nat} (hy : wLy w o = some (lQ t n)) (ht : t = 4 ∨ t = 5) {i : Int32} (hin : vp_in i n) (hd : decode cc pc = .ok (.aastore, 1)) (kk : gW X w L nL Q (sR σ o i.toNatClampNeg none) (pc + 1) lv rest) : gW X w L nL Q σ pc lv (.null :: .int i :: .ref (wAd w o) :: rest) := fun H locs ls a b d => by
  have key : ∀ {C0 : String}, ArrOfT X.s (wCa w t) (.object C0) → W X.p X.l X.e X.R X.s X.m X.args X.below X.meth X.c H locs L.2.1 L.2.2 Q (F0 X.m pc ls (.null :: .int i :: .ref (wAd w o) :: rest)) := by
    intro C0 harr
    refine va_WaastN (C := C0) C.1 C.2.1 (a.1 o _ hy) (harr n (fun j => va_rf ((gR σ o j).map (wAd w)))) (fun h => by cases h) (arr_in hin) rfl rfl hd fun H1 e z oq => ?_
    refine kk H1 _ ls (wd_set a hy cel_sR ?_ oq) (b.put z oq (C.lim _ (wA_in hy (fun _ => hF)))) d
    show H1[wAd w o]? = some (vp_cell _ _)
    rw [e]
    simp only [gR_sR_up]
    rw [vp_cell_q, vp_cell_q, arrV_store]
    congr 2
    funext q
    by_cases hq : q = i.toNatClampNeg
    · subst hq
      simp [updV, va_up, va_rf]
    · simp [updV, va_up, hq]
  rcases ht with rfl | rfl
  · exact key (C.kk.1.2 4 _ rfl).1
  · exact key (C.kk.1.2 5 _ rfl).1
/-- a text (an object of class 8) into a row of texts; a realm (5) into a row of realms -/
theorem r_aast (C : CF X w L nL cc own rt cw rm) (hF : wFl w) (o v : Nat) {t n ci : Nat} {rf : Nat → Option Nat} {N : Nat} (hy : wLy w o = some (lQ t n)) (hv : wLy w v = some (lO ci rf N)) (ht : t = 4 ∧ ci = 8 ∨ t = 5 ∧ ci = 5) {i : Int32} (hin : vp_in i n) (hd : decode cc pc = .ok (.aastore, 1)) (kk : gW X w L nL Q (sR σ o i.toNatClampNeg (some v)) (pc + 1) lv rest) : gW X w L nL Q σ pc lv (.ref (wAd w v) :: .int i :: .ref (wAd w o) :: rest) := fun H locs ls a b d => by
  have hlt : i.toNatClampNeg < n := Nat.not_le.mp fun q => hin (Or.inr q)
  have h0 : ¬ i < 0 := fun q => hin (Or.inl q)
  have key : ∀ (r : vw_C), cls12[ci]? = some r → va_RA X.s (wCa w t) (.object r.1) → W X.p X.l X.e X.R X.s X.m X.args X.below X.meth X.c H locs L.2.1 L.2.2 Q (F0 X.m pc ls (.ref (wAd w v) :: .int i :: .ref (wAd w o) :: rest)) := by
    intro r hc hRA
    obtain ⟨r', hr', cellV, g1, g2, g3, -⟩ := a.1 v _ hv
    have hcls := (C.kk.1.1 ci r hc).2
    obtain ⟨kA, comp, k1, k2, k3, -⟩ := hRA
    have hcomp : comp = w.1.1 ci := Option.some.inj (k3.symm.trans hcls.1)
    subst hcomp
    obtain ⟨kC, hkC, -⟩ := hcls.2
    refine W.aast C.1 C.2.1 (a.1 o _ hy) (fun q h => by cases h) (fun h => by cases h) k1 k2 rfl hkC ⟨h0, by show _ < (arrV _ _ _).slots.size; rw [arrV_size]; exact hlt⟩ g1 (fun q h => by rw [g3] at h; cases h) (by rw [g2]; exact hkC) (by rw [g2]; exact va_assign hcls) rfl rfl hd fun H1 e z oq => ?_
    refine kk H1 _ ls (wd_set a hy cel_sR ?_ oq) (b.put z oq (C.lim _ (wA_in hy (fun _ => hF)))) d
    show H1[wAd w o]? = some (vp_cell _ _)
    rw [e]
    simp only [gR_sR_up]
    rw [vp_cell_q, vp_cell_q, arrV_store]
    congr 2
    funext q
    by_cases hq : q = i.toNatClampNeg
    · subst hq
      simp [updV, va_up, va_rf]
    · simp [updV, va_up, hq]
  rcases ht with ⟨rfl, rfl⟩ | ⟨rfl, rfl⟩
  · exact key (RX8, TX8, 4) rfl (C.kk.1.2 4 _ rfl).2
  · exact key (RX5, TX5, 20) rfl (C.kk.1.2 5 _ rfl).2
theorem r_aastO (C : CF X w L nL cc own rt cw rm) (hF : wFl w) (o : Nat) {n : Nat} (hy : wLy w o = some (lQ 4 n)) {r : Option Nat} (hr : ∀ t, r = some t → ∃ rf N, wLy w t = some (lO 8 rf N)) {i : Int32} (hin : vp_in i n) (hd : decode cc pc = .ok (.aastore, 1)) (kk : gW X w L nL Q (sR σ o i.toNatClampNeg r) (pc + 1) lv rest) : gW X w L nL Q σ pc lv (oV w r :: .int i :: .ref (wAd w o) :: rest) := by
  cases r with
  | none => exact r_aastN C hF o hy (Or.inl rfl) hin hd kk
  | some t =>
    obtain ⟨rf, N, hv⟩ := hr t rfl
    exact r_aast C hF o t hy hv (Or.inl ⟨rfl, rfl⟩) hin hd kk
theorem r_aretO (C : CF X w (lim0 w) nL cc own rt cw rm) {cn : String} (ht : rt = some (.object cn)) {post : Option Nat → DD → Prop} {r : Option Nat} (h : post r σ) (hd : decode cc pc = .ok (.areturn, 1)) : gW X w (lim0 w) nL (QO X w post) σ pc lv [oV w r] := fun H locs ls a b d => by
  subst ht
  refine W.aret C.1 C.2.1 C.rty (Or.inl ⟨cn, rfl⟩) (by rw [← oV_rf]; exact va_rf_or _) (fun t ht hW => ⟨⟨r.map (wAd w), σ, by rw [oV_rf], ⟨r, rfl, h⟩, by rw [ht]; exact a, KK.moved hW.alike C.kk⟩, b.F ht⟩) (fun q hq => b.2.2 q hq) hd C.lk
theorem r_cvO (C : CF X w L nL cc own rt cw rm) {ix ci maxL n : Nat} {y : MethodName} {bytes : ByteArray} {rt' : FieldType} (hL : CL own ix ci y bytes maxL (some rt') n) {rm' : Room} {post : Option Nat → DD → Prop} (o : Nat) {rf : Nat → Option Nat} {N : Nat} (hy : wLy w o = some (lO ci rf N)) (As : List Value) (hM : MO X.l w y bytes maxL rt' rm' σ (.ref (wAd w o) :: As) post) (hR : rmOk rm' rm maxL) (hn : As.length = n) (hst : st = As.reverse ++ .ref (wAd w o) :: rest) (hW : (rest.map fun v => v.category).sum ≤ 8) (hd : decode cc pc = .ok (.invokevirtual ix, 3)) (kk : ∀ r σ', post r σ' → gW X w L nL Q σ' (pc + 3) lv (oV w r :: rest)) : gW X w L nL Q σ pc lv st := fun H locs ls a b d => by
  subst hst
  obtain ⟨T, N', hc⟩ := hL.1
  have hR' : rm'.frames + 1 ≤ X.R.frames ∧ 8 + (maxL + 11) + rm'.locals ≤ X.R.locals := by rw [C.room]; exact ⟨hR.1, hR.2.1⟩
  exact va_callq (A0 := L.1) (va_runV (As := As) (rest := rest) ⟨C.1, C.2.1, C.2.2.1, C.2.2.2.1, C.2.2.2.2.1⟩ hM (cwV n C.2.2.2.2.1 (cl_good hL) rfl hR.2.2.1 hR.2.2.2 ⟨rfl, hL.2.2.2.2.2.2⟩ hR') ⟨wP_blind, wd_recv C.kk a hc hy, fun U hU hW => ⟨rfl, by rw [hU]; exact a, KK.moved hW.alike C.kk, C.zAt b hU hW⟩⟩ rfl hn d.1 rfl (lv_room hW) hd (by rw [C.room]; exact C.cel)) b (fun q _ h => C.lim q h) (fun q h => C.lim q h) (fun r σ' t H1 locs1 ht hvm hp hB hz hk hS => by
    obtain ⟨r0, rfl, hp⟩ := hp
    rw [oV_rf]
    exact kk r0 σ' hp H1 locs1 ls (by rw [← ht]; exact hB.1) hS d)
/-! strings' own methods -/
theorem r_svI (C : CF X w L nL cc own rt cw rm) (hE : EX (wA w) z X.s X.s.heap) (i : Nat) (hi : i < 10) {ix maxL n : Nat} {y : MethodName} {bytes : ByteArray} {rt' : FieldType} (hL : CJ own ix y bytes maxL (some rt') n) (hyc : y.cls = "java/lang/String") {rm' : Room} {post : Int32 → DD → Prop} (As : List Value) (hM : MI X.l w y bytes maxL rt' rm' σ (.ref (z.2.1 i) :: As) post) (hR : rmOk rm' rm maxL) (hn : As.length = n) (hst : st = As.reverse ++ .ref (z.2.1 i) :: rest) (hW : (rest.map fun v => v.category).sum ≤ 8) (hd : decode cc pc = .ok (.invokevirtual ix, 3)) (kk : ∀ r σ', post r σ' → gW X w L nL Q σ' (pc + 3) lv (.int r :: rest)) : gW X w L nL Q σ pc lv st := fun H locs ls a b d => by
  subst hst
  have hR' : rm'.frames + 1 ≤ X.R.frames ∧ 8 + (maxL + 11) + rm'.locals ≤ X.R.locals := by rw [C.room]; exact ⟨hR.1, hR.2.1⟩
  have hrecv : ∃ cell : Cell, H[z.2.1 i]? = some cell ∧ cell.vm.isStatics = false ∧ X.s.vm.findClass y.cls = some cell.cls := by
    obtain ⟨cell, h1, h2, h3, -⟩ := (C.pL (hE.2.2.2.1.1 i hi).1).kept b.2.1
    exact ⟨cell, h1, h2, by rw [hyc]; exact h3⟩
  exact va_calli (A0 := L.1) (va_runV (As := As) (rest := rest) ⟨C.1, C.2.1, C.2.2.1, C.2.2.2.1, C.2.2.2.2.1⟩ hM (cwV n C.2.2.2.2.1 (cj_good hL) rfl hR.2.2.1 hR.2.2.2 ⟨rfl, hL.2.2.2.2.2⟩ hR') ⟨wP_blind, hrecv, fun U hU hW => ⟨rfl, by rw [hU]; exact a, KK.moved hW.alike C.kk, C.zAt b hU hW⟩⟩ rfl hn d.1 rfl (lv_room hW) hd (by rw [C.room]; exact C.cel)) b (fun q _ h => C.lim q h) (fun q h => C.lim q h) (fun r σ' t H1 locs1 ht hvm hp hB hz hk hS => kk r σ' hp H1 locs1 ls (by rw [← ht]; exact hB.1) hS d)
theorem r_csL (C : CF X w L nL cc own rt cw rm) {ix maxL n : Nat} {y : MethodName} {bytes : ByteArray} (hL : CS own ix y bytes maxL (some .long) n) {rm' : Room} {post : Int64 → DD → Prop} (As : List Value) (hM : ML X.l w y bytes maxL rm' σ As post) (hR : rmOk rm' rm maxL) (hn : As.length = n) (hst : st = As.reverse ++ rest) (hW : (rest.map fun v => v.category).sum ≤ 8) (hd : decode cc pc = .ok (.invokestatic ix, 3)) (kk : ∀ r σ', post r σ' → gW X w L nL Q σ' (pc + 3) lv (.long r :: rest)) : gW X w L nL Q σ pc lv st := fun H locs ls a b d => by
  subst hst
  exact va_calll (A0 := L.1) (va_runS (As := As) (rest := rest) ⟨C.1, C.2.1, C.2.2.1, C.2.2.2.1, C.2.2.2.2.1⟩ hM (cs_B C hL hR) ⟨wP_blind, fun U hU hW => ⟨rfl, by rw [hU]; exact a, KK.moved hW.alike C.kk, C.zAt b hU hW⟩⟩ rfl hn d.1 rfl (lv_room hW) hd (by rw [C.room]; exact C.cel)) b (fun q _ h => C.lim q h) (fun q h => C.lim q h) (fun r σ' t H1 locs1 ht hvm hp hB hz hk hS => kk r σ' hp H1 locs1 ls (by rw [← ht]; exact hB.1) hS d)
theorem r_acopy (C : CF X w L nL cc own rt cw rm) {ix : Nat} (hlk : Cond.methodLink own ix arraycopyName ∈ TT) (hnat : Cond.native arraycopyName ∈ TT) (hsta : Cond.static arraycopyName ∈ TT) (hini : Cond.initialized "java/lang/System" ∈ TT) (o1 o2 : Nat) {n1 n2 : Nat} (hy1 : wLy w o1 = some (lI 0 n1)) (hy2 : wLy w o2 = some (lI 0 n2)) {sp dp n : Int32} (h1 : ¬ sp < 0) (h2 : ¬ dp < 0) (h3 : ¬ n < 0) (h4 : sp.toNatClampNeg + n.toNatClampNeg ≤ n1) (h5 : dp.toNatClampNeg + n.toNatClampNeg ≤ n2) (hfr : 1 ≤ rm.frames) (hlo : (rest.map fun v => v.category).sum + (nativeFrameWords "java/lang/System" "arraycopy" 5 + 11) ≤ rm.locals) (hd : decode cc pc = .ok (.invokestatic ix, 3)) (kk : gW X w L nL Q (cpI σ o1 o2 sp.toNatClampNeg dp.toNatClampNeg n.toNatClampNeg) (pc + 3) lv rest) : gW X w L nL Q σ pc lv (.int n :: .int dp :: .ref (wAd w o2) :: .int sp :: .ref (wAd w o1) :: rest) := fun H locs ls a b d => by
  have nn : ∀ z : Int32, ¬ z < 0 → z.toInt = (z.toNatClampNeg : Int) := by
    intro z hz
    have hz0 : (0 : Int) ≤ z.toInt := by
      have := Int32.not_lt.mp hz
      simpa using Int32.le_iff_toInt_le.mp this
    show z.toInt = ((z.toInt.toNat : Nat) : Int)
    omega
  intro T hT XX
  have hc0 : H[wAd w o1]? = some (vp_cell (wCa w 0) (n1, .inl (gI σ o1))) := a.1 o1 _ hy1
  have hc1 : H[wAd w o2]? = some (vp_cell (wCa w 0) (n2, .inl (gI σ o2))) := a.1 o2 _ hy2
  obtain ⟨-, k0, hk0, cm0, hkk0⟩ := (C.kk.1.2 0 _ rfl).1 n1 (fun j => .int (gI σ o1 j))
  obtain ⟨-, k1, hk1, cm1, hkk1⟩ := (C.kk.1.2 0 _ rfl).1 n2 (fun j => .int (gI σ o2 j))
  obtain ⟨vm', X', step⟩ := XX.arraycopy C.1 C.2.2.2.1 (C.wd hlk) (C.wd hnat) (C.wd hsta) (C.wd hini) (src := wAd w o1) (dst := wAd w o2) (cs := vp_cell (wCa w 0) (n1, .inl (gI σ o1))) (cd := vp_cell (wCa w 0) (n2, .inl (gI σ o2))) (srcPos := sp) (destPos := dp) (n := n) (by rw [hT]; exact hc0) (by rw [hT]; exact hc1)
    (fun _ h => by cases h) (fun _ h => by cases h) (fun h => by cases h) (fun h => by cases h) hk0 hk1 hkk0 hkk1 (by simp [refKind]) h1 h2 h3
    (by rw [nn sp h1, nn n h3]; show ¬ _ > ((arrV _ n1 (fun j => .int (gI σ o1 j))).slots.size : Int); rw [arrV_size]; omega)
    (by rw [nn dp h2, nn n h3]; show ¬ _ > ((arrV _ n2 (fun j => .int (gI σ o2 j))).slots.size : Int); rw [arrV_size]; omega)
    (fun vm₁ _ i hi => by
      have e : (vp_cell (wCa w 0) (n1, .inl (gI σ o1))).slots.getD (sp.toNatClampNeg + i) .null = .int (gI σ o1 (sp.toNatClampNeg + i)) := by
        show (arrV _ n1 (fun j => .int (gI σ o1 j))).slots.getD _ _ = _
        rw [Array.getD_eq_getD_getElem?, arrV_read _ _ (by omega)]
        rfl
      refine ⟨?_, ?_⟩
      · rw [e]; rfl
      · rw [e]; exact trivial)
    (g := F0 X.m pc ls (.int n :: .int dp :: .ref (wAd w o2) :: .int sp :: .ref (wAd w o1) :: rest)) rfl (by rw [C.2.2.1]; exact d.1) (rest := rest) rfl (by rw [C.2.1]; exact hd) (by rw [C.room]; exact hfr) (by rw [C.room]; show 2 * 0 + _ + _ ≤ _; omega)
  have e1 : copied (vp_cell (wCa w 0) (n1, .inl (gI σ o1))) (vp_cell (wCa w 0) (n2, .inl (gI σ o2))) sp dp n = vp_cell (wCa w 0) (n2, .inl (va_cpy (gI σ o1) (gI σ o2) sp.toNatClampNeg dp.toNatClampNeg n.toNatClampNeg)) := va_copied (fun z => .int z) _ _ _ _ h4
  rw [e1] at X' step
  generalize hcell : vp_cell (wCa w 0) (n2, .inl (va_cpy (gI σ o1) (gI σ o2) sp.toNatClampNeg dp.toNatClampNeg n.toNatClampNeg)) = cell at X' step
  have hl : wAd w o2 < H.size := (Array.getElem?_eq_some_iff.mp hc1).1
  have hheap : ((T.setVm vm').setCell (wAd w o2) cell).heap = H.setIfInBounds (wAd w o2) cell := by rw [← hT]; rfl
  have oq : ∀ q : Nat, q ≠ wAd w o2 → (H.setIfInBounds (wAd w o2) cell)[q]? = H[q]? := fun q hq => by simp [Array.getElem?_setIfInBounds, Ne.symm hq]
  obtain ⟨t, a1, b1⟩ := kk (H.setIfInBounds (wAd w o2) cell) _ ls (wd_set a hy2 cel_cpI (by show (H.setIfInBounds (wAd w o2) cell)[wAd w o2]? = some _; simp only [gI_cpI_up]; rw [← hcell]; simp [Array.getElem?_setIfInBounds, hl]) oq) ⟨by simp; exact b.1, fun q g1 g2 => by
      rw [oq q (fun e => g2 (by rw [e]; exact C.lim _ (wA_in hy2)))]
      exact b.2.1 q g1 g2, fun q hq => by
      rcases List.mem_append.mp hq with h | h
      · exact b.2.2 q h
      · obtain ⟨z, -, hz⟩ := List.mem_map.mp h
        rw [← hz]
        exact C.lim _ (wA_in hy2)⟩ d _ hheap X'
  exact ⟨t, step t a1, b1⟩
theorem r_mmin (C : CF X w L nL cc own rt cw rm) {ix : Nat} (h1 : Cond.methodLink own ix Lib.Math.min.name ∈ TT) (h2 : Cond.static Lib.Math.min.name ∈ TT) (h3 : Cond.initialized "java/lang/Math" ∈ TT) (h4 : Cond.code Lib.Math.min.name Lib.Math.min.code 2 (some .int) ∈ TT) (hfr : 1 ≤ rm.frames) (hlo : (rest.map fun v => v.category).sum + 13 ≤ rm.locals) {x y : Int32} (hd : decode cc pc = .ok (.invokestatic ix, 3)) (kk : gW X w L nL Q σ (pc + 3) lv (.int (jmin x y) :: rest)) : gW X w L nL Q σ pc lv (.int y :: .int x :: rest) := fun H locs ls a b d => va_mmin C.1 C.2.1 (C.2.2.1.trans d.1.symm) C.2.2.2.1 (C.wd h1) (C.wd h2) (C.wd h3) (C.wd h4) (by rw [C.room]; exact hfr) (by rw [C.room]; exact hlo) (by rw [C.room]; exact C.cel.1) (by rw [C.room]; exact C.cel.2) hd (kk H locs ls a b d)
theorem r_mmax (C : CF X w L nL cc own rt cw rm) {ix : Nat} (h1 : Cond.methodLink own ix Lib.Math.max.name ∈ TT) (h2 : Cond.static Lib.Math.max.name ∈ TT) (h3 : Cond.initialized "java/lang/Math" ∈ TT) (h4 : Cond.code Lib.Math.max.name Lib.Math.max.code 2 (some .int) ∈ TT) (hfr : 1 ≤ rm.frames) (hlo : (rest.map fun v => v.category).sum + 13 ≤ rm.locals) {x y : Int32} (hd : decode cc pc = .ok (.invokestatic ix, 3)) (kk : gW X w L nL Q σ (pc + 3) lv (.int (jmax x y) :: rest)) : gW X w L nL Q σ pc lv (.int y :: .int x :: rest) := fun H locs ls a b d => va_mmax C.1 C.2.1 (C.2.2.1.trans d.1.symm) C.2.2.2.1 (C.wd h1) (C.wd h2) (C.wd h3) (C.wd h4) (by rw [C.room]; exact hfr) (by rw [C.room]; exact hlo) (by rw [C.room]; exact C.cel.1) (by rw [C.room]; exact C.cel.2) hd (kk H locs ls a b d)
theorem r_lmin (C : CF X w L nL cc own rt cw rm) {ix : Nat} (h1 : Cond.methodLink own ix Lib.MathLoose.min_long.x ∈ TT) (h2 : Cond.static Lib.MathLoose.min_long.x ∈ TT) (h3 : Cond.initialized "java/lang/Math" ∈ TT) (h4 : Cond.code Lib.MathLoose.min_long.x Lib.MathLoose.min_long.code 4 (some .long) ∈ TT) (hfr : 1 ≤ rm.frames) (hlo : (rest.map fun v => v.category).sum + 15 ≤ rm.locals) {x y : Int64} (hd : decode cc pc = .ok (.invokestatic ix, 3)) (kk : gW X w L nL Q σ (pc + 3) lv (.long (jlmin x y) :: rest)) : gW X w L nL Q σ pc lv (.long y :: .long x :: rest) := fun H locs ls a b d => va_mmin_long C.1 C.2.1 (C.2.2.1.trans d.1.symm) C.2.2.2.1 (C.wd h1) (C.wd h2) (C.wd h3) (C.wd h4) (by rw [C.room]; exact hfr) (by rw [C.room]; exact hlo) (by rw [C.room]; exact C.cel.1) (by rw [C.room]; exact C.cel.2) hd (kk H locs ls a b d)
theorem r_lmax (C : CF X w L nL cc own rt cw rm) {ix : Nat} (h1 : Cond.methodLink own ix Lib.MathLoose.max_long.x ∈ TT) (h2 : Cond.static Lib.MathLoose.max_long.x ∈ TT) (h3 : Cond.initialized "java/lang/Math" ∈ TT) (h4 : Cond.code Lib.MathLoose.max_long.x Lib.MathLoose.max_long.code 4 (some .long) ∈ TT) (hfr : 1 ≤ rm.frames) (hlo : (rest.map fun v => v.category).sum + 15 ≤ rm.locals) {x y : Int64} (hd : decode cc pc = .ok (.invokestatic ix, 3)) (kk : gW X w L nL Q σ (pc + 3) lv (.long (jlmax x y) :: rest)) : gW X w L nL Q σ pc lv (.long y :: .long x :: rest) := fun H locs ls a b d => va_mmax_long C.1 C.2.1 (C.2.2.1.trans d.1.symm) C.2.2.2.1 (C.wd h1) (C.wd h2) (C.wd h3) (C.wd h4) (by rw [C.room]; exact hfr) (by rw [C.room]; exact hlo) (by rw [C.room]; exact C.cel.1) (by rw [C.room]; exact C.cel.2) hd (kk H locs ls a b d)
theorem iincM1 (x : Int32) : x + Int32.ofInt (-1) = x + (-1) := congrArg (fun y => x + y) (by decide)
theorem r_topo {r : Option Nat} (k : ∀ y : Option Nat, y = r → gW X w L nL Q σ pc lv (oV w y :: rest)) : gW X w L nL Q σ pc lv (oV w r :: rest) := k r rfl
theorem lo_le {a b q : Nat} (h1 : Nat.ble a b = true) (h2 : b ≤ q) : a ≤ q := Nat.le_trans (Nat.le_of_ble_eq_true h1) h2
end RWX
