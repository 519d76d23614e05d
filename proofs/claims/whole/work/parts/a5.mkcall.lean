/-- a constructor without its pool entry -/
def CN9 (y : MethodName) (bytes : ByteArray) (maxL : Nat) (n : Nat) : Prop := Cond.instanceMethod y ∈ TT ∧ Cond.initialized y.cls ∈ TT ∧ Cond.code y bytes maxL none ∈ TT ∧ y.name = "<init>" ∧ (y.cls ≠ "java/lang/invoke/MethodHandle" ∧ y.cls ≠ "java/lang/invoke/VarHandle" ∧ (parseMethodDescriptor y.desc).map (fun d => d.parameters.length) = some n)
/-! ===== rows of what makes, 2: fields of what is being made, heads, ends, calls ===== -/
section MKC
variable {X : CT} {w w0 : WO} {L : LIM} {A : Nat → Prop} {c0 s0 : Nat} {nL : Nat} {Q : State → Prop} {σ : DD} {pc : Nat} {lv : List (Nat × Value)} {rest st : List Value} {cc : ByteArray} {own : String} {rt : Option FieldType} {cw : Cond} {rm : Room} {b : BZ} {a : Nat}
theorem r_putR (C : CG X w L nL cc own rt cw rm b) (hin2 : X.meth.name = "<init>") {ix ci k N : Nat} {ty : FieldType} (hF : FW own ix ci k N ty) (o : Nat) {fs : List Value} (hy : wLy w o = some (lR ci fs)) (ha : wAd w o = a) {v : Value} (hnr : narrow ty v = v) (hft : fits ty v = true) (hl : k < fs.length) (hd : decode cc pc = .ok (.putfield ix, 3)) (fs' : List Value) (hfs : fs.set k v = fs')
    (kk : CG X (wSet w o (lR ci fs')) L nL cc own rt cw rm b → gW X (wSet w o (lR ci fs')) L nL Q σ (pc + 3) lv rest) : gW X w L nL Q σ pc lv (v :: .ref a :: rest) := fun H locs ls a0 b0 d => by
  subst ha; subst hfs
  have C1 := C.1
  obtain ⟨Cn, T, tyf, hc, hk, hin, hlink, hnm, hty, hte, hf⟩ := hF
  have hin' : ∀ t ∈ u_ws Cn T N, t ∈ cw :: TT := fun t ht => List.mem_cons_of_mem _ (hin t ht)
  have hts := C1.2.2.2.2.1
  have hK := C1.kk.1
  have hap := va_apart (own := own) hts hin' tyf hty hnm hK hc
  obtain ⟨r, h1, cell, q1, q2, q3, q4⟩ := a0.1 o _ hy
  have hr' : r = (Cn, T, N) := Option.some.inj (h1.symm.trans hc)
  subst hr'
  obtain ⟨hS, hfc, kC, hkC, hkind⟩ := hK.1 ci _ hc
  obtain ⟨cf, kf, fi, f, hi, hsl⟩ := hS k hk
  have hlay := hts _ (hin' _ (u_in_lay hk))
  have hst := (u_facts hfc hkC (u_lays hts hin' hk) hi).1
  have fin : ∀ H' : Heap, H'[wAd w o]? = some (cell.setSlot f.slot v) → H'.size = H.size → (∀ q, q ≠ wAd w o → H'[q]? = H[q]?) → W X.p X.l X.e X.R X.s X.m X.args X.below X.meth X.c H' (locs ++ [⟨wAd w o, f.slot⟩]) L.2.1 L.2.2 Q (F0 X.m (pc + 3) ls rest) := by
    intro H' e1 e2 e3
    rw [hsl] at e1 ⊢
    refine kk (C.set hy) H' _ ls (wd_raw a0 hy ⟨_, hc, t_OB.to (V := updV (vp_V fs) k v) ⟨_, e1, q2, q3, t_set q4 hap hk v⟩ (fun j _ => vp_updV_set hl v j)⟩ e3) (b0.put e2 e3 (C1.lim _ (wA_in hy))) d
  rcases hf with hf | ⟨hf, hdecl⟩
  · unfold u_lay at hlay
    rw [if_neg (by rw [hf]; decide)] at hlay
    have h6 := u_store hfc hkC hkind hlay hi (hty k hk) (by rw [hte]; exact hnr) (by rw [hte]; exact hft)
    exact W.putK C1.1 C1.2.1 (f := f) ⟨C1.2.2.2.1, C1.wd hlink, ⟨_, _, _, hi⟩, hst⟩ (by rw [q2]; exact h6) q1 q3 (by rw [hsl]; exact k2_hasslot (q4 k hk)) rfl rfl hd fin
  · unfold u_lay at hlay
    rw [if_pos hf] at hlay
    have hcf : X.m.cls = cf := by
      obtain ⟨_, _, c', _, _, _, -, -, hf', -, -, -, hown2, -⟩ := Cond.laysFinal_spec hlay
      have e1 : c' = cf := by have := hi.symm.trans hf'; simp at this; exact this.1.symm
      rw [hdecl] at hown2
      rw [← e1]; exact Option.some.inj (C1.2.2.2.1.symm.trans hown2)
    have h6 := u_fits hfc hkC hkind (Or.inr hlay) hi (hty k hk) (by rw [hte]; exact hnr) (by rw [hte]; exact hft)
    exact W.putFinK C1.1 C1.2.1 C1.2.2.2.1 (C1.wd hlink) hi hst hcf hin2 (by rw [q2]; exact h6) q1 q3 (by rw [hsl]; exact k2_hasslot (q4 k hk)) rfl rfl hd fin
theorem r_getRw (C : CG X w L nL cc own rt cw rm b) {ix ci k N : Nat} {ty : FieldType} (hF : FW own ix ci k N ty) (o : Nat) {fs : List Value} (hy : wLy w o = some (lR ci fs)) (ha : wAd w o = a) {v : Value} (hv : fs[k]? = some v) (hd : decode cc pc = .ok (.getfield ix, 3)) (kk : gW X w L nL Q σ (pc + 3) lv (v :: rest)) : gW X w L nL Q σ pc lv (.ref a :: rest) := fun H locs ls a0 b0 d => by
  subst ha
  have C1 := C.1
  obtain ⟨Cn, T, tyf, hc, hk, hin, hlink, hnm, hty, hte, hf⟩ := hF
  exact va_get C1.1 C1.2.1 (Ts := cw :: TT) C1.2.2.2.2.1 (fun t ht => List.mem_cons_of_mem _ (hin t ht)) C1.2.2.2.1 C1.kk.1 (wd_one a0 hy) 0 rfl hc k hk (C1.wd hlink) (fun x hx => hx) (v := v) hv hd (kk H locs ls a0 b0 d)
theorem r_objI (C : CG X w L nL cc own rt cw rm b) {ix : Nat} (h1 : Cond.methodLink own ix Lib.objectInit ∈ TT) (h2 : Cond.instanceMethod Lib.objectInit ∈ TT) (h3 : Cond.code Lib.objectInit ⟨#[0xb1]⟩ 1 none ∈ TT) (hfr : 1 ≤ rm.frames) (hlo : (rest.map fun v => v.category).sum + 12 ≤ rm.locals) (hd : decode cc pc = .ok (.invokespecial ix, 3)) (kk : gW X w L nL Q σ (pc + 3) lv rest) : gW X w L nL Q σ pc lv (.ref a :: rest) := fun H locs ls a0 b0 d => by
  have C1 := C.1
  exact W.objInit C1.1 C1.2.1 C1.2.2.2.1 (C1.wd h1) (C1.wd h2) (C1.wd h3) rfl (by rw [C1.2.2.1]; exact d.1) rfl hd (by rw [C1.room]; exact hfr) (by rw [C1.room]; show 2 * 0 + _ + 12 ≤ _; omega) (kk H locs ls a0 b0 d)
theorem r_iastA (C : CG X w L nL cc own rt cw rm b) (o : Nat) {n : Nat} (hy : wLy w o = some (lI 0 n)) (ha : wAd w o = a) {i x : Int32} {k : Nat} (hk : i.toNatClampNeg = k) (hin : vp_in i n) (hd : decode cc pc = .ok (.iastore, 1)) (kk : gW X w L nL Q (sI σ o k x) (pc + 1) lv rest) : gW X w L nL Q σ pc lv (.int x :: .int i :: .ref a :: rest) := by
  subst ha; exact r_iastK C.1 o hy hk hin hd kk
theorem r_bastA (C : CG X w L nL cc own rt cw rm b) (o : Nat) {n : Nat} (hy : wLy w o = some (lI 1 n)) (ha : wAd w o = a) {i x : Int32} {k : Nat} (hk : i.toNatClampNeg = k) (hin : vp_in i n) (hd : decode cc pc = .ok (.bastore, 1)) (kk : gW X w L nL Q (sI σ o k (vp_nar .byte x)) (pc + 1) lv rest) : gW X w L nL Q σ pc lv (.int x :: .int i :: .ref a :: rest) := by
  subst ha; exact r_bastK C.1 o hy hk hin hd kk
/-- heads -/
theorem mk_head {l : Launch} {y : MethodName} {av : List Value} {Qc : Array Value → State → Outcome → State → Prop} {sz mc ms : Nat} (hy : plainName y.cls = true) (hn : Nat.ble (lg_sl av).length nL = true) (hb : BW b w) (hbs : b.1 ≤ sz)
    (body : ∀ X : CT, X.l = l → X.meth.name = y.name → X.s.heap.size = sz → CG X w (gA w sz, 0, 0) nL cc y.cls rt (.code y cc nL rt) rm b → gW X w (gA w sz, 0, 0) nL (MQ X.below Qc X.args X.s mc ms (gA w sz)) σ 0 (lv_args 0 av) []) : Met l y (.code y cc nL rt :: TT) rm (wPc w σ av sz) Qc mc ms (gA w sz) := by
  refine Met.ofW (cc := cc) (maxL := nL) (ret := rt) hy rfl ?_
  intro p e s m args below meth c s₁ B hml hv
  obtain ⟨rfl, hWd, hK, hZ, hsz⟩ := hv
  have hts := atoms_spec (ws := .code y cc nL rt :: TT) B.pre
  have hl := lv_entry av (n := nL) (Nat.le_of_ble_eq_true hn)
  have hnm : meth.name = y.name := (name_of_methodNamed B.named B.method).1
  rw [lg_entry_eq]
  refine body (p, l, e, _, s, m, _, below, meth, c) rfl hnm hsz ⟨⟨B.exec, B.bytes, hml, findClass_of_methodNamed B.named, hts, hK, B.returns, B.notSynchronized, rfl, fun _ q => Or.inl q, fun q h1 h2 => ?_, ⟨Nat.zero_le _, Nat.zero_le _⟩, hZ⟩, hb, ?_, fun q hq => Or.inr ?_⟩ s.heap [] _ hWd va_S.rf hl
  · rcases h2 with h2 | h2
    · exact h2
    · exact absurd h1 (by show ¬ q < s.heap.size; omega)
  · show b.1 ≤ s.heap.size; omega
  · have : s.heap.size ≤ q := hq
    omega
/-- ends -/
theorem mB_of {sz : Nat} (C : CG X w L nL cc own rt cw rm b) (hL : L.1 = gA w0 sz) (hsz : X.s.heap.size = sz) {H : Heap} {t : State} (a0 : Wd w σ H) (ht : t.heap = H) (hW : X.s.WarmedH t.vm) : mB w0 sz b (w, σ) t := by
  refine ⟨by rw [ht]; exact a0, KK.moved hW.alike C.1.kk, C.2.1, fun q hq => ?_, fun q h1 h2 => ?_⟩
  · have := C.1.lim q hq
    rw [hL] at this; exact this
  · refine C.1.lim2 q (by omega) ?_
    rw [hL]; exact Or.inl h2
theorem r_mvret {sz mc ms : Nat} (C : CG X w L nL cc own none cw rm b) (hL : L.1 = gA w0 sz) (hsz : X.s.heap.size = sz) (hc : L.2.1 ≤ mc ∧ L.2.2 ≤ ms) {post : WO × DD → Prop} (h : post (w, σ)) (hd : decode cc pc = .ok (.return_, 1)) : gW X w L nL (MQ X.below (wQm w0 sz b post) X.args X.s mc ms (gA w0 sz)) σ pc lv [] := fun H locs ls a0 b0 d => by
  refine W.widen hc.1 hc.2 ?_
  refine W.vret C.1.1 C.1.2.1 C.1.rty (fun t ht hW => ⟨⟨(w, σ), rfl, h, mB_of C hL hsz a0 ht hW⟩, by rw [← hL]; exact b0.F ht⟩) (fun q hq => by rw [← hL]; exact b0.2.2 q hq) hd C.1.lk
theorem r_miret {sz mc ms : Nat} (C : CG X w L nL cc own (some .int) cw rm b) (hL : L.1 = gA w0 sz) (hsz : X.s.heap.size = sz) (hc : L.2.1 ≤ mc ∧ L.2.2 ≤ ms) {post : Int32 → WO × DD → Prop} {v : Int32} (h : post v (w, σ)) (hd : decode cc pc = .ok (.ireturn, 1)) : gW X w L nL (MQ X.below (wQmi w0 sz b post) X.args X.s mc ms (gA w0 sz)) σ pc lv [.int v] := fun H locs ls a0 b0 d => by
  refine W.widen hc.1 hc.2 ?_
  refine W.iret C.1.1 C.1.2.1 C.1.rty (fun t ht hW => ⟨⟨v, (w, σ), rfl, h, mB_of C hL hsz a0 ht hW⟩, by rw [← hL]; exact b0.F ht⟩) (fun q hq => by rw [← hL]; exact b0.2.2 q hq) hd C.1.lk
theorem r_moret {sz mc ms : Nat} {ty : FieldType} (C : CG X w L nL cc own (some ty) cw rm b) (hty : (∃ n, ty = .object n) ∨ ∃ t, ty = .array t) (hL : L.1 = gA w0 sz) (hsz : X.s.heap.size = sz) (hc : L.2.1 ≤ mc ∧ L.2.2 ≤ ms) {post : Option Nat → WO × DD → Prop} {r : Option Nat} (h : post r (w, σ)) (hd : decode cc pc = .ok (.areturn, 1)) : gW X w L nL (MQ X.below (wQmo w0 sz b post) X.args X.s mc ms (gA w0 sz)) σ pc lv [va_rf r] := fun H locs ls a0 b0 d => by
  refine W.widen hc.1 hc.2 ?_
  refine W.aret C.1.1 C.1.2.1 C.1.rty hty (va_rf_or r) (fun t ht hW => ⟨⟨r, (w, σ), rfl, h, mB_of C hL hsz a0 ht hW⟩, by rw [← hL]; exact b0.F ht⟩) (fun q hq => by rw [← hL]; exact b0.2.2 q hq) hd C.1.lk
/-- calls -/
theorem wPc_blind {av : List Value} {sz : Nat} : FrameBlind (wPc w σ av sz) := fun a U g mk q => ⟨q.1, q.2.1, KK.moved (u := U) (U := U.calling g mk a) (Vm.Alike.refl U.vm) q.2.2.1, q.2.2.1.2.1 U (U.calling g mk a) _ (Or.inl rfl) q.2.2.2.1, q.2.2.2.2⟩
abbrev rmOm (rm' rm : Room) (maxL mc ms c0 s0 c1 s1 : Nat) : Prop := rm'.frames + 1 ≤ rm.frames ∧ 8 + (maxL + 11) + rm'.locals ≤ rm.locals ∧ rm'.cells = mc ∧ rm'.slots = ms ∧ c0 + mc = c1 ∧ s0 + ms = s1 ∧ c1 ≤ rm.cells ∧ s1 ≤ rm.slots
theorem cg_call {H : Heap} {t : State} {locs : List Loc} {u : WO × DD} (C : CG X w (A, c0, s0) nL cc own rt cw rm b) (b0 : va_S A X.s.heap H locs) (hvm : X.s.vm.Alike t.vm) (hB : mB w H.size b u t) {c1 s1 : Nat} (hc : c1 ≤ rm.cells ∧ s1 ≤ rm.slots) : CG X u.1 (A, c1, s1) nL cc own rt cw rm b := by
  obtain ⟨⟨c1, c2, c3, c4, c5, c6, c7, c8, c9, c10, c11, c12, c13⟩, ⟨e, z, k⟩, hb, hl⟩ := C
  obtain ⟨h1, h2, h3, h4, h5⟩ := hB
  have hs := b0.1
  refine ⟨⟨c1, c2, c3, c4, c5, KK.moved hvm.symm h2, c7, c8, c9, fun q hq => ?_, fun q g1 g2 => h5 q (by omega) (c11 q g1 g2), hc, ?_⟩, h3, hb, hl⟩
  · rcases h4 q hq with g | g
    · exact c10 q g
    · exact hl q (by omega)
  · unfold wZ at c13 ⊢
    rw [h3.1, ← e]; exact c13
theorem gA_lim {H : Heap} {locs : List Loc} (C : CG X w (A, c0, s0) nL cc own rt cw rm b) (b0 : va_S A X.s.heap H locs) : ∀ q, gA w H.size q → A q := fun q h => by
  have hs := b0.1
  rcases h with h | h
  · exact C.1.lim q h
  · exact C.2.2.2 q (by omega)
/-- a constructor is called -/
theorem r_mcI (C : CG X w (A, c0, s0) nL cc own rt cw rm b) {ix maxL n mc ms c1 s1 : Nat} {y : MethodName} {bytes : ByteArray} (hL : CI own ix y bytes maxL n) {rm' : Room} {post : WO × DD → Prop} (As : List Value) (hM : ∀ sz, b.1 ≤ sz → Met X.l y (.code y bytes maxL none :: TT) rm' (wPc w σ (.ref a :: As) sz) (wQm w sz b post) mc ms (gA w sz)) (hR : rmOm rm' rm maxL mc ms c0 s0 c1 s1) (hn : As.length = n) (hst : st = As.reverse ++ .ref a :: rest) (hW : (rest.map fun v => v.category).sum ≤ 8) (hd : decode cc pc = .ok (.invokespecial ix, 3)) (kk : ∀ w' σ', post (w', σ') → CG X w' (A, c1, s1) nL cc own rt cw rm b → gW X w' (A, c1, s1) nL Q σ' (pc + 3) lv rest) : gW X w (A, c0, s0) nL Q σ pc lv st := fun H locs ls a0 b0 d => by
  subst hst
  have C1 := C.1
  have hs := b0.1
  have hbs := C.2.2.1
  obtain ⟨r1, r2, r3, r4, g1, g2, g3⟩ := hR
  subst g1; subst g2
  have hR' : rm'.frames + 1 ≤ X.R.frames ∧ 8 + (maxL + 11) + rm'.locals ≤ X.R.locals := by rw [C1.room]; exact ⟨r1, r2⟩
  obtain ⟨l1, l2, l3, l4, l5, l6⟩ := hL
  have cwi := cwI (R := X.R) (own := own) (index := ix) (y := y) (bytes := bytes) (maxL := maxL) n C1.2.2.2.2.1 (tt_goodIn l4) rfl r3 r4 (C1.wd l3) (C1.wd l1) (C1.wd l2) l5 l6 hR'
  exact va_callv (A0 := A) (va_runI (As := As) (rest := rest) ⟨C1.1, C1.2.1, C1.2.2.1, C1.2.2.2.1, C1.2.2.2.2.1⟩ (hM H.size (by omega)) cwi ⟨wPc_blind, fun U hU hW => ⟨rfl, by rw [hU]; exact a0, KK.moved hW.alike C1.kk, C1.zAt b0 hU hW, by rw [hU]⟩⟩ rfl hn d.1 rfl (lv_room hW) hd (by rw [C1.room]; exact g3)) b0 (fun q _ h => gA_lim C b0 q h) (fun q h => gA_lim C b0 q h) (fun u t H1 locs1 ht hvm hp hB hz hk hS => kk u.1 u.2 hp (cg_call C b0 hvm hB g3) H1 locs1 ls (by rw [← ht]; exact hB.1) hS d)
/-- a private constructor of a nest mate is called -/
theorem r_mcIN (C : CG X w (A, c0, s0) nL cc own rt cw rm b) {ix maxL n mc ms c1 s1 : Nat} {y : MethodName} {bytes : ByteArray} {host : String} (hL : CN9 y bytes maxL n) (hnest : va_Nw (.methodLinkNest own ix y host) X.s) {rm' : Room} {post : WO × DD → Prop} (As : List Value) (hM : ∀ sz, b.1 ≤ sz → Met X.l y (.code y bytes maxL none :: TT) rm' (wPc w σ (.ref a :: As) sz) (wQm w sz b post) mc ms (gA w sz)) (hR : rmOm rm' rm maxL mc ms c0 s0 c1 s1) (hn : As.length = n) (hst : st = As.reverse ++ .ref a :: rest) (hW : (rest.map fun v => v.category).sum ≤ 8) (hd : decode cc pc = .ok (.invokespecial ix, 3)) (kk : ∀ w' σ', post (w', σ') → CG X w' (A, c1, s1) nL cc own rt cw rm b → gW X w' (A, c1, s1) nL Q σ' (pc + 3) lv rest) : gW X w (A, c0, s0) nL Q σ pc lv st := fun H locs ls a0 b0 d => by
  subst hst
  have C1 := C.1
  have hs := b0.1
  have hbs := C.2.2.1
  obtain ⟨r1, r2, r3, r4, g1, g2, g3⟩ := hR
  subst g1; subst g2
  have hR' : rm'.frames + 1 ≤ X.R.frames ∧ 8 + (maxL + 11) + rm'.locals ≤ X.R.locals := by rw [C1.room]; exact ⟨r1, r2⟩
  obtain ⟨l2, l3, l4, l5, l6⟩ := hL
  have cwi : va_CN X.R X.s X.args own ix y host bytes maxL none (.code y bytes maxL none :: TT) rm' mc ms n ∧ y.name = "<init>" ∧ (Cond.instanceMethod y).before X.args X.s = true := ⟨va_cnB n C1.2.2.2.2.1 (tt_goodIn l4) rfl r3 r4 hnest (C1.wd l3) l6 hR', l5, C1.wd l2⟩
  exact va_callv (A0 := A) (va_runIN (As := As) (rest := rest) ⟨C1.1, C1.2.1, C1.2.2.1, C1.2.2.2.1, C1.2.2.2.2.1⟩ (hM H.size (by omega)) cwi ⟨wPc_blind, fun U hU hW => ⟨rfl, by rw [hU]; exact a0, KK.moved hW.alike C1.kk, C1.zAt b0 hU hW, by rw [hU]⟩⟩ rfl hn d.1 rfl (lv_room hW) hd (by rw [C1.room]; exact g3)) b0 (fun q _ h => gA_lim C b0 q h) (fun q h => gA_lim C b0 q h) (fun u t H1 locs1 ht hvm hp hB hz hk hS => kk u.1 u.2 hp (cg_call C b0 hvm hB g3) H1 locs1 ls (by rw [← ht]; exact hB.1) hS d)
/-- a static maker of a reference (copyOf) -/
theorem r_mcO (C : CG X w (A, c0, s0) nL cc own rt cw rm b) {ix maxL n mc ms c1 s1 : Nat} {y : MethodName} {bytes : ByteArray} {rt' : FieldType} (hL : CS own ix y bytes maxL (some rt') n) {rm' : Room} {post : Option Nat → WO × DD → Prop} (As : List Value) (hM : ∀ sz, b.1 ≤ sz → Met X.l y (.code y bytes maxL (some rt') :: TT) rm' (wPc w σ As sz) (wQmo w sz b post) mc ms (gA w sz)) (hR : rmOm rm' rm maxL mc ms c0 s0 c1 s1) (hn : As.length = n) (hst : st = As.reverse ++ rest) (hW : (rest.map fun v => v.category).sum ≤ 8) (hd : decode cc pc = .ok (.invokestatic ix, 3)) (kk : ∀ r w' σ', post r (w', σ') → CG X w' (A, c1, s1) nL cc own rt cw rm b → gW X w' (A, c1, s1) nL Q σ' (pc + 3) lv (va_rf r :: rest)) : gW X w (A, c0, s0) nL Q σ pc lv st := fun H locs ls a0 b0 d => by
  subst hst
  have C1 := C.1
  have hs := b0.1
  have hbs := C.2.2.1
  obtain ⟨r1, r2, r3, r4, g1, g2, g3⟩ := hR
  subst g1; subst g2
  have hR' : rm'.frames + 1 ≤ X.R.frames ∧ 8 + (maxL + 11) + rm'.locals ≤ X.R.locals := by rw [C1.room]; exact ⟨r1, r2⟩
  obtain ⟨l1, l2, l3, l4, l5⟩ := hL
  have cws : CallB X.R X.s X.args own ix y bytes maxL (some rt') (.code y bytes maxL (some rt') :: TT) rm' mc ms n ∧ (Cond.static y).before X.args X.s = true := ⟨callB_of n C1.2.2.2.2.1 (tt_goodIn l4) rfl r3 r4 (C1.wd l3) (C1.wd l1) l5 hR', C1.wd l2⟩
  exact va_callq (A0 := A) (va_runS (As := As) (rest := rest) ⟨C1.1, C1.2.1, C1.2.2.1, C1.2.2.2.1, C1.2.2.2.2.1⟩ (hM H.size (by omega)) cws ⟨wPc_blind, fun U hU hW => ⟨rfl, by rw [hU]; exact a0, KK.moved hW.alike C1.kk, C1.zAt b0 hU hW, by rw [hU]⟩⟩ rfl hn d.1 rfl (lv_room hW) hd (by rw [C1.room]; exact g3)) b0 (fun q _ h => gA_lim C b0 q h) (fun q h => gA_lim C b0 q h) (fun r u t H1 locs1 ht hvm hp hB hz hk hS => kk r u.1 u.2 hp (cg_call C b0 hvm hB g3) H1 locs1 ls (by rw [← ht]; exact hB.1) hS d)
/-- a maker of a reference on an object (compile) -/
theorem r_mcvO (C : CG X w (A, c0, s0) nL cc own rt cw rm b) {ix ci maxL n mc ms c1 s1 : Nat} {y : MethodName} {bytes : ByteArray} {rt' : FieldType} (hL : CL own ix ci y bytes maxL (some rt') n) {rm' : Room} {post : Option Nat → WO × DD → Prop} (o : Nat) {rf : Nat → Option Nat} {N : Nat} (hy : wLy w o = some (lO ci rf N)) (As : List Value) (hM : ∀ sz, b.1 ≤ sz → Met X.l y (.code y bytes maxL (some rt') :: TT) rm' (wPc w σ (.ref (wAd w o) :: As) sz) (wQmo w sz b post) mc ms (gA w sz)) (hR : rmOm rm' rm maxL mc ms c0 s0 c1 s1) (hn : As.length = n) (hst : st = As.reverse ++ .ref (wAd w o) :: rest) (hW : (rest.map fun v => v.category).sum ≤ 8) (hd : decode cc pc = .ok (.invokevirtual ix, 3)) (kk : ∀ r w' σ', post r (w', σ') → CG X w' (A, c1, s1) nL cc own rt cw rm b → gW X w' (A, c1, s1) nL Q σ' (pc + 3) lv (va_rf r :: rest)) : gW X w (A, c0, s0) nL Q σ pc lv st := fun H locs ls a0 b0 d => by
  subst hst
  have C1 := C.1
  have hs := b0.1
  have hbs := C.2.2.1
  obtain ⟨r1, r2, r3, r4, g1, g2, g3⟩ := hR
  subst g1; subst g2
  obtain ⟨T, N', hc⟩ := hL.1
  have hR' : rm'.frames + 1 ≤ X.R.frames ∧ 8 + (maxL + 11) + rm'.locals ≤ X.R.locals := by rw [C1.room]; exact ⟨r1, r2⟩
  exact va_callq (A0 := A) (va_runV (As := As) (rest := rest) ⟨C1.1, C1.2.1, C1.2.2.1, C1.2.2.2.1, C1.2.2.2.2.1⟩ (hM H.size (by omega)) (cwV n C1.2.2.2.2.1 (cl_good hL) rfl r3 r4 ⟨rfl, hL.2.2.2.2.2.2⟩ hR') ⟨wPc_blind, wd_recv C1.kk a0 hc hy, fun U hU hW => ⟨rfl, by rw [hU]; exact a0, KK.moved hW.alike C1.kk, C1.zAt b0 hU hW, by rw [hU]⟩⟩ rfl hn d.1 rfl (lv_room hW) hd (by rw [C1.room]; exact g3)) b0 (fun q _ h => gA_lim C b0 q h) (fun q h => gA_lim C b0 q h) (fun r u t H1 locs1 ht hvm hp hB hz hk hS => kk r u.1 u.2 hp (cg_call C b0 hvm hB g3) H1 locs1 ls (by rw [← ht]; exact hB.1) hS d)
end MKC
