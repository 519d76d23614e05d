/-! ===== a row is copied; a text is laid ===== -/
def cpA (σ : DD) (o1 o : Nat) : DD := (fun a c => if a = o then σ.1 o1 c else σ.1 a c, σ.2)
theorem cpA_e {σ : DD} {o1 o k : Nat} : gI (cpA σ o1 o) o k = gI σ o1 k := by show (if o = o then _ else _) = _; rw [if_pos rfl]; rfl
theorem cpA_n {σ : DD} {o1 o q k : Nat} (h : ¬ q = o) : gI (cpA σ o1 o) q k = gI σ q k := by show (if q = o then _ else _) = _; rw [if_neg h]; rfl
theorem cel_same {w : WO} {σ σ' : DD} {q : Nat} {y : LY} (hI : ∀ k, gI σ' q k = gI σ q k) (hL : ∀ k, gL σ' q k = gL σ q k) (hR : ∀ k, gR σ' q k = gR σ q k) : celV w σ' q y = celV w σ q y := by
  rcases y with ⟨ci, rf, N⟩ | ⟨t, n⟩ | n | ⟨t, n⟩ | ⟨ci, fs⟩
  · simp only [celV]
    congr 2
    apply List.map_congr_left
    intro k _
    cases rf k with
    | none => simp only [fldV]; rw [hI]
    | some j => rfl
  · simp only [celV]; rw [show gI σ' q = gI σ q from funext hI]
  · simp only [celV]; rw [show gL σ' q = gL σ q from funext hL]
  · simp only [celV]; rw [show gR σ' q = gR σ q from funext hR]
  · rfl
/-- told otherwise at one row alone, beyond its end -/
theorem wd_row {w : WO} {σ σ' : DD} {H : Heap} {o t N : Nat} (h : Wd w σ H) (hy : wLy w o = some (lI t N)) (he : ∀ k, k < N → gI σ' o k = gI σ o k) (hn : ∀ q k, ¬ q = o → gI σ' q k = gI σ q k ∧ gL σ' q k = gL σ q k ∧ gR σ' q k = gR σ q k) : Wd w σ' H := by
  refine h.to (fun q y' hq => ⟨rfl, y', hq, fun k => ?_⟩)
  by_cases c : q = o
  · subst c
    rw [hy] at hq
    cases hq
    have k' : H[wAd w q]? = some (vp_cell (wCa w t) (N, .inl (gI σ q))) := k
    show H[wAd w q]? = some (vp_cell (wCa w t) (N, .inl (gI σ' q)))
    rw [k', vp_cell_i, vp_cell_i]
    exact congrArg some (arr_ext (fun j hj => by rw [he j hj]))
  · rw [cel_same (fun k => (hn q k c).1) (fun k => (hn q k c).2.1) (fun k => (hn q k c).2.2)]; exact k
section CPY
variable {X : CT} {w : WO} {L : LIM} {A : Nat → Prop} {c0 s0 : Nat} {nL : Nat} {Q : State → Prop} {σ : DD} {pc : Nat} {lv : List (Nat × Value)} {rest st : List Value} {cc : ByteArray} {own : String} {rt : Option FieldType} {cw : Cond} {rm : Room} {b : BZ} {a : Nat}
theorem r_dat {σ' : DD} (h : ∀ H, Wd w σ H → Wd w σ' H) (k : gW X w L nL Q σ' pc lv st) : gW X w L nL Q σ pc lv st := fun H locs ls a b d => k H locs ls (h H a) b d
theorem r_cloneI (C : CG X w (A, c0, s0) nL cc own rt cw rm b) (hE : va_Nw (.castable "[I" "java/lang/Cloneable") X.s) {ix : Nat} (hlink : Cond.methodLink own ix ⟨"[I", "clone", "()Ljava/lang/Object;"⟩ ∈ TT) (o1 o : Nat) {n : Nat} (hy : wLy w o1 = some (lI 0 n)) (hno : wLy w o = none) (hr : NR w σ o) {c1 s1 : Nat} (hcel : c0 + 1 = c1 ∧ s0 + n = s1 ∧ c1 ≤ rm.cells ∧ s1 ≤ rm.slots) (hfr : 1 ≤ rm.frames) (hlo : (rest.map fun v => v.category).sum + 14 ≤ rm.locals) (hd : decode cc pc = .ok (.invokevirtual ix, 3))
    (kk : ∀ a, X.s.heap.size ≤ a → CG X (wAdd w o a (lI 0 n)) (A, c1, s1) nL cc own rt cw rm b → gW X (wAdd w o a (lI 0 n)) (A, c1, s1) nL Q (cpA σ o1 o) (pc + 3) lv (.ref a :: rest)) : gW X w (A, c0, s0) nL Q σ pc lv (.ref (wAd w o1) :: rest) := fun H locs ls a0 b0 d => by
  have C1 := C.1
  obtain ⟨g1, g2, g3⟩ := hcel
  subst g1; subst g2
  have hne : ¬ o1 = o := fun z => by rw [z, hno] at hy; cases hy
  have hc0 : H[wAd w o1]? = some (vp_cell (wCa w 0) (n, .inl (gI σ o1))) := a0.1 o1 _ hy
  have hsz : (vp_cell (wCa w 0) (n, .inl (gI σ o1))).slots.size = n := arrV_size _ _ _
  have hvm0 : (vp_cell (wCa w 0) (n, .inl (gI σ o1))).vm = .none := rfl
  have hcl0 : (vp_cell (wCa w 0) (n, .inl (gI σ o1))).cls = wCa w 0 := rfl
  have hcellE : ({ cls := (vp_cell (wCa w 0) (n, .inl (gI σ o1))).cls, slots := (vp_cell (wCa w 0) (n, .inl (gI σ o1))).slots } : Cell) = vp_cell (wCa w 0) (n, .inl (gI σ o1)) := rfl
  have hfitv : ∀ (i : Nat) (v : Value), (vp_cell (wCa w 0) (n, .inl (gI σ o1))).slots[i]? = some v → fits .int v = true := by
    intro i v hv
    by_cases hi : i < n
    · rw [vp_cell_i, arrV_read _ _ hi] at hv
      cases hv; rfl
    · rw [Array.getElem?_eq_none (by rw [hsz]; omega)] at hv; cases hv
  have hnm : X.s.vm.findClass "[I" = some (wCa w 0) := (C1.kk.1.2 0 _ rfl).2
  obtain ⟨c', t0', f1, f2, f3⟩ := Cond.castable_spec (va_Nw.use (A := X.args) rfl hE)
  cases hnm.symm.trans f1
  intro T hT XX
  generalize hcl : vp_cell (wCa w 0) (n, .inl (gI σ o1)) = cell at hc0 hsz hvm0 hcl0 hcellE hfitv
  have hcellT : T.heap[wAd w o1]? = some cell := by rw [hT]; exact hc0
  obtain ⟨-, kA, hkA, comp, hkind⟩ := State.isArrayOf_alike XX.warmed.alike ((C1.kk.1.2 0 _ rfl).1 0 (fun _ => .null))
  obtain ⟨-, kS, hkS, compS, hkindS⟩ := (C1.kk.1.2 0 _ rfl).1 0 (fun _ => .null)
  obtain ⟨vm', X', st⟩ := XX.cloneArray C1.1 C1.2.2.2.1 (C1.wd hlink) (C1.wd tv_786) (C1.wd tv_787) (C1.wd tv_788) (C1.wd tv_789) (a := wAd w o1) (cell := cell) hcellT (fun k h => by rw [hvm0] at h; cases h) (by rw [hvm0]; exact fun h => by cases h) (by rw [hcl0]; exact hnm) f2 (by rw [hcl0]; exact f3)
    (fun i v hv => by
      rw [hcl0]
      have hk' : T.vm.classes[wCa w 0]? = some kA := hkA
      have hkd : kA.kind = .array comp .int := hkind
      simpa [State.fitsSlot, State.slotType?, hk', hkd] using hfitv i v hv)
    (g := F0 X.m pc ls (.ref (wAd w o1) :: rest)) rfl (by rw [C1.2.2.1]; exact d.1) rfl (by rw [C1.2.1]; exact hd) (by rw [C1.room]; exact hfr) (by rw [C1.room]; show 2 * 0 + _ + 14 ≤ _; omega) (by rw [C1.room]; exact g3.1) (by rw [hsz, C1.room]; exact g3.2) (hloader := by rw [hcl0]; exact Vm.clonesLoader_of_array hkS hkindS)
  rw [hcellE, hsz] at X'
  generalize hH1 : H.push cell = H1
  have z1 : H1.size = H.size + 1 := by rw [← hH1, Array.size_push]
  have e1 : H1[H.size]? = some cell := by rw [← hH1, Array.getElem?_push_size]
  have o1' : ∀ q : Nat, q < H.size → H1[q]? = H[q]? := fun q hq => by rw [← hH1, Array.getElem?_push, if_neg (Nat.ne_of_lt hq)]
  have hs : X.s.heap.size ≤ H.size := b0.1
  obtain ⟨t, b1, b2⟩ := kk H.size hs (C.add _ hno hs g3) H1 locs ls (wd_add a0 hno hr (fun q k h => ⟨cpA_n h, rfl, rfl⟩) o1' (by
      show H1[H.size]? = some (vp_cell (wCa w 0) (n, .inl (gI (cpA σ o1 o) o)))
      rw [e1, ← hcl, vp_cell_i, vp_cell_i]
      exact congrArg some (arr_ext (fun k _ => by rw [cpA_e])))) ⟨by rw [z1]; omega, fun q h1 h2 => by rw [o1' q (by omega)]; exact b0.2.1 q h1 h2, b0.2.2⟩ d ((T.setVm vm').pushCell cell) (by rw [← hH1, ← hT]; rfl) X'
  refine ⟨t, st t ?_, b2⟩
  rw [hcellE, hT]
  exact b1
theorem r_castI (C : CF X w L nL cc own rt cw rm) {ix : Nat} (hl : Cond.classLink own ix "[I" ∈ TT) (o : Nat) {n : Nat} (hy : wLy w o = some (lI 0 n)) (ha : wAd w o = a) (hd : decode cc pc = .ok (.checkcast ix, 3)) (kk : gW X w L nL Q σ (pc + 3) lv (.ref a :: rest)) : gW X w L nL Q σ pc lv (.ref a :: rest) := fun H locs ls a0 b0 d => by
  subst ha
  exact va_castA C.1 C.2.1 C.2.2.2.1 (C.wd hl) (wd_one a0 hy) 0 rfl (C.kk.1.2 0 _ rfl).2 hd (kk H locs ls a0 b0 d)
end CPY
theorem jmin_n {N M : Nat} (h : N < M) (hM : M < 2 ^ 31) : jmin (nI M) (nI N) = nI N := by
  unfold jmin; rw [if_pos ((nI_ltI (by omega) hM).2 h)]
theorem i_copyOf {l : Launch} {w : WO} {σ : DD} {sz o1 o n1 N : Nat} {b : BZ} (hb : BW b w) (hbs : b.1 ≤ sz) (hE : ∀ U H, b.2 U H → va_Nw (.castable "[I" "java/lang/Cloneable") U) (hy : wLy w o1 = some (lI 0 n1)) (hno : wLy w o = none) (hr : NR w σ o) (hN : N ≤ n1) (hn1 : n1 ≤ 400) : Met l yJ7_copyOf_59c91 (.code yJ7_copyOf_59c91 cJ7_copyOf_59c91 3 (some (.array .int)) :: TT) { frames := 1, cells := 1, slots := 400, locals := 60 } (wPc w σ [.ref (wAd w o1), .int (nI N)] sz) (wQmo w sz b (fun r u => ∃ q, r = some q ∧ u = (wAdd w o q (lI 0 N), cpA σ o1 o))) 1 400 (gA w sz) := by
  have hne : ¬ o1 = o := fun z => by rw [z, hno] at hy; cases hy
  refine mk_head (by decide) rfl hb hbs (fun X hX hi hsz C => ?_)
  subst hX
  show gW X w (gA w sz, 0, 0) 3 _ σ 0 [(0, .ref (wAd w o1)), (1, .int (nI N))] []
  refine r_iload_n C.1 1 rfl (dk_at dk_J7_copyOf_59c91_0 0 rfl) ?_
  refine r_aload_n C.1 0 rfl (dk_at dk_J7_copyOf_59c91_0 1 rfl) ?_
  refine r_alenI C.1 o1 hy (by decide) (nI n1) rfl (dk_at dk_J7_copyOf_59c91_0 2 rfl) ?_
  refine r_icmp_ne C.1 14 rfl (dk_at dk_J7_copyOf_59c91_0 3 rfl) (fun c => ?_) (fun c => ?_)
  · have hlt : N < n1 := by
      rcases Nat.lt_or_ge N n1 with h | h
      · exact h
      · exact absurd (by rw [show N = n1 by omega]) c
    refine r_iload_n C.1 1 rfl (dk_at dk_J7_copyOf_59c91_0 8 rfl) ?_
    refine r_newI (c1 := 1) (s1 := N) C tc_152 o N (by rw [show (0 : Int32) = nI 0 from rfl, nI_ltI (by omega) (by decide)]; omega) (nI_clamp (by omega)) (by omega) hno hr ⟨rfl, Nat.zero_add _, Nat.le_of_ble_eq_true rfl, by show N ≤ 400; omega⟩ (dk_at dk_J7_copyOf_59c91_0 9 rfl) (fun q hq C => ?_)
    generalize hw : wAdd w o q (lI 0 N) = w' at C ⊢
    have ly1 : wLy w' o1 = some (lI 0 n1) := by rw [← hw, wLy_an hne]; exact hy
    have ly2 : wLy w' o = some (lI 0 N) := by rw [← hw]; exact wLy_ae
    have ad1 : wAd w' o1 = wAd w o1 := by rw [← hw]; exact wAd_an hne
    have ad2 : wAd w' o = q := by rw [← hw]; exact wAd_ae
    rw [← ad1]
    subst ad2
    refine r_astore_n C.1 [(2, .ref (wAd w' o)), (0, .ref (wAd w' o1)), (1, .int (nI N))] rfl rfl (dk_at dk_J7_copyOf_59c91_0 10 rfl) ?_
    refine r_aload_n C.1 1 rfl (dk_at dk_J7_copyOf_59c91_0 11 rfl) ?_
    refine r_iconst C.1 0 (dk_at dk_J7_copyOf_59c91_0 12 rfl) ?_
    refine r_aload_n C.1 0 rfl (dk_at dk_J7_copyOf_59c91_0 13 rfl) ?_
    refine r_iconst C.1 0 (dk_at dk_J7_copyOf_59c91_0 14 rfl) ?_
    refine r_aload_n C.1 1 rfl (dk_at dk_J7_copyOf_59c91_0 15 rfl) ?_
    refine r_alenI C.1 o1 ly1 (by decide) (nI n1) rfl (dk_at dk_J7_copyOf_59c91_0 16 rfl) ?_
    refine r_iload_n C.1 2 rfl (dk_at dk_J7_copyOf_59c91_0 17 rfl) ?_
    refine r_mmin C.1 tv_792 tv_748 tv_14 tv_749 (Nat.le_of_ble_eq_true rfl) (Nat.le_of_ble_eq_true rfl) (dk_at dk_J7_copyOf_59c91_0 18 rfl) ?_
    rw [jmin_n hlt (by omega)]
    refine r_acopy C.1 tv_793 tv_795 tv_794 tv_19 o1 o ly1 ly2 (by decide) (by decide) (by rw [show (0 : Int32) = nI 0 from rfl, nI_ltI (by omega) (by decide)]; omega) (by rw [nI_clamp (by omega)]; show 0 + N ≤ n1; omega) (by rw [nI_clamp (by omega)]; show 0 + N ≤ N; omega) (Nat.le_of_ble_eq_true rfl) (Nat.le_of_ble_eq_true rfl) (dk_at dk_J7_copyOf_59c91_0 19 rfl) ?_
    rw [nI_clamp (by omega), show (0 : Int32).toNatClampNeg = 0 from by decide]
    refine r_dat (σ' := cpA σ o1 o) (fun H hW => wd_row hW ly2 (fun k hk => ?_) (fun q k c2 => ?_)) ?_
    · rw [gI_cp, if_pos ⟨rfl, hk⟩, cpA_e, (cle_n hne).1]
    · rw [gI_cp, if_neg (fun z => c2 z.1), cpA_n c2, (cle_n c2).1]
      exact ⟨rfl, (cle_n c2).2.1.symm, (cle_n c2).2.2.symm⟩
    refine r_aload_n C.1 0 rfl (dk_at dk_J7_copyOf_59c91_0 20 rfl) ?_
    exact r_moret (r := some (wAd w' o)) C (Or.inr ⟨_, rfl⟩) rfl hsz ⟨Nat.le_of_ble_eq_true rfl, by show N ≤ 400; omega⟩ ⟨wAd w' o, rfl, by rw [hw]⟩ (dk_at dk_J7_copyOf_59c91_0 21 rfl)
  · have hEq : N = n1 := (nI_eq (by omega) (by omega)).1 c
    subst hEq
    have hE' : va_Nw (.castable "[I" "java/lang/Cloneable") X.s := by
      have z := C.1.z
      unfold wZ at z
      rw [C.2.1.1] at z
      exact hE _ _ z
    refine r_aload_n C.1 0 rfl (dk_at dk_J7_copyOf_59c91_0 4 rfl) ?_
    refine r_cloneI (c1 := 1) (s1 := N) C hE' tv_785 o1 o hy hno hr ⟨rfl, Nat.zero_add _, Nat.le_of_ble_eq_true rfl, by show N ≤ 400; omega⟩ (Nat.le_of_ble_eq_true rfl) (Nat.le_of_ble_eq_true rfl) (dk_at dk_J7_copyOf_59c91_0 5 rfl) (fun q hq C => ?_)
    refine r_castI C.1 tv_791 o wLy_ae wAd_ae (dk_at dk_J7_copyOf_59c91_0 6 rfl) ?_
    exact r_moret (r := some q) C (Or.inr ⟨_, rfl⟩) rfl hsz ⟨Nat.le_of_ble_eq_true rfl, by show N ≤ 400; omega⟩ ⟨q, rfl, rfl⟩ (dk_at dk_J7_copyOf_59c91_0 7 rfl)
/-- a text gets its rows and numbers -/
theorem i_Text {l : Launch} {w : WO} {σ : DD} {a sz t p0 p1 : Nat} {p2 p3 : Int32} {b : BZ} (hb : BW b w) (hbs : b.1 ≤ sz) (h0 : wLy w t = some (lR 8 [.int 0, .int 0, .null, .null])) (ha : wAd w t = a) : Met l yX8_init (.code yX8_init cX8_init 5 none :: TT) { frames := 1, cells := 0, slots := 0, locals := 12 } (wPc w σ [.ref a, .ref p0, .ref p1, .int p2, .int p3] sz) (wQm w sz b (fun u => u = (wSet w t (lR 8 [.int p2, .int p3, .ref p0, .ref p1]), σ))) 0 0 (gA w sz) := by
  refine mk_head (by decide) rfl hb hbs (fun X hX hi hsz C => ?_)
  subst hX
  have e0 : wSet w t (lR 8 [.int 0, .int 0, .null, .null]) = w := ws_id h0
  refine gW_w e0 ?_
  replace C := CG_w e0 C
  have hN : NRs (wSet w t (lR 8 [.int 0, .int 0, .null, .null])) σ (fun _ => False) := fun o h => h.elim
  show gW X (wSet w t (lR 8 [.int 0, .int 0, .null, .null])) (gA w sz, 0, 0) 5 _ σ 0 [(0, .ref a), (1, .ref p0), (2, .ref p1), (3, .int p2), (4, .int p3)] []
  refine r_aload_n C.1 0 rfl (dk_at dk_Text_init_0 0 rfl) ?_
  refine r_objI C tc_801 tc_27 tc_28 (Nat.le_of_ble_eq_true rfl) (Nat.le_of_ble_eq_true rfl) (dk_at dk_Text_init_0 1 rfl) ?_
  refine r_aload_n C.1 0 rfl (dk_at dk_Text_init_0 2 rfl) ?_
  refine r_aload_n C.1 1 rfl (dk_at dk_Text_init_0 3 rfl) ?_
  refine r_pf C hi hN fw_Text_7 ⟨rfl, rfl⟩ ha (Nat.le_of_ble_eq_true rfl) (dk_at dk_Text_init_0 4 rfl) [.int 0, .int 0, .ref p0, .null] rfl (fun C hN => ?_)
  refine r_aload_n C.1 0 rfl (dk_at dk_Text_init_0 5 rfl) ?_
  refine r_aload_n C.1 2 rfl (dk_at dk_Text_init_0 6 rfl) ?_
  refine r_pf C hi hN fw_Text_13 ⟨rfl, rfl⟩ ha (Nat.le_of_ble_eq_true rfl) (dk_at dk_Text_init_0 7 rfl) [.int 0, .int 0, .ref p0, .ref p1] rfl (fun C hN => ?_)
  refine r_aload_n C.1 0 rfl (dk_at dk_Text_init_0 8 rfl) ?_
  refine r_iload_n C.1 3 rfl (dk_at dk_Text_init_0 9 rfl) ?_
  refine r_pf C hi hN fw_Text_16 ⟨rfl, rfl⟩ ha (Nat.le_of_ble_eq_true rfl) (dk_at dk_Text_init_0 10 rfl) [.int p2, .int 0, .ref p0, .ref p1] rfl (fun C hN => ?_)
  refine r_aload_n C.1 0 rfl (dk_at dk_Text_init_0 11 rfl) ?_
  refine r_iload C.1 4 rfl (dk_at dk_Text_init_0 12 rfl) ?_
  refine r_pf C hi hN fw_Text_20 ⟨rfl, rfl⟩ ha (Nat.le_of_ble_eq_true rfl) (dk_at dk_Text_init_0 13 rfl) [.int p2, .int p3, .ref p0, .ref p1] rfl (fun C hN => ?_)
  exact r_mvret C rfl hsz ⟨Nat.le_of_ble_eq_true rfl, Nat.le_of_ble_eq_true rfl⟩ rfl (dk_at dk_Text_init_0 14 rfl)
