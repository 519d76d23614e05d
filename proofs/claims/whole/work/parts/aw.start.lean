/-! ===== from kit/laws/SKELETON.whole (a starting text); whole_start is ours ===== -/
/-! THE CLAIM OUT OF ONE WALK OF THE LAW'S BODY. Your part is whole_start (and what it stands on); all else here is the same for every law, but numbers. -/
def R_law : String := "FadingActsLaw"
def lw_P (b : Addr) (xs : List Int32) (args : Array Value) (s : State) : Prop := args = #[.ref b] ∧ s.IntsAt b xs ∧ xs.length ≤ 3584 ∧ (Jvm.Cond.and given_1 narrow_1).before args s = true
def lw_Q (_ : Array Value) (s : State) (o : Outcome) (t : State) : Prop := o = .returned (some (.int 1)) ∧ Framed s o t [] 600000 7302250
def lw_Z (below : List Frame) (a : Array Value) (s : State) : State → Prop := fun t => ∃ o, t.status = .running ∧ Ended t below o ∧ lw_Q a s o t
/-- the law's own end, with 1 on the stack, nothing written that was there before, its room as the claim has it -/
theorem lw_ret {p : Program} {l : Launch} {e : Env} {s : State} {m : MethodId} {below : List Frame} {meth : Method} {c : Code} {b : Nat} (hx : p.tables.exec = Jvm.exec) (hb : c.code = code) (hr : meth.sig.returnType = ret) (hlocks : meth.locks = false) {pc : Nat} {H : Heap} {ls : Array Slot} (hdg : decode code pc = .ok (.ireturn, 1)) : W p l e room_1 s m #[Value.ref b] below meth c H [] 600000 7302250 (lw_Z below #[Value.ref b] s) (F0 m pc ls [.int 1]) := by
  intro T hT X
  obtain ⟨fs, hret, hrun, hended, hW, hframe⟩ := X.leave (v := some (.int 1)) (hlocks := hlocks) (fun h => by rw [hr] at h; cases h)
  have hmeth' : T.vm.method? m = some meth := X.method'
  refine ⟨T.setFrames fs, ?_, .returned (some (.int 1)), hrun, hended, rfl, ⟨_, rfl⟩, hW, hframe⟩
  jvm_step X.here [X.here.top, hx, hb, hdg, hmeth', hr, ret, narrow_b1]
  (try refine ⟨rfl, ?_⟩); (try refine ⟨rfl, ?_⟩)
  first | (intro acts; rw [hret _ acts rfl rfl rfl]) | rw [hret _ _ rfl rfl rfl]
  exact Steps.refl _
/-- what holds at the law's entry: the machine, the code, the tables' words (any of lw_tbl by 'hts w (by decide +kernel)'), the script of L ints xs at the cell b, what the Statement gives of the start (any of its parts by flat_of_before) -/
def lw_At (p : Program) (s : State) (m : MethodId) (meth : Method) (c : Code) (b L : Nat) (xs : Nat → Int32) : Prop :=
  p.tables.exec = Jvm.exec ∧ c.code = code ∧ meth.sig.returnType = ret ∧ c.maxLocals = 4 ∧ s.vm.findClass R_law = some m.cls ∧ (∀ w ∈ lw_tbl, w.before #[Value.ref b] s = true) ∧ va_X b L xs s s.heap ∧ b < s.heap.size ∧ meth.locks = false ∧ (Jvm.Cond.and given_1 narrow_1).before #[Value.ref b] s = true
theorem EZ.moved {u U : State} (hv : U.vm = u.vm ∨ u.WarmedH U.vm) (h : EZ u) : EZ U := by
  have ha : u.vm.Alike U.vm := by
    rcases hv with q | q
    · rw [q]; exact Vm.Alike.refl _
    · exact q.alike
  refine ⟨va_AO.moved ha h.1, va_AO.moved ha h.2.1, ?_⟩
  rcases hv with q | q
  · exact va_Nw.same rfl q.symm h.2.2
  · exact va_Nw.warmM q h.2.2
theorem zb_X {sz : Nat} {z : EXa} : ZB (sz, fun U H => EX (fun q => sz ≤ q) z U H ∧ EZ U) := ⟨fun u U H hv h => ⟨h.1.moved hv, h.2.moved hv⟩, fun U H H1 hq h => ⟨h.1.kept (fun a h1 h2 => hq a h1 (Nat.not_le.mp h2)), h.2⟩⟩
def z0D : DD := (fun _ _ => 0, fun _ _ => 0, fun _ _ => none)
/-- YOUR PART: from the entry, for every script of at most 3584 ints, the law comes to its end with true -/
theorem whole_start {p : Program} {e : Env} {s : State} {m : MethodId} {below : List Frame} {meth : Method} {c : Code} (l : Launch) {b L : Nat} {xs : Nat → Int32} (hL : L ≤ 3584) (C0 : lw_At p s m meth c b L xs) : W p l e room_1 s m #[Value.ref b] below meth c s.heap [] 0 0 (lw_Z below #[Value.ref b] s) (entryFrame m ([Value.ref b] : List Value).toArray 4) := by
  obtain ⟨hx, hb, hr, hml, hown, hts, hX, hbl, hlocks, hgv⟩ := C0
  obtain ⟨G, ca, hK⟩ := kk_start hts
  obtain ⟨z, hE, hZ⟩ := ex_start hts hgv
  have hl := lv_entry ([.ref b]) (n := 4) (Nat.le_of_ble_eq_true rfl)
  rw [lg_entry_eq]
  generalize (lg_sl ([.ref b]) ++ List.replicate (4 - (lg_sl ([.ref b])).length) Slot.unset).toArray = ls at hl ⊢
  have hl : lv_has ls 4 [(0, .ref b)] := hl
  obtain ⟨X, hXe⟩ : ∃ X : CT, X = (p, l, e, room_1, s, m, #[.ref b], below, meth, c) := ⟨_, rfl⟩
  obtain ⟨bX, hbX⟩ : ∃ bX : BZ, bX = (s.heap.size, fun U H => EX (fun q => s.heap.size ≤ q) z U H ∧ EZ U) := ⟨_, rfl⟩
  obtain ⟨w, hw⟩ : ∃ w : WO, w = (G, ca, fun _ => 0, fun _ => none, bX.2, True) := ⟨_, rfl⟩
  obtain ⟨v, hv⟩ : ∃ v : WO, v = (G, ca, fun _ => 0, fun _ => none, fun _ _ => True, True) := ⟨_, rfl⟩
  have hwn : ∀ o, wLy w o = none := fun o => by rw [hw]; rfl
  have hvn : ∀ o, wLy v o = none := fun o => by rw [hv]; rfl
  have no : ∀ q, ¬ wA w q := fun q h => by
    obtain ⟨o, y, h1, -, -⟩ := h
    rw [hwn] at h1; cases h1
  have hZB : ZB bX := by rw [hbX]; exact zb_X
  have hBW : BW bX w := ⟨by rw [hw], hZB, fun q hq => absurd hq (no q)⟩
  have hKw : va_K w.1 cls12 (tyL w) s := by rw [hw]; exact hK
  have hKv : va_K v.1 cls12 (tyL v) s := by rw [hv]; exact hK
  have hT : ∀ t ∈ cwL :: TT, t.before #[.ref b] s = true := List.forall_mem_cons.mpr ⟨hts _ (List.mem_filter.mp td_1).1, fun t ht => hts t (List.mem_filter.mp ht).1⟩
  have C : CLw X w (fun q => s.heap.size ≤ q, 0, 0) bX := by
    rw [hXe]
    refine ⟨⟨hx, hb, hml, hown, hT, ⟨hKw, hBW.zc⟩, hr, hlocks, rfl, fun q hq => absurd hq (no q), fun q h1 h2 => absurd h2 (Nat.not_le.mpr h1), ⟨Nat.zero_le _, Nat.zero_le _⟩, ?_⟩, hBW, ?_, fun q h => h⟩
    · show w.2.2.2.2.1 s s.heap
      rw [hw, hbX]; exact ⟨hE, hZ⟩
    · rw [hbX]; exact Nat.le_refl _
  have hZE : EXZ bX z := by rw [hbX]; exact fun U H h => h
  have hEx : ∀ (w v : WO) (T : TXT) (x m' : DD) (p' c' s' n : Nat), CLw X w (fun q => s.heap.size ≤ q, c', s') bX → GW bX T w v x m' n → gV X w v (fun q => s.heap.size ≤ q, c', s') (lw_Z below #[Value.ref b] s) x m' 1397 [(0, .ref b), (1, .ref (wAd w 0)), (2, .ref (wAd v 0)), (3, .int (nI p'))] [] := by
    subst hXe
    intro w v T x m' p' c' s' n C _ H locs ls a1 a2 b0 d
    exact lv_iconst C.1.1 C.1.2.1 (dk_at dk_Law_24 5 rfl) (by decide) (va_forget (fun q hq => b0.2.2 q hq) (W.widen C.1.cel.1 C.1.cel.2 (lw_ret hx hb hr hlocks (dk_at dk_Law_24 6 rfl))))
  have hS : SC X (fun q => s.heap.size ≤ q, 0, 0) b L xs := by rw [hXe]; exact ⟨hX, hbl, Nat.not_le.mpr hbl⟩
  have key := law_made (X := X) (w := w) (v := v) (A := fun q => s.heap.size ≤ q) (bX := bX) (bM := (s.heap.size, fun _ _ => True)) (z := z) (b0 := b) (N := L) (xs := xs) (x := z0D) (m := z0D) (Q := lw_Z below #[Value.ref b] s) C hwn (by rw [hw]; exact trivial) (fun _ _ => ⟨rfl, rfl, rfl⟩) hZE ⟨by rw [hXe]; exact hKv, by rw [hv]; exact ⟨fun _ _ _ _ _ => trivial, fun _ _ _ _ _ => trivial⟩⟩ hvn (by rw [hv]; exact trivial) (by rw [hv]) ⟨fun _ _ _ _ _ => trivial, fun _ _ _ _ _ => trivial⟩ (fun _ _ => trivial) (by rw [hXe]) (fun _ _ => ⟨rfl, rfl, rfl⟩) (fun q => by rw [hXe]) hS hL hEx
  subst hXe
  exact key s.heap [] ls ⟨fun o y h => (by rw [hwn] at h; cases h), fun o o' h => absurd (hwn o) h⟩ ⟨fun o y h => (by rw [hvn] at h; cases h), fun o o' h => absurd (hvn o) h⟩ va_S.rf hl
