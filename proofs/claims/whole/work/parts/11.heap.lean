/-! ===== base 2: rows over the heap, returns, calls, heads ===== -/
theorem wd_one {w : WO} {σ : DD} {H : Heap} (h : Wd w σ H) {o : Nat} {y : LY} (hy : wLy w o = some y) : va_P w.1 cls12 [(wAd w o, celV w σ o y)] H := by
  intro k q hk
  cases k with
  | zero => cases Option.some.inj hk; exact h.1 o y hy
  | succ k => simp at hk
theorem wd_set {w : WO} {σ σ' : DD} {H H1 : Heap} (h : Wd w σ H) {o : Nat} {y : LY} (hy : wLy w o = some y) (hσ : ∀ o' y', o' ≠ o → celV w σ' o' y' = celV w σ o' y') (he : va_at w.1 cls12 (wAd w o, celV w σ' o y) H1) (oq : ∀ q : Nat, q ≠ wAd w o → H1[q]? = H[q]?) : Wd w σ' H1 := by
  refine ⟨fun o' y' hy' => ?_, h.2⟩
  by_cases ho : o' = o
  · subst ho
    cases hy.symm.trans hy'
    exact he
  · rw [hσ o' y' ho]
    exact (h.1 o' y' hy').kept (oq _ (fun q => ho (h.2 o' o (by rw [hy']; exact fun z => by cases z) (by rw [hy]; exact fun z => by cases z) q)))
theorem gI_sI_ne {σ : DD} {o k o' : Nat} {v : Int32} (h : o' ≠ o) : gI (sI σ o k v) o' = gI σ o' := by funext j; simp [gI, sI, h]
theorem gL_sL_ne {σ : DD} {o k o' : Nat} {v : Int64} (h : o' ≠ o) : gL (sL σ o k v) o' = gL σ o' := by funext j; simp [gL, sL, h]
theorem gR_sR_ne {σ : DD} {o k o' : Nat} {v : Option Nat} (h : o' ≠ o) : gR (sR σ o k v) o' = gR σ o' := by funext j; simp [gR, sR, h]
theorem gI_sI_up {σ : DD} {o k : Nat} {v : Int32} : gI (sI σ o k v) o = upd (gI σ o) k v := by funext j; simp [gI, sI, upd]
theorem gL_sL_up {σ : DD} {o k : Nat} {v : Int64} : gL (sL σ o k v) o = vp_updL (gL σ o) k v := by funext j; simp [gL, sL, vp_updL]
theorem gR_sR_up {σ : DD} {o k : Nat} {v : Option Nat} : gR (sR σ o k v) o = va_up (gR σ o) k v := by funext j; simp [gR, sR, va_up]
theorem fldV_sI {w : WO} {σ : DD} {o k o' j : Nat} {v : Int32} {r : Option Nat} (h : ¬ (o' = o ∧ j = k)) : fldV w (sI σ o k v) o' r j = fldV w σ o' r j := by
  cases r with
  | none => simp [fldV, gI, sI, h]
  | some q => rfl
theorem cel_sI {w : WO} {σ : DD} {o k : Nat} {v : Int32} : ∀ o' y', o' ≠ o → celV w (sI σ o k v) o' y' = celV w σ o' y' := by
  intro o' y' h
  rcases y' with ⟨ci, rf, N⟩ | ⟨t, n⟩ | n | ⟨t, n⟩ | ⟨ci, fs⟩
  · simp only [celV]
    congr 2
    apply List.map_congr_left
    intro j _
    exact fldV_sI (fun q => h q.1)
  · simp only [celV, gI_sI_ne h]
  · rfl
  · rfl
  · rfl
theorem cel_sL {w : WO} {σ : DD} {o k : Nat} {v : Int64} : ∀ o' y', o' ≠ o → celV w (sL σ o k v) o' y' = celV w σ o' y' := by
  intro o' y' h
  rcases y' with ⟨ci, rf, N⟩ | ⟨t, n⟩ | n | ⟨t, n⟩ | ⟨ci, fs⟩
  · rfl
  · rfl
  · simp only [celV, gL_sL_ne h]
  · rfl
  · rfl
theorem cel_sR {w : WO} {σ : DD} {o k : Nat} {v : Option Nat} : ∀ o' y', o' ≠ o → celV w (sR σ o k v) o' y' = celV w σ o' y' := by
  intro o' y' h
  rcases y' with ⟨ci, rf, N⟩ | ⟨t, n⟩ | n | ⟨t, n⟩ | ⟨ci, fs⟩
  · rfl
  · rfl
  · rfl
  · simp only [celV, gR_sR_ne h]
  · rfl
/-- 0 or 1 -/
def bz (v : Int32) : Prop := v = 0 ∨ v = 1
theorem bz_nar {v : Int32} (h : bz v) : narrow .boolean (.int v) = .int v := by rcases h with rfl | rfl <;> decide
theorem bz_fit {v : Int32} (h : bz v) : fits .boolean (.int v) = true := by rcases h with rfl | rfl <;> decide
theorem wA_in {w : WO} {o : Nat} {y : LY} (hy : wLy w o = some y) (hq : isQ y = true → wFl w := by intro z; exact Bool.noConfusion (show false = true from z)) : wA w (wAd w o) := ⟨o, y, hy, hq, rfl⟩
section RWH
variable {X : CT} {w : WO} {L : LIM} {nL : Nat} {Q : State → Prop} {σ : DD} {pc : Nat} {lv lv' : List (Nat × Value)} {rest st : List Value} {cc : ByteArray} {own : String} {rt : Option FieldType} {cw : Cond} {rm : Room}
theorem r_getI (C : CF X w L nL cc own rt cw rm) {ix ci k N : Nat} {ty : FieldType} {fin : Bool} {rf : Nat → Option Nat} (hF : FL own ix ci k N ty fin) (o : Nat) (hy : wLy w o = some (lO ci rf N)) (hr : rf k = none) (hd : decode cc pc = .ok (.getfield ix, 3)) (kk : gW X w L nL Q σ (pc + 3) lv (.int (gI σ o k) :: rest)) : gW X w L nL Q σ pc lv (.ref (wAd w o) :: rest) := fun H locs ls a b d => by
  obtain ⟨Cn, T, tyf, hc, hk, hin, hlink, hnm, hty, hte, hf⟩ := hF
  refine va_get C.1 C.2.1 (Ts := cw :: TT) C.2.2.2.2.1 (fun t ht => List.mem_cons_of_mem _ (hin t ht)) C.2.2.2.1 C.kk.1 (wd_one a hy) 0 rfl hc k hk (C.wd hlink) (fun x hx => hx) (v := .int (gI σ o k)) ?_ hd (kk H locs ls a b d)
  simp [hk, fldV, hr]
theorem r_getR (C : CF X w L nL cc own rt cw rm) {ix ci k N : Nat} {ty : FieldType} {fin : Bool} {rf : Nat → Option Nat} (hF : FL own ix ci k N ty fin) (o : Nat) (hy : wLy w o = some (lO ci rf N)) {j : Nat} (hr : rf k = some j) (hd : decode cc pc = .ok (.getfield ix, 3)) (kk : gW X w L nL Q σ (pc + 3) lv (.ref (wAd w j) :: rest)) : gW X w L nL Q σ pc lv (.ref (wAd w o) :: rest) := fun H locs ls a b d => by
  obtain ⟨Cn, T, tyf, hc, hk, hin, hlink, hnm, hty, hte, hf⟩ := hF
  refine va_get C.1 C.2.1 (Ts := cw :: TT) C.2.2.2.2.1 (fun t ht => List.mem_cons_of_mem _ (hin t ht)) C.2.2.2.1 C.kk.1 (wd_one a hy) 0 rfl hc k hk (C.wd hlink) (fun x hx => hx) (v := .ref (wAd w j)) ?_ hd (kk H locs ls a b d)
  simp [hk, fldV, hr]
theorem r_putV (C : CF X w L nL cc own rt cw rm) {ix ci k N : Nat} {ty : FieldType} {rf : Nat → Option Nat} (hF : FL own ix ci k N ty false) (o : Nat) (hy : wLy w o = some (lO ci rf N)) (hr : rf k = none) {x : Int32} (hnr : narrow ty (.int x) = .int x) (hft : fits ty (.int x) = true) (hd : decode cc pc = .ok (.putfield ix, 3)) (kk : gW X w L nL Q (sI σ o k x) (pc + 3) lv rest) : gW X w L nL Q σ pc lv (.int x :: .ref (wAd w o) :: rest) := fun H locs ls a b d => by
  obtain ⟨Cn, T, tyf, hc, hk, hin, hlink, hnm, hty, hte, hf⟩ := hF
  have hin' : ∀ t ∈ u_ws Cn T N, t ∈ cw :: TT := fun t ht => List.mem_cons_of_mem _ (hin t ht)
  have hts := C.2.2.2.2.1
  have hK := C.kk.1
  have hap := va_apart (own := own) hts hin' tyf hty hnm hK hc
  obtain ⟨r, h1, cell, q1, q2, q3, q4⟩ := a.1 o _ hy
  have hr' : r = (Cn, T, N) := Option.some.inj (h1.symm.trans hc)
  subst hr'
  obtain ⟨hS, hfc, kC, hkC, hkind⟩ := hK.1 ci _ hc
  obtain ⟨cf, kf, fi, f, hi, hsl⟩ := hS k hk
  have hlay := hts _ (hin' _ (u_in_lay hk))
  unfold u_lay at hlay
  rw [if_neg (by rw [hf]; decide)] at hlay
  have hst := (u_facts hfc hkC (u_lays hts hin' hk) hi).1
  have h6 := u_store hfc hkC hkind hlay hi (hty k hk) (by rw [hte]; exact hnr) (by rw [hte]; exact hft)
  refine W.putK C.1 C.2.1 (f := f) ⟨C.2.2.2.1, C.wd hlink, ⟨_, _, _, hi⟩, hst⟩ (by rw [q2]; exact h6) q1 q3 (by rw [hsl]; exact k2_hasslot (q4 k hk)) rfl rfl hd fun H' e1 e2 e3 => ?_
  rw [hsl] at e1 ⊢
  refine kk H' _ ls (wd_set a hy cel_sI ?_ e3) (b.put e2 e3 (C.lim _ (wA_in hy))) d
  refine ⟨_, hc, t_OB.to (V := updV (vp_V ((List.range N).map (fun j => fldV w σ o (rf j) j))) k (.int x)) ⟨_, e1, q2, q3, t_set q4 hap hk _⟩ (fun j hj => ?_)⟩
  have e : ∀ τ : DD, vp_V ((List.range N).map (fun j => fldV w τ o (rf j) j)) j = fldV w τ o (rf j) j := fun τ => by simp [vp_V, hj]
  show updV (vp_V ((List.range N).map (fun j => fldV w σ o (rf j) j))) k (.int x) j = vp_V ((List.range N).map (fun j => fldV w (sI σ o k x) o (rf j) j)) j
  rw [e]
  by_cases hjk : j = k
  · subst hjk
    simp [updV, hr, fldV, gI, sI]
  · rw [fldV_sI (fun q => hjk q.2)]
    simp only [updV, if_neg hjk]
    exact e σ
theorem r_putI (C : CF X w L nL cc own rt cw rm) {ix ci k N : Nat} {rf : Nat → Option Nat} (hF : FL own ix ci k N .int false) (o : Nat) (hy : wLy w o = some (lO ci rf N)) (hr : rf k = none) {x : Int32} (hd : decode cc pc = .ok (.putfield ix, 3)) (kk : gW X w L nL Q (sI σ o k x) (pc + 3) lv rest) : gW X w L nL Q σ pc lv (.int x :: .ref (wAd w o) :: rest) := r_putV C hF o hy hr rfl rfl hd kk
theorem r_putZ (C : CF X w L nL cc own rt cw rm) {ix ci k N : Nat} {rf : Nat → Option Nat} (hF : FL own ix ci k N .boolean false) (o : Nat) (hy : wLy w o = some (lO ci rf N)) (hr : rf k = none) {x : Int32} (hz : bz x) (hd : decode cc pc = .ok (.putfield ix, 3)) (kk : gW X w L nL Q (sI σ o k x) (pc + 3) lv rest) : gW X w L nL Q σ pc lv (.int x :: .ref (wAd w o) :: rest) := r_putV C hF o hy hr (bz_nar hz) (bz_fit hz) hd kk
theorem r_iald (C : CF X w L nL cc own rt cw rm) (o : Nat) {n : Nat} (hy : wLy w o = some (lI 0 n)) {i : Int32} (hin : vp_in i n) (hd : decode cc pc = .ok (.iaload, 1)) (kk : gW X w L nL Q σ (pc + 1) lv (.int (gI σ o i.toNatClampNeg) :: rest)) : gW X w L nL Q σ pc lv (.int i :: .ref (wAd w o) :: rest) := fun H locs ls a b d => va_iald C.1 C.2.1 C.kk.1 (wd_one a hy) 0 0 rfl rfl hin hd (kk H locs ls a b d)
theorem r_bald (C : CF X w L nL cc own rt cw rm) (o : Nat) {n : Nat} (hy : wLy w o = some (lI 1 n)) {i : Int32} (hin : vp_in i n) (hd : decode cc pc = .ok (.baload, 1)) (kk : gW X w L nL Q σ (pc + 1) lv (.int (gI σ o i.toNatClampNeg) :: rest)) : gW X w L nL Q σ pc lv (.int i :: .ref (wAd w o) :: rest) := fun H locs ls a b d => va_bald C.1 C.2.1 C.kk.1 (wd_one a hy) 0 1 rfl rfl hin hd (kk H locs ls a b d)
theorem r_zald (C : CF X w L nL cc own rt cw rm) (o : Nat) {n : Nat} (hy : wLy w o = some (lI 2 n)) {i : Int32} (hin : vp_in i n) (hd : decode cc pc = .ok (.baload, 1)) (kk : gW X w L nL Q σ (pc + 1) lv (.int (gI σ o i.toNatClampNeg) :: rest)) : gW X w L nL Q σ pc lv (.int i :: .ref (wAd w o) :: rest) := fun H locs ls a b d => va_zald C.1 C.2.1 C.kk.1 (wd_one a hy) 0 2 rfl rfl hin hd (kk H locs ls a b d)
theorem r_lald (C : CF X w L nL cc own rt cw rm) (o : Nat) {n : Nat} (hy : wLy w o = some (lJ n)) {i : Int32} (hin : vp_in i n) (hd : decode cc pc = .ok (.laload, 1)) (kk : gW X w L nL Q σ (pc + 1) lv (.long (gL σ o i.toNatClampNeg) :: rest)) : gW X w L nL Q σ pc lv (.int i :: .ref (wAd w o) :: rest) := fun H locs ls a b d => va_lald C.1 C.2.1 C.kk.1 (wd_one a hy) 0 3 rfl rfl hin hd (kk H locs ls a b d)
theorem arr_in {cA : ClassId} {n : Nat} {z : Nat → Value} {i : Int32} (h : vp_in i n) : ¬ (i < 0 ∨ (arrV cA n z).slots.size ≤ i.toNatClampNeg) := by rw [arrV_size]; exact h
theorem r_iast (C : CF X w L nL cc own rt cw rm) (o : Nat) {n : Nat} (hy : wLy w o = some (lI 0 n)) {i x : Int32} (hin : vp_in i n) (hd : decode cc pc = .ok (.iastore, 1)) (kk : gW X w L nL Q (sI σ o i.toNatClampNeg x) (pc + 1) lv rest) : gW X w L nL Q σ pc lv (.int x :: .int i :: .ref (wAd w o) :: rest) := fun H locs ls a b d => by
  refine W.iast C.1 C.2.1 (a.1 o _ hy) ((C.kk.1.2 0 _ rfl).1 n (fun j => .int (gI σ o j))) (fun q => by cases q) (arr_in hin) rfl rfl hd fun H1 e z oq => ?_
  refine kk H1 _ ls (wd_set a hy cel_sI ?_ oq) (b.put z oq (C.lim _ (wA_in hy))) d
  show H1[wAd w o]? = some (vp_cell _ _)
  rw [e]
  simp only [gI_sI_up]
  rw [vp_cell_i, vp_cell_i, arrV_store]
  congr 2
  funext q
  by_cases hq : q = i.toNatClampNeg
  · subst hq; simp [updV, upd]
  · simp [updV, upd, hq]
theorem r_bast (C : CF X w L nL cc own rt cw rm) (o : Nat) {n : Nat} (hy : wLy w o = some (lI 1 n)) {i x : Int32} (hin : vp_in i n) (hd : decode cc pc = .ok (.bastore, 1)) (kk : gW X w L nL Q (sI σ o i.toNatClampNeg (vp_nar .byte x)) (pc + 1) lv rest) : gW X w L nL Q σ pc lv (.int x :: .int i :: .ref (wAd w o) :: rest) := fun H locs ls a b d => by
  refine W.bast C.1 C.2.1 (a.1 o _ hy) ((C.kk.1.2 1 _ rfl).1 n (fun j => .int (gI σ o j))) (fun q => by cases q) (arr_in hin) rfl rfl hd fun H1 e z oq => ?_
  refine kk H1 _ ls (wd_set a hy cel_sI ?_ oq) (b.put z oq (C.lim _ (wA_in hy))) d
  show H1[wAd w o]? = some (vp_cell _ _)
  rw [e]
  simp only [gI_sI_up]
  rw [vp_cell_i, vp_cell_i, arrV_store]
  congr 2
  funext q
  by_cases hq : q = i.toNatClampNeg
  · subst hq; simp [updV, upd, vp_nar]; try rfl
  · simp [updV, upd, hq]
theorem r_zast (C : CF X w L nL cc own rt cw rm) (o : Nat) {n : Nat} (hy : wLy w o = some (lI 2 n)) {i x : Int32} (hin : vp_in i n) (hd : decode cc pc = .ok (.bastore, 1)) (kk : gW X w L nL Q (sI σ o i.toNatClampNeg (vp_nar .boolean x)) (pc + 1) lv rest) : gW X w L nL Q σ pc lv (.int x :: .int i :: .ref (wAd w o) :: rest) := fun H locs ls a b d => by
  refine W.zast C.1 C.2.1 (a.1 o _ hy) ((C.kk.1.2 2 _ rfl).1 n (fun j => .int (gI σ o j))) (fun q => by cases q) (arr_in hin) rfl rfl hd fun H1 e z oq => ?_
  refine kk H1 _ ls (wd_set a hy cel_sI ?_ oq) (b.put z oq (C.lim _ (wA_in hy))) d
  show H1[wAd w o]? = some (vp_cell _ _)
  rw [e]
  simp only [gI_sI_up]
  rw [vp_cell_i, vp_cell_i, arrV_store]
  congr 2
  funext q
  by_cases hq : q = i.toNatClampNeg
  · subst hq; simp [updV, upd, vp_nar]; try rfl
  · simp [updV, upd, hq]
theorem r_last (C : CF X w L nL cc own rt cw rm) (o : Nat) {n : Nat} (hy : wLy w o = some (lJ n)) {i : Int32} {x : Int64} (hin : vp_in i n) (hd : decode cc pc = .ok (.lastore, 1)) (kk : gW X w L nL Q (sL σ o i.toNatClampNeg x) (pc + 1) lv rest) : gW X w L nL Q σ pc lv (.long x :: .int i :: .ref (wAd w o) :: rest) := fun H locs ls a b d => by
  refine W.last C.1 C.2.1 (a.1 o _ hy) ((C.kk.1.2 3 _ rfl).1 n (fun j => .long (gL σ o j))) (fun q => by cases q) (arr_in hin) rfl rfl hd fun H1 e z oq => ?_
  refine kk H1 _ ls (wd_set a hy cel_sL ?_ oq) (b.put z oq (C.lim _ (wA_in hy))) d
  show H1[wAd w o]? = some (vp_cell _ _)
  rw [e]
  simp only [gL_sL_up]
  rw [vp_cell_l, vp_cell_l, arrV_store]
  congr 2
  funext q
  by_cases hq : q = i.toNatClampNeg
  · subst hq; simp [updV, vp_updL]
  · simp [updV, vp_updL, hq]
theorem r_alenI (C : CF X w L nL cc own rt cw rm) (o : Nat) {t n : Nat} (hy : wLy w o = some (lI t n)) (ht : t < 3) (v : Int32) (hv : Int32.ofNat n = v) (hd : decode cc pc = .ok (.arraylength, 1)) (kk : gW X w L nL Q σ (pc + 1) lv (.int v :: rest)) : gW X w L nL Q σ pc lv (.ref (wAd w o) :: rest) := fun H locs ls a b d => by
  rcases (show t = 0 ∨ t = 1 ∨ t = 2 by omega) with rfl | rfl | rfl
  · exact va_alen C.1 C.2.1 C.kk.1 (wd_one a hy) 0 0 rfl rfl hv hd (kk H locs ls a b d)
  · exact va_alen C.1 C.2.1 C.kk.1 (wd_one a hy) 0 1 rfl rfl hv hd (kk H locs ls a b d)
  · exact va_alen C.1 C.2.1 C.kk.1 (wd_one a hy) 0 2 rfl rfl hv hd (kk H locs ls a b d)
theorem r_alenJ (C : CF X w L nL cc own rt cw rm) (o : Nat) {n : Nat} (hy : wLy w o = some (lJ n)) (v : Int32) (hv : Int32.ofNat n = v) (hd : decode cc pc = .ok (.arraylength, 1)) (kk : gW X w L nL Q σ (pc + 1) lv (.int v :: rest)) : gW X w L nL Q σ pc lv (.ref (wAd w o) :: rest) := fun H locs ls a b d => va_alen C.1 C.2.1 C.kk.1 (wd_one a hy) 0 3 rfl rfl hv hd (kk H locs ls a b d)
theorem r_ialdK (C : CF X w L nL cc own rt cw rm) (o : Nat) {n : Nat} (hy : wLy w o = some (lI 0 n)) {i : Int32} {k : Nat} (hk : i.toNatClampNeg = k) (hin : vp_in i n) (hd : decode cc pc = .ok (.iaload, 1)) (kk : gW X w L nL Q σ (pc + 1) lv (.int (gI σ o k) :: rest)) : gW X w L nL Q σ pc lv (.int i :: .ref (wAd w o) :: rest) := by subst hk; exact r_iald C o hy hin hd kk
theorem r_baldK (C : CF X w L nL cc own rt cw rm) (o : Nat) {n : Nat} (hy : wLy w o = some (lI 1 n)) {i : Int32} {k : Nat} (hk : i.toNatClampNeg = k) (hin : vp_in i n) (hd : decode cc pc = .ok (.baload, 1)) (kk : gW X w L nL Q σ (pc + 1) lv (.int (gI σ o k) :: rest)) : gW X w L nL Q σ pc lv (.int i :: .ref (wAd w o) :: rest) := by subst hk; exact r_bald C o hy hin hd kk
theorem r_zaldK (C : CF X w L nL cc own rt cw rm) (o : Nat) {n : Nat} (hy : wLy w o = some (lI 2 n)) {i : Int32} {k : Nat} (hk : i.toNatClampNeg = k) (hin : vp_in i n) (hd : decode cc pc = .ok (.baload, 1)) (kk : gW X w L nL Q σ (pc + 1) lv (.int (gI σ o k) :: rest)) : gW X w L nL Q σ pc lv (.int i :: .ref (wAd w o) :: rest) := by subst hk; exact r_zald C o hy hin hd kk
theorem r_laldK (C : CF X w L nL cc own rt cw rm) (o : Nat) {n : Nat} (hy : wLy w o = some (lJ n)) {i : Int32} {k : Nat} (hk : i.toNatClampNeg = k) (hin : vp_in i n) (hd : decode cc pc = .ok (.laload, 1)) (kk : gW X w L nL Q σ (pc + 1) lv (.long (gL σ o k) :: rest)) : gW X w L nL Q σ pc lv (.int i :: .ref (wAd w o) :: rest) := by subst hk; exact r_lald C o hy hin hd kk
theorem r_iastK (C : CF X w L nL cc own rt cw rm) (o : Nat) {n : Nat} (hy : wLy w o = some (lI 0 n)) {i : Int32} {x : Int32} {k : Nat} (hk : i.toNatClampNeg = k) (hin : vp_in i n) (hd : decode cc pc = .ok (.iastore, 1)) (kk : gW X w L nL Q (sI σ o k x) (pc + 1) lv rest) : gW X w L nL Q σ pc lv (.int x :: .int i :: .ref (wAd w o) :: rest) := by subst hk; exact r_iast C o hy hin hd kk
theorem r_bastK (C : CF X w L nL cc own rt cw rm) (o : Nat) {n : Nat} (hy : wLy w o = some (lI 1 n)) {i : Int32} {x : Int32} {k : Nat} (hk : i.toNatClampNeg = k) (hin : vp_in i n) (hd : decode cc pc = .ok (.bastore, 1)) (kk : gW X w L nL Q (sI σ o k (vp_nar .byte x)) (pc + 1) lv rest) : gW X w L nL Q σ pc lv (.int x :: .int i :: .ref (wAd w o) :: rest) := by subst hk; exact r_bast C o hy hin hd kk
theorem r_zastK (C : CF X w L nL cc own rt cw rm) (o : Nat) {n : Nat} (hy : wLy w o = some (lI 2 n)) {i : Int32} {x : Int32} {k : Nat} (hk : i.toNatClampNeg = k) (hin : vp_in i n) (hd : decode cc pc = .ok (.bastore, 1)) (kk : gW X w L nL Q (sI σ o k (vp_nar .boolean x)) (pc + 1) lv rest) : gW X w L nL Q σ pc lv (.int x :: .int i :: .ref (wAd w o) :: rest) := by subst hk; exact r_zast C o hy hin hd kk
theorem r_lastK (C : CF X w L nL cc own rt cw rm) (o : Nat) {n : Nat} (hy : wLy w o = some (lJ n)) {i : Int32} {x : Int64} {k : Nat} (hk : i.toNatClampNeg = k) (hin : vp_in i n) (hd : decode cc pc = .ok (.lastore, 1)) (kk : gW X w L nL Q (sL σ o k x) (pc + 1) lv rest) : gW X w L nL Q σ pc lv (.long x :: .int i :: .ref (wAd w o) :: rest) := by subst hk; exact r_last C o hy hin hd kk
/-! returns -/
theorem r_iret (C : CF X w (lim0 w) nL cc own (some .int) cw rm) {post : Int32 → DD → Prop} {v : Int32} (h : post v σ) (hd : decode cc pc = .ok (.ireturn, 1)) : gW X w (lim0 w) nL (QI X w post) σ pc lv [.int v] := fun H locs ls a b d => by
  refine W.iret C.1 C.2.1 C.rty (fun t ht hW => ⟨⟨v, σ, rfl, h, by rw [ht]; exact a, KK.moved hW.alike C.kk⟩, b.F ht⟩) (fun q hq => b.2.2 q hq) hd C.lk
theorem r_zret (C : CF X w (lim0 w) nL cc own (some .boolean) cw rm) {post : Int32 → DD → Prop} {v : Int32} (hz : bz v) (h : post v σ) (hd : decode cc pc = .ok (.ireturn, 1)) : gW X w (lim0 w) nL (QI X w post) σ pc lv [.int v] := fun H locs ls a b d => by
  refine W.zret C.1 C.2.1 C.rty (bz_nar hz) (fun t ht hW => ⟨⟨v, σ, rfl, h, by rw [ht]; exact a, KK.moved hW.alike C.kk⟩, b.F ht⟩) (fun q hq => b.2.2 q hq) hd C.lk
theorem r_lret (C : CF X w (lim0 w) nL cc own (some .long) cw rm) {post : Int64 → DD → Prop} {v : Int64} (h : post v σ) (hd : decode cc pc = .ok (.lreturn, 1)) : gW X w (lim0 w) nL (QL X w post) σ pc lv [.long v] := fun H locs ls a b d => by
  refine W.lret C.1 C.2.1 C.rty (fun t ht hW => ⟨⟨v, σ, rfl, h, by rw [ht]; exact a, KK.moved hW.alike C.kk⟩, b.F ht⟩) (fun q hq => b.2.2 q hq) hd C.lk
theorem r_vret (C : CF X w (lim0 w) nL cc own none cw rm) {post : DD → Prop} (h : post σ) (hd : decode cc pc = .ok (.return_, 1)) : gW X w (lim0 w) nL (QV X w post) σ pc lv [] := fun H locs ls a b d => by
  refine W.vret C.1 C.2.1 C.rty (fun t ht hW => ⟨⟨σ, rfl, h, by rw [ht]; exact a, KK.moved hW.alike C.kk⟩, b.F ht⟩) (fun q hq => b.2.2 q hq) hd C.lk
/-! calls -/
theorem wP_blind {w : WO} {σ : DD} {av : List Value} : FrameBlind (wP w σ av) := fun a U g mk q => ⟨q.1, q.2.1, KK.moved (u := U) (U := U.calling g mk a) (Vm.Alike.refl U.vm) q.2.2.1, q.2.2.1.2.1 U (U.calling g mk a) _ (Or.inl rfl) q.2.2.2⟩
theorem cl_good {own : String} {ix ci maxL n : Nat} {y : MethodName} {bytes : ByteArray} {ret : Option FieldType} {cw : Cond} (h : CL own ix ci y bytes maxL ret n) : GoodIn (cw :: TT) (wsV own ix y.cls y (.code y bytes maxL ret :: TT)) := by
  obtain ⟨-, h1, h2, h3, h4, h5, -⟩ := h
  intro t ht
  have key : t ∈ TT → t ∈ cw :: TT ∧ ((t.onTables && t.keeps) = true ∨ ∃ ty, t = .arrayClass ty) := fun q => ⟨List.mem_cons_of_mem _ q, tt_good q⟩
  simp only [wsV, List.cons_append, List.nil_append, List.mem_cons] at ht
  rcases ht with rfl | rfl | rfl | rfl | rfl | ht
  · exact key h1
  · exact key h2
  · exact key h3
  · exact key h4
  · exact key h5
  · exact key ht
theorem wd_recv {o ci N : Nat} {rf : Nat → Option Nat} {H : Heap} {s : State} {q : vw_C} (hK : KK w s) (a : Wd w σ H) (hc : cls12[ci]? = some q) (hy : wLy w o = some (lO ci rf N)) : ∃ cell : Cell, H[wAd w o]? = some cell ∧ cell.vm.isStatics = false ∧ s.vm.findClass q.1 = some cell.cls :=
  va_recv (q0 := 0) hK.1 (wd_one a hy) hc rfl
/-- frames, locals' words, no cells, no slots -/
abbrev rmOk (rm' rm : Room) (maxL : Nat) : Prop := rm'.frames + 1 ≤ rm.frames ∧ 8 + (maxL + 11) + rm'.locals ≤ rm.locals ∧ rm'.cells = 0 ∧ rm'.slots = 0
theorem r_cvI (C : CF X w L nL cc own rt cw rm) {ix ci maxL n : Nat} {y : MethodName} {bytes : ByteArray} {rt' : FieldType} (hL : CL own ix ci y bytes maxL (some rt') n) {rm' : Room} {post : Int32 → DD → Prop} (o : Nat) {rf : Nat → Option Nat} {N : Nat} (hy : wLy w o = some (lO ci rf N)) (As : List Value) (hM : MI X.l w y bytes maxL rt' rm' σ (.ref (wAd w o) :: As) post) (hR : rmOk rm' rm maxL) (hn : As.length = n) (hst : st = As.reverse ++ .ref (wAd w o) :: rest) (hW : (rest.map fun v => v.category).sum ≤ 8) (hd : decode cc pc = .ok (.invokevirtual ix, 3)) (kk : ∀ r σ', post r σ' → gW X w L nL Q σ' (pc + 3) lv (.int r :: rest)) : gW X w L nL Q σ pc lv st := fun H locs ls a b d => by
  subst hst
  obtain ⟨T, N', hc⟩ := hL.1
  have hR' : rm'.frames + 1 ≤ X.R.frames ∧ 8 + (maxL + 11) + rm'.locals ≤ X.R.locals := by rw [C.room]; exact ⟨hR.1, hR.2.1⟩
  exact va_calli (A0 := L.1) (va_runV (As := As) (rest := rest) ⟨C.1, C.2.1, C.2.2.1, C.2.2.2.1, C.2.2.2.2.1⟩ hM (cwV n C.2.2.2.2.1 (cl_good hL) rfl hR.2.2.1 hR.2.2.2 ⟨rfl, hL.2.2.2.2.2.2⟩ hR') ⟨wP_blind, wd_recv C.kk a hc hy, fun U hU hW => ⟨rfl, by rw [hU]; exact a, KK.moved hW.alike C.kk, C.zAt b hU hW⟩⟩ rfl hn d.1 rfl (lv_room hW) hd (by rw [C.room]; exact C.cel)) b (fun q _ h => C.lim q h) (fun q h => C.lim q h) (fun r σ' t H1 locs1 ht hvm hp hB hz hk hS => kk r σ' hp H1 locs1 ls (by rw [← ht]; exact hB.1) hS d)
theorem r_cvL (C : CF X w L nL cc own rt cw rm) {ix ci maxL n : Nat} {y : MethodName} {bytes : ByteArray} (hL : CL own ix ci y bytes maxL (some .long) n) {rm' : Room} {post : Int64 → DD → Prop} (o : Nat) {rf : Nat → Option Nat} {N : Nat} (hy : wLy w o = some (lO ci rf N)) (As : List Value) (hM : ML X.l w y bytes maxL rm' σ (.ref (wAd w o) :: As) post) (hR : rmOk rm' rm maxL) (hn : As.length = n) (hst : st = As.reverse ++ .ref (wAd w o) :: rest) (hW : (rest.map fun v => v.category).sum ≤ 8) (hd : decode cc pc = .ok (.invokevirtual ix, 3)) (kk : ∀ r σ', post r σ' → gW X w L nL Q σ' (pc + 3) lv (.long r :: rest)) : gW X w L nL Q σ pc lv st := fun H locs ls a b d => by
  subst hst
  obtain ⟨T, N', hc⟩ := hL.1
  have hR' : rm'.frames + 1 ≤ X.R.frames ∧ 8 + (maxL + 11) + rm'.locals ≤ X.R.locals := by rw [C.room]; exact ⟨hR.1, hR.2.1⟩
  exact va_calll (A0 := L.1) (va_runV (As := As) (rest := rest) ⟨C.1, C.2.1, C.2.2.1, C.2.2.2.1, C.2.2.2.2.1⟩ hM (cwV n C.2.2.2.2.1 (cl_good hL) rfl hR.2.2.1 hR.2.2.2 ⟨rfl, hL.2.2.2.2.2.2⟩ hR') ⟨wP_blind, wd_recv C.kk a hc hy, fun U hU hW => ⟨rfl, by rw [hU]; exact a, KK.moved hW.alike C.kk, C.zAt b hU hW⟩⟩ rfl hn d.1 rfl (lv_room hW) hd (by rw [C.room]; exact C.cel)) b (fun q _ h => C.lim q h) (fun q h => C.lim q h) (fun r σ' t H1 locs1 ht hvm hp hB hz hk hS => kk r σ' hp H1 locs1 ls (by rw [← ht]; exact hB.1) hS d)
theorem r_cvV (C : CF X w L nL cc own rt cw rm) {ix ci maxL n : Nat} {y : MethodName} {bytes : ByteArray} (hL : CL own ix ci y bytes maxL none n) {rm' : Room} {post : DD → Prop} (o : Nat) {rf : Nat → Option Nat} {N : Nat} (hy : wLy w o = some (lO ci rf N)) (As : List Value) (hM : MV X.l w y bytes maxL rm' σ (.ref (wAd w o) :: As) post) (hR : rmOk rm' rm maxL) (hn : As.length = n) (hst : st = As.reverse ++ .ref (wAd w o) :: rest) (hW : (rest.map fun v => v.category).sum ≤ 8) (hd : decode cc pc = .ok (.invokevirtual ix, 3)) (kk : ∀ σ', post σ' → gW X w L nL Q σ' (pc + 3) lv rest) : gW X w L nL Q σ pc lv st := fun H locs ls a b d => by
  subst hst
  obtain ⟨T, N', hc⟩ := hL.1
  have hR' : rm'.frames + 1 ≤ X.R.frames ∧ 8 + (maxL + 11) + rm'.locals ≤ X.R.locals := by rw [C.room]; exact ⟨hR.1, hR.2.1⟩
  exact va_callv (A0 := L.1) (va_runV (As := As) (rest := rest) ⟨C.1, C.2.1, C.2.2.1, C.2.2.2.1, C.2.2.2.2.1⟩ hM (cwV n C.2.2.2.2.1 (cl_good hL) rfl hR.2.2.1 hR.2.2.2 ⟨rfl, hL.2.2.2.2.2.2⟩ hR') ⟨wP_blind, wd_recv C.kk a hc hy, fun U hU hW => ⟨rfl, by rw [hU]; exact a, KK.moved hW.alike C.kk, C.zAt b hU hW⟩⟩ rfl hn d.1 rfl (lv_room hW) hd (by rw [C.room]; exact C.cel)) b (fun q _ h => C.lim q h) (fun q h => C.lim q h) (fun σ' t H1 locs1 ht hvm hp hB hz hk hS => kk σ' hp H1 locs1 ls (by rw [← ht]; exact hB.1) hS d)
theorem cs_B {ix maxL n : Nat} {y : MethodName} {bytes : ByteArray} {ret : Option FieldType} {rm' : Room} (C : CF X w L nL cc own rt cw rm) (hL : CS own ix y bytes maxL ret n) (hR : rmOk rm' rm maxL) : CallB X.R X.s X.args own ix y bytes maxL ret (.code y bytes maxL ret :: TT) rm' 0 0 n ∧ (Cond.static y).before X.args X.s = true := by
  obtain ⟨h1, h2, h3, h4, h5⟩ := hL
  exact ⟨callB_of n C.2.2.2.2.1 (tt_goodIn h4) rfl hR.2.2.1 hR.2.2.2 (C.wd h3) (C.wd h1) h5 (by rw [C.room]; exact ⟨hR.1, hR.2.1⟩), C.wd h2⟩
theorem r_csI (C : CF X w L nL cc own rt cw rm) {ix maxL n : Nat} {y : MethodName} {bytes : ByteArray} {rt' : FieldType} (hL : CS own ix y bytes maxL (some rt') n) {rm' : Room} {post : Int32 → DD → Prop} (As : List Value) (hM : MI X.l w y bytes maxL rt' rm' σ As post) (hR : rmOk rm' rm maxL) (hn : As.length = n) (hst : st = As.reverse ++ rest) (hW : (rest.map fun v => v.category).sum ≤ 8) (hd : decode cc pc = .ok (.invokestatic ix, 3)) (kk : ∀ r σ', post r σ' → gW X w L nL Q σ' (pc + 3) lv (.int r :: rest)) : gW X w L nL Q σ pc lv st := fun H locs ls a b d => by
  subst hst
  exact va_calli (A0 := L.1) (va_runS (As := As) (rest := rest) ⟨C.1, C.2.1, C.2.2.1, C.2.2.2.1, C.2.2.2.2.1⟩ hM (cs_B C hL hR) ⟨wP_blind, fun U hU hW => ⟨rfl, by rw [hU]; exact a, KK.moved hW.alike C.kk, C.zAt b hU hW⟩⟩ rfl hn d.1 rfl (lv_room hW) hd (by rw [C.room]; exact C.cel)) b (fun q _ h => C.lim q h) (fun q h => C.lim q h) (fun r σ' t H1 locs1 ht hvm hp hB hz hk hS => kk r σ' hp H1 locs1 ls (by rw [← ht]; exact hB.1) hS d)
theorem r_csV (C : CF X w L nL cc own rt cw rm) {ix maxL n : Nat} {y : MethodName} {bytes : ByteArray} (hL : CS own ix y bytes maxL none n) {rm' : Room} {post : DD → Prop} (As : List Value) (hM : MV X.l w y bytes maxL rm' σ As post) (hR : rmOk rm' rm maxL) (hn : As.length = n) (hst : st = As.reverse ++ rest) (hW : (rest.map fun v => v.category).sum ≤ 8) (hd : decode cc pc = .ok (.invokestatic ix, 3)) (kk : ∀ σ', post σ' → gW X w L nL Q σ' (pc + 3) lv rest) : gW X w L nL Q σ pc lv st := fun H locs ls a b d => by
  subst hst
  exact va_callv (A0 := L.1) (va_runS (As := As) (rest := rest) ⟨C.1, C.2.1, C.2.2.1, C.2.2.2.1, C.2.2.2.2.1⟩ hM (cs_B C hL hR) ⟨wP_blind, fun U hU hW => ⟨rfl, by rw [hU]; exact a, KK.moved hW.alike C.kk, C.zAt b hU hW⟩⟩ rfl hn d.1 rfl (lv_room hW) hd (by rw [C.room]; exact C.cel)) b (fun q _ h => C.lim q h) (fun q h => C.lim q h) (fun σ' t H1 locs1 ht hvm hp hB hz hk hS => kk σ' hp H1 locs1 ls (by rw [← ht]; exact hB.1) hS d)
end RWH
/-! heads -/
theorem met_head {l : Launch} {w : WO} {y : MethodName} {cc : ByteArray} {nL : Nat} {rt : Option FieldType} {rm : Room} {σ : DD} {av : List Value} {Qc : Array Value → State → Outcome → State → Prop} (hy : plainName y.cls = true) (hn : Nat.ble (lg_sl av).length nL = true)
    (body : ∀ X : CT, X.l = l → CF X w (lim0 w) nL cc y.cls rt (.code y cc nL rt) rm → gW X w (lim0 w) nL (MQ X.below Qc X.args X.s 0 0 (wA w)) σ 0 (lv_args 0 av) []) : Met l y (.code y cc nL rt :: TT) rm (wP w σ av) Qc 0 0 (wA w) := by
  refine Met.ofW (cc := cc) (maxL := nL) (ret := rt) hy rfl ?_
  intro p e s m args below meth c s₁ B hml hv
  obtain ⟨rfl, hWd, hK, hZ⟩ := hv
  have hts := atoms_spec (ws := .code y cc nL rt :: TT) B.pre
  have hl := lv_entry av (n := nL) (Nat.le_of_ble_eq_true hn)
  rw [lg_entry_eq]
  exact body (p, l, e, _, s, m, _, below, meth, c) rfl ⟨B.exec, B.bytes, hml, findClass_of_methodNamed B.named, hts, hK, B.returns, B.notSynchronized, rfl, fun _ q => q, fun _ _ q => q, ⟨Nat.zero_le _, Nat.zero_le _⟩, hZ⟩ s.heap [] _ hWd va_S.rf hl
