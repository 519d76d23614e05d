/-! ===== the law calls the class, the model ===== -/
/-- the model's world, as the law has it -/
def KM (X : CT) (v : WO) : Prop := KK v X.s ∧ (∀ U H, wZ v U H) ∧ LyM v ∧ ∀ q, wA v q → X.s.heap.size ≤ q
theorem BW.f {b : BZ} {w : WO} (h : BW b w) (hF : wFl w) : BW b (wF w False) := ⟨h.1, h.2.1, fun q hq => h.2.2 q (wA_fw hF hq)⟩
section LC
variable {X : CT} {w v : WO} {A : Nat → Prop} {c0 s0 : Nat} {Q : State → Prop} {x m : DD} {pc : Nat} {lv : List (Nat × Value)} {rest st : List Value} {b : BZ}
theorem dj_v (hD : Dj w v) (hF : wFl w) {o : Nat} (ho : wLy v o ≠ none) : ¬ wA w (wAd v o) := by
  intro h
  obtain ⟨o', h1, h2⟩ := wA_live h
  exact hD o' o h1 ho h2.symm
theorem dj_w (hD : Dj w v) {o : Nat} (ho : wLy w o ≠ none) : ¬ wA v (wAd w o) := by
  intro h
  obtain ⟨o', h1, h2⟩ := wA_live h
  exact hD o o' ho h1 h2
theorem v_cXI (C : CLw X w (A, c0, s0) b) (hF : wFl w) (hD : Dj w v) (h2 : wLy w 2 = some (lQ 5 2)) (h0 : wLy w 0 = some (lO 10 rfX_0 13)) {ix maxL n : Nat} {y : MethodName} {bytes : ByteArray} {rt' : FieldType} (hL : CL RL ix 10 y bytes maxL (some rt') n) {rm' : Room} {post : Int32 → DD → Prop} (As : List Value) (hM : MI X.l (wF w False) y bytes maxL rt' rm' x (.ref (wAd w 0) :: As) post) (hR : rmOk rm' room_1 maxL) (hn : As.length = n) (hst : st = As.reverse ++ .ref (wAd w 0) :: rest) (hW : (rest.map fun v => v.category).sum ≤ 8) (hd : decode code pc = .ok (.invokevirtual ix, 3)) (kk : ∀ r x', post r x' → (∀ k, k < 2 → (gR x' 2 k = none ↔ gR x 2 k = none)) → gV X w v (A, c0, s0) Q x' m (pc + 3) lv (.int r :: rest)) : gV X w v (A, c0, s0) Q x m pc lv st := fun H locs ls a1 a2 b0 d => by
  subst hst
  have C1 := C.1
  obtain ⟨T, N', hc⟩ := hL.1
  have hR' : rm'.frames + 1 ≤ X.R.frames ∧ 8 + (maxL + 11) + rm'.locals ≤ X.R.locals := by rw [C1.room]; exact ⟨hR.1, hR.2.1⟩
  have hKK : KK (wF w False) X.s := ⟨C1.kk.1, (C.2.1.f hF).zc⟩
  exact va_calli (A0 := A) (va_runV (As := As) (rest := rest) ⟨C1.1, C1.2.1, C1.2.2.1, C1.2.2.2.1, C1.2.2.2.2.1⟩ hM (cwV n C1.2.2.2.2.1 (cl_good hL) rfl hR.2.2.1 hR.2.2.2 ⟨rfl, hL.2.2.2.2.2.2⟩ hR') ⟨wP_blind, wd_recv (w := w) C1.kk a1 hc h0, fun U hU hW => ⟨rfl, by rw [hU]; exact a1, KK.moved hW.alike hKK, C1.zAt b0 hU hW⟩⟩ rfl hn d.1 rfl (lv_room hW) hd (by rw [C1.room]; exact C1.cel)) b0 (fun q _ h => C1.lim q (wA_fw hF h)) (fun q h => C1.lim q (wA_fw hF h)) (fun r x' t H1 locs1 ht hvm hp hB hz hk hS => kk r x' hp (row2 h2 a1 (by rw [← ht]; exact hB.1) hk) H1 locs1 ls (by rw [← ht]; exact hB.1) (wd_kept a2 (fun o ho => hk _ (by obtain ⟨y', hy'⟩ := Option.ne_none_iff_exists'.1 ho; exact (a2.1 o y' hy').lt) (fun z => dj_v hD hF ho (wA_fw hF z)))) hS d)
theorem v_cXL (C : CLw X w (A, c0, s0) b) (hF : wFl w) (hD : Dj w v) (h2 : wLy w 2 = some (lQ 5 2)) (h0 : wLy w 0 = some (lO 10 rfX_0 13)) {ix maxL n : Nat} {y : MethodName} {bytes : ByteArray} (hL : CL RL ix 10 y bytes maxL (some .long) n) {rm' : Room} {post : Int64 → DD → Prop} (As : List Value) (hM : ML X.l (wF w False) y bytes maxL rm' x (.ref (wAd w 0) :: As) post) (hR : rmOk rm' room_1 maxL) (hn : As.length = n) (hst : st = As.reverse ++ .ref (wAd w 0) :: rest) (hW : (rest.map fun v => v.category).sum ≤ 8) (hd : decode code pc = .ok (.invokevirtual ix, 3)) (kk : ∀ r x', post r x' → (∀ k, k < 2 → (gR x' 2 k = none ↔ gR x 2 k = none)) → gV X w v (A, c0, s0) Q x' m (pc + 3) lv (.long r :: rest)) : gV X w v (A, c0, s0) Q x m pc lv st := fun H locs ls a1 a2 b0 d => by
  subst hst
  have C1 := C.1
  obtain ⟨T, N', hc⟩ := hL.1
  have hR' : rm'.frames + 1 ≤ X.R.frames ∧ 8 + (maxL + 11) + rm'.locals ≤ X.R.locals := by rw [C1.room]; exact ⟨hR.1, hR.2.1⟩
  have hKK : KK (wF w False) X.s := ⟨C1.kk.1, (C.2.1.f hF).zc⟩
  exact va_calll (A0 := A) (va_runV (As := As) (rest := rest) ⟨C1.1, C1.2.1, C1.2.2.1, C1.2.2.2.1, C1.2.2.2.2.1⟩ hM (cwV n C1.2.2.2.2.1 (cl_good hL) rfl hR.2.2.1 hR.2.2.2 ⟨rfl, hL.2.2.2.2.2.2⟩ hR') ⟨wP_blind, wd_recv (w := w) C1.kk a1 hc h0, fun U hU hW => ⟨rfl, by rw [hU]; exact a1, KK.moved hW.alike hKK, C1.zAt b0 hU hW⟩⟩ rfl hn d.1 rfl (lv_room hW) hd (by rw [C1.room]; exact C1.cel)) b0 (fun q _ h => C1.lim q (wA_fw hF h)) (fun q h => C1.lim q (wA_fw hF h)) (fun r x' t H1 locs1 ht hvm hp hB hz hk hS => kk r x' hp (row2 h2 a1 (by rw [← ht]; exact hB.1) hk) H1 locs1 ls (by rw [← ht]; exact hB.1) (wd_kept a2 (fun o ho => hk _ (by obtain ⟨y', hy'⟩ := Option.ne_none_iff_exists'.1 ho; exact (a2.1 o y' hy').lt) (fun z => dj_v hD hF ho (wA_fw hF z)))) hS d)
/-- back: the rows of references may be written -/
theorem v_cXB (C : CLw X w (A, c0, s0) b) (hF : wFl w) (hD : Dj w v) (h0 : wLy w 0 = some (lO 10 rfX_0 13)) {ix maxL n : Nat} {y : MethodName} {bytes : ByteArray} {rt' : FieldType} (hL : CL RL ix 10 y bytes maxL (some rt') n) {rm' : Room} {post : Int32 → DD → Prop} (As : List Value) (hM : MI X.l w y bytes maxL rt' rm' x (.ref (wAd w 0) :: As) post) (hR : rmOk rm' room_1 maxL) (hn : As.length = n) (hst : st = As.reverse ++ .ref (wAd w 0) :: rest) (hW : (rest.map fun v => v.category).sum ≤ 8) (hd : decode code pc = .ok (.invokevirtual ix, 3)) (kk : ∀ r x', post r x' → gV X w v (A, c0, s0) Q x' m (pc + 3) lv (.int r :: rest)) : gV X w v (A, c0, s0) Q x m pc lv st := fun H locs ls a1 a2 b0 d => by
  subst hst
  have C1 := C.1
  obtain ⟨T, N', hc⟩ := hL.1
  have hR' : rm'.frames + 1 ≤ X.R.frames ∧ 8 + (maxL + 11) + rm'.locals ≤ X.R.locals := by rw [C1.room]; exact ⟨hR.1, hR.2.1⟩
  exact va_calli (A0 := A) (va_runV (As := As) (rest := rest) ⟨C1.1, C1.2.1, C1.2.2.1, C1.2.2.2.1, C1.2.2.2.2.1⟩ hM (cwV n C1.2.2.2.2.1 (cl_good hL) rfl hR.2.2.1 hR.2.2.2 ⟨rfl, hL.2.2.2.2.2.2⟩ hR') ⟨wP_blind, wd_recv (w := w) C1.kk a1 hc h0, fun U hU hW => ⟨rfl, by rw [hU]; exact a1, KK.moved hW.alike C1.kk, C1.zAt b0 hU hW⟩⟩ rfl hn d.1 rfl (lv_room hW) hd (by rw [C1.room]; exact C1.cel)) b0 (fun q _ h => C1.lim q h) (fun q h => C1.lim q h) (fun r x' t H1 locs1 ht hvm hp hB hz hk hS => kk r x' hp H1 locs1 ls (by rw [← ht]; exact hB.1) (wd_kept a2 (fun o ho => hk _ (by obtain ⟨y', hy'⟩ := Option.ne_none_iff_exists'.1 ho; exact (a2.1 o y' hy').lt) (fun z => dj_v hD hF ho z))) hS d)
/-- the makers -/
theorem v_cXM (C : CLw X w (A, c0, s0) b) (hF : wFl w) (hD : Dj w v) (h0 : wLy w 0 = some (lO 10 rfX_0 13)) {ix maxL n mc ms c1 s1 : Nat} {y : MethodName} {bytes : ByteArray} {rt' : FieldType} (hL : CL RL ix 10 y bytes maxL (some rt') n) {rm' : Room} {post : Int32 → WO × DD → Prop} (As : List Value) (hM : ∀ sz, b.1 ≤ sz → Met X.l y (.code y bytes maxL (some rt') :: TT) rm' (wPc w x (.ref (wAd w 0) :: As) sz) (wQmi w sz b post) mc ms (gA w sz)) (hR : rmOm rm' room_1 maxL mc ms c0 s0 c1 s1) (hn : As.length = n) (hst : st = As.reverse ++ .ref (wAd w 0) :: rest) (hW : (rest.map fun v => v.category).sum ≤ 8) (hd : decode code pc = .ok (.invokevirtual ix, 3)) (kk : ∀ r w' x', post r (w', x') → (wFl w' → Dj w' v) → CLw X w' (A, c1, s1) b → gV X w' v (A, c1, s1) Q x' m (pc + 3) lv (.int r :: rest)) : gV X w v (A, c0, s0) Q x m pc lv st := fun H locs ls a1 a2 b0 d => by
  subst hst
  have C1 := C.1
  have hs := b0.1
  have hbs := C.2.2.1
  obtain ⟨r1, r2, r3, r4, g1, g2, g3⟩ := hR
  subst g1; subst g2
  obtain ⟨T, N', hc⟩ := hL.1
  have hR' : rm'.frames + 1 ≤ X.R.frames ∧ 8 + (maxL + 11) + rm'.locals ≤ X.R.locals := by rw [C1.room]; exact ⟨r1, r2⟩
  exact va_calli (A0 := A) (va_runV (As := As) (rest := rest) ⟨C1.1, C1.2.1, C1.2.2.1, C1.2.2.2.1, C1.2.2.2.2.1⟩ (hM H.size (by omega)) (cwV n C1.2.2.2.2.1 (cl_good hL) rfl r3 r4 ⟨rfl, hL.2.2.2.2.2.2⟩ hR') ⟨wPc_blind, wd_recv (w := w) C1.kk a1 hc h0, fun U hU hW => ⟨rfl, by rw [hU]; exact a1, KK.moved hW.alike C1.kk, C1.zAt b0 hU hW, by rw [hU]⟩⟩ rfl hn d.1 rfl (lv_room hW) hd (by rw [C1.room]; exact g3)) b0 (fun q _ h => gA_lim C b0 q h) (fun q h => gA_lim C b0 q h) (fun r u t H1 locs1 ht hvm hp hB hz hk hS => by
    have hlt : ∀ o, wLy v o ≠ none → wAd v o < H.size := fun o ho => by obtain ⟨y', hy'⟩ := Option.ne_none_iff_exists'.1 ho; exact (a2.1 o y' hy').lt
    have hng : ∀ o, wLy v o ≠ none → ¬ gA w H.size (wAd v o) := fun o ho z => by
      rcases z with z | z
      · exact dj_v hD hF ho z
      · have := hlt o ho; omega
    refine kk r u.1 u.2 hp (fun hF' o o' ho ho' e => ?_) (cg_call C b0 hvm hB g3) H1 locs1 ls (by rw [← ht]; exact hB.1) (wd_kept a2 (fun o ho => hk _ (hlt o ho) (hng o ho))) hS d
    have := hB.2.2.2.1 _ (wA_all hF' ho)
    rw [e] at this
    exact hng o' ho' this)
/-- the model -/
theorem v_cMI (C : CLw X w (A, c0, s0) b) (hA : ∀ q, X.s.heap.size ≤ q → A q) (hV : KM X v) (hD : Dj w v) {ix maxL n : Nat} {y : MethodName} {bytes : ByteArray} {rt' : FieldType} (hL : CL RL ix 11 y bytes maxL (some rt') n) {rm' : Room} {post : Int32 → DD → Prop} (As : List Value) (hM : MI X.l v y bytes maxL rt' rm' m (.ref (wAd v 0) :: As) post) (hR : rmOk rm' room_1 maxL) (hn : As.length = n) (hst : st = As.reverse ++ .ref (wAd v 0) :: rest) (hW : (rest.map fun v => v.category).sum ≤ 8) (hd : decode code pc = .ok (.invokevirtual ix, 3)) (kk : ∀ r m', post r m' → gV X w v (A, c0, s0) Q x m' (pc + 3) lv (.int r :: rest)) : gV X w v (A, c0, s0) Q x m pc lv st := fun H locs ls a1 a2 b0 d => by
  subst hst
  have C1 := C.1
  obtain ⟨T, N', hc⟩ := hL.1
  obtain ⟨k1, k2, k4, k5⟩ := hV
  have hR' : rm'.frames + 1 ≤ X.R.frames ∧ 8 + (maxL + 11) + rm'.locals ≤ X.R.locals := by rw [C1.room]; exact ⟨hR.1, hR.2.1⟩
  exact va_calli (A0 := A) (va_runV (As := As) (rest := rest) ⟨C1.1, C1.2.1, C1.2.2.1, C1.2.2.2.1, C1.2.2.2.2.1⟩ hM (cwV n C1.2.2.2.2.1 (cl_good hL) rfl hR.2.2.1 hR.2.2.2 ⟨rfl, hL.2.2.2.2.2.2⟩ hR') ⟨wP_blind, wd_recv (w := v) k1 a2 hc (k4 0 _ rfl), fun U hU hW => ⟨rfl, by rw [hU]; exact a2, KK.moved hW.alike k1, k2 U U.heap⟩⟩ rfl hn d.1 rfl (lv_room hW) hd (by rw [C1.room]; exact C1.cel)) b0 (fun q _ h => hA q (k5 q h)) (fun q h => hA q (k5 q h)) (fun r m' t H1 locs1 ht hvm hp hB hz hk hS => kk r m' hp H1 locs1 ls (wd_kept a1 (fun o ho => hk _ (by obtain ⟨y', hy'⟩ := Option.ne_none_iff_exists'.1 ho; exact (a1.1 o y' hy').lt) (fun z => dj_w hD ho z))) (by rw [← ht]; exact hB.1) hS d)
theorem v_cML (C : CLw X w (A, c0, s0) b) (hA : ∀ q, X.s.heap.size ≤ q → A q) (hV : KM X v) (hD : Dj w v) {ix maxL n : Nat} {y : MethodName} {bytes : ByteArray} (hL : CL RL ix 11 y bytes maxL (some .long) n) {rm' : Room} {post : Int64 → DD → Prop} (As : List Value) (hM : ML X.l v y bytes maxL rm' m (.ref (wAd v 0) :: As) post) (hR : rmOk rm' room_1 maxL) (hn : As.length = n) (hst : st = As.reverse ++ .ref (wAd v 0) :: rest) (hW : (rest.map fun v => v.category).sum ≤ 8) (hd : decode code pc = .ok (.invokevirtual ix, 3)) (kk : ∀ r m', post r m' → gV X w v (A, c0, s0) Q x m' (pc + 3) lv (.long r :: rest)) : gV X w v (A, c0, s0) Q x m pc lv st := fun H locs ls a1 a2 b0 d => by
  subst hst
  have C1 := C.1
  obtain ⟨T, N', hc⟩ := hL.1
  obtain ⟨k1, k2, k4, k5⟩ := hV
  have hR' : rm'.frames + 1 ≤ X.R.frames ∧ 8 + (maxL + 11) + rm'.locals ≤ X.R.locals := by rw [C1.room]; exact ⟨hR.1, hR.2.1⟩
  exact va_calll (A0 := A) (va_runV (As := As) (rest := rest) ⟨C1.1, C1.2.1, C1.2.2.1, C1.2.2.2.1, C1.2.2.2.2.1⟩ hM (cwV n C1.2.2.2.2.1 (cl_good hL) rfl hR.2.2.1 hR.2.2.2 ⟨rfl, hL.2.2.2.2.2.2⟩ hR') ⟨wP_blind, wd_recv (w := v) k1 a2 hc (k4 0 _ rfl), fun U hU hW => ⟨rfl, by rw [hU]; exact a2, KK.moved hW.alike k1, k2 U U.heap⟩⟩ rfl hn d.1 rfl (lv_room hW) hd (by rw [C1.room]; exact C1.cel)) b0 (fun q _ h => hA q (k5 q h)) (fun q h => hA q (k5 q h)) (fun r m' t H1 locs1 ht hvm hp hB hz hk hS => kk r m' hp H1 locs1 ls (wd_kept a1 (fun o ho => hk _ (by obtain ⟨y', hy'⟩ := Option.ne_none_iff_exists'.1 ho; exact (a1.1 o y' hy').lt) (fun z => dj_w hD ho z))) (by rw [← ht]; exact hB.1) hS d)
end LC
