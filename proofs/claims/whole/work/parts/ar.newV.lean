/-! ===== the law makes the class, the model ===== -/
section LNW
variable {X : CT} {w v : WO} {L : LIM} {A : Nat → Prop} {c0 s0 : Nat} {Q : State → Prop} {x m : DD} {pc : Nat} {lv lv' : List (Nat × Value)} {rest st : List Value} {b b' : BZ} {a : Nat}
theorem v_dup (C : CLw X w L b) {y : Value} (hv : y.category = 1) (hd : decode code pc = .ok (.dup, 1)) (k : gV X w v L Q x m (pc + 1) lv (y :: y :: rest)) : gV X w v L Q x m pc lv (y :: rest) := fun H locs ls a1 a2 b0 d => lv_dup C.1.1 C.1.2.1 hd hv (k H locs ls a1 a2 b0 d)
theorem v_astore_n (C : CLw X w L b) {j : Fin 4} {y : Nat} (lv' : List (Nat × Value)) (hl : ((j : Nat), Value.ref y) :: lv.filter (fun q => !(q.1 == (j : Nat)) && !(q.1 + 1 == (j : Nat) && q.2.category == 2)) = lv') (hn : Nat.blt (j : Nat) 4 = true) (hd : decode code pc = .ok (.astore_n j, 1)) (k : gV X w v L Q x m (pc + 1) lv' rest) : gV X w v L Q x m pc lv (.ref y :: rest) := fun H locs ls a1 a2 b0 d => lv_astore_n C.1.1 C.1.2.1 hd rfl d (Nat.le_of_ble_eq_true hn) hl (fun ls2 d2 => k H locs ls2 a1 a2 b0 d2)
theorem v_istore_n (C : CLw X w L b) {j : Fin 4} {y : Int32} (lv' : List (Nat × Value)) (hl : ((j : Nat), Value.int y) :: lv.filter (fun q => !(q.1 == (j : Nat)) && !(q.1 + 1 == (j : Nat) && q.2.category == 2)) = lv') (hn : Nat.blt (j : Nat) 4 = true) (hd : decode code pc = .ok (.istore_n j, 1)) (k : gV X w v L Q x m (pc + 1) lv' rest) : gV X w v L Q x m pc lv (.int y :: rest) := fun H locs ls a1 a2 b0 d => lv_istore_n C.1.1 C.1.2.1 hd rfl d (Nat.le_of_ble_eq_true hn) hl (fun ls2 d2 => k H locs ls2 a1 a2 b0 d2)
theorem v_swap (k : gV X v w L Q m x pc lv st) : gV X w v L Q x m pc lv st := fun H locs ls a1 a2 b0 d => k H locs ls a2 a1 b0 d
/-- the same heap, told otherwise -/
theorem v_to {w' : WO} {x' : DD} (h : ∀ H, Wd w x H → Wd w' x' H) (k : gV X w' v L Q x' m pc lv st) : gV X w v L Q x m pc lv st := fun H locs ls a1 a2 b0 d => k H locs ls (h H a1) a2 b0 d
theorem v_newO (C : CLw X w (A, c0, s0) b) {ix ci N : Nat} {fs : List Value} (hO : NO RL ix ci N fs) (o : Nat) (hno : wLy w o = none) (hr : NR w x o) {c1 s1 : Nat} (hcel : c0 + 1 = c1 ∧ s0 + N = s1 ∧ c1 ≤ room_1.cells ∧ s1 ≤ room_1.slots) (hD : Dj w v) (hd : decode code pc = .ok (.new ix, 3))
    (kk : ∀ a, X.s.heap.size ≤ a → Dj (wAdd w o a (lR ci fs)) v → CLw X (wAdd w o a (lR ci fs)) (A, c1, s1) b → gV X (wAdd w o a (lR ci fs)) v (A, c1, s1) Q (cle x o) m (pc + 3) lv (.ref a :: rest)) : gV X w v (A, c0, s0) Q x m pc lv rest := fun H locs ls a1 a2 b0 d => by
  have C1 := C.1
  obtain ⟨g1, g2, g3⟩ := hcel
  subst g1; subst g2
  obtain ⟨Cn, T, tyf, hc, hin, hcl, hins, hini, hty, hfs⟩ := hO
  have hKn := C1.kk.1.1 ci _ hc
  refine W.newcK C1.1 C1.2.1 C1.2.2.2.1 (C1.wd hcl) (C1.wd hins) (C1.wd hini) rfl hd (by rw [C1.room]; exact g3.1) (by rw [C1.room]; exact g3.2) hKn.2.1 (h := H.size) rfl (fun H1 kC hkC e1 z1 o1 => ?_)
  have hs : X.s.heap.size ≤ H.size := b0.1
  have hlt : ∀ j, wLy v j ≠ none → wAd v j < H.size := fun j hj => by obtain ⟨y', hy'⟩ := Option.ne_none_iff_exists'.1 hj; exact (a2.1 j y' hy').lt
  refine kk H.size hs (fun j j' h1 h2 e => ?_) (C.add _ hno hs g3) H1 locs ls (wd_add a1 hno hr (fun q k h => cle_n h) o1 ?_) (wd_kept a2 (fun j hj => o1 _ (hlt j hj))) ⟨by rw [z1]; omega, fun q h1 h2 => by rw [o1 q (by omega)]; exact b0.2.1 q h1 h2, b0.2.2⟩ d
  · have := hlt j' h2
    by_cases e' : j = o
    · rw [e', wAd_ae] at e; omega
    · rw [wLy_an e'] at h1
      rw [wAd_an e'] at e
      exact hD j j' h1 h2 e
  · exact ⟨_, hc, (u_born tyf C1.hts (fun t ht => List.mem_cons_of_mem _ (hin t ht)) hKn hkC e1 hty).to hfs⟩
theorem v_mcI (C : CLw X w (A, c0, s0) b) (hD : Dj w v) {ix maxL n mc ms c1 s1 : Nat} {y : MethodName} {bytes : ByteArray} (hL : CI RL ix y bytes maxL n) {rm' : Room} {post : WO × DD → Prop} (As : List Value) (hM : ∀ sz, b.1 ≤ sz → Met X.l y (.code y bytes maxL none :: TT) rm' (wPc w x (.ref a :: As) sz) (wQm w sz b post) mc ms (gA w sz)) (hR : rmOm rm' room_1 maxL mc ms c0 s0 c1 s1) (hn : As.length = n) (hst : st = As.reverse ++ .ref a :: rest) (hW : (rest.map fun v => v.category).sum ≤ 8) (hd : decode code pc = .ok (.invokespecial ix, 3)) (kk : ∀ w' x', post (w', x') → Dj w' v → CLw X w' (A, c1, s1) b → gV X w' v (A, c1, s1) Q x' m (pc + 3) lv rest) (hFl : ∀ u, post u → wFl u.1) : gV X w v (A, c0, s0) Q x m pc lv st := fun H locs ls a1 a2 b0 d => by
  subst hst
  have C1 := C.1
  have hs := b0.1
  have hbs := C.2.2.1
  obtain ⟨r1, r2, r3, r4, g1, g2, g3⟩ := hR
  subst g1; subst g2
  have hR' : rm'.frames + 1 ≤ X.R.frames ∧ 8 + (maxL + 11) + rm'.locals ≤ X.R.locals := by rw [C1.room]; exact ⟨r1, r2⟩
  obtain ⟨l1, l2, l3, l4, l5, l6⟩ := hL
  have cwi := cwI (R := X.R) (own := RL) (index := ix) (y := y) (bytes := bytes) (maxL := maxL) n C1.2.2.2.2.1 (tt_goodIn l4) rfl r3 r4 (C1.wd l3) (C1.wd l1) (C1.wd l2) l5 l6 hR'
  exact va_callv (A0 := A) (va_runI (As := As) (rest := rest) ⟨C1.1, C1.2.1, C1.2.2.1, C1.2.2.2.1, C1.2.2.2.2.1⟩ (hM H.size (by omega)) cwi ⟨wPc_blind, fun U hU hW => ⟨rfl, by rw [hU]; exact a1, KK.moved hW.alike C1.kk, C1.zAt b0 hU hW, by rw [hU]⟩⟩ rfl hn d.1 rfl (lv_room hW) hd (by rw [C1.room]; exact g3)) b0 (fun q _ h => gA_lim C b0 q h) (fun q h => gA_lim C b0 q h) (fun u t H1 locs1 ht hvm hp hB hz hk hS => by
    have hlt : ∀ o, wLy v o ≠ none → wAd v o < H.size := fun o ho => by obtain ⟨y', hy'⟩ := Option.ne_none_iff_exists'.1 ho; exact (a2.1 o y' hy').lt
    have hng : ∀ o, wLy v o ≠ none → ¬ gA w H.size (wAd v o) := fun o ho z => by
      rcases z with z | z
      · obtain ⟨o', h1, h2⟩ := wA_live z
        exact hD o' o h1 ho h2.symm
      · have := hlt o ho; omega
    refine kk u.1 u.2 hp (fun o o' ho ho' e => ?_) (cg_call C b0 hvm hB g3) H1 locs1 ls (by rw [← ht]; exact hB.1) (wd_kept a2 (fun o ho => hk _ (hlt o ho) (hng o ho))) hS d
    have := hB.2.2.2.1 _ (wA_all (hFl u hp) ho)
    rw [e] at this
    exact hng o' ho' this)
/-- more was made -/
theorem clw_L {c1 s1 : Nat} (C : CLw X w (A, c0, s0) b) (h : c1 ≤ room_1.cells ∧ s1 ≤ room_1.slots) : CLw X w (A, c1, s1) b := by
  obtain ⟨⟨c1, c2, c3, c4, c5, c6, c7, c8, c9, c10, c11, c12, c13⟩, hB, hb, hl⟩ := C
  exact ⟨⟨c1, c2, c3, c4, c5, c6, c7, c8, c9, c10, c11, h, c13⟩, hB, hb, hl⟩
/-- another world, as empty as can be -/
theorem clw_e {w' : WO} (C : CLw X w (A, c0, s0) b) (hK : KK w' X.s) (hn : ∀ o, wLy w' o = none) (hB : w'.2.2.2.2.1 = b'.2) (hZ : ZB b') (hb : b'.1 ≤ X.s.heap.size) (hz : b'.2 X.s X.s.heap) (hA : ∀ q, q < X.s.heap.size → ¬ A q) : CLw X w' (A, c0, s0) b' := by
  obtain ⟨⟨c1, c2, c3, c4, c5, c6, c7, c8, c9, c10, c11, c12, c13⟩, -, -, hl⟩ := C
  have no : ∀ q, ¬ wA w' q := fun q h => by
    obtain ⟨o, y, h1, -, -⟩ := h
    rw [hn] at h1; cases h1
  refine ⟨⟨c1, c2, c3, c4, c5, hK, c7, c8, c9, fun q hq => absurd hq (no q), fun q h1 h2 => absurd h2 (hA q h1), c12, ?_⟩, ⟨hB, hZ, fun q hq => absurd hq (no q)⟩, hb, hl⟩
  show w'.2.2.2.2.1 X.s X.s.heap
  rw [hB]; exact hz
/-- .. with the layouts that its methods want -/
def toL (u : WO) (Ly : Nat → Option LY) : WO := (u.1, u.2.1, u.2.2.1, Ly, u.2.2.2.2)
theorem wA_toL {u : WO} {Ly : Nat → Option LY} (hF : wFl u) (h : ∀ o y, Ly o = some y → wLy u o ≠ none) {q : Nat} (hq : wA (toL u Ly) q) : wA u q := by
  obtain ⟨o, y, h1, -, h3⟩ := hq
  have h1' : Ly o = some y := h1
  have h3' : q = wAd u o := h3
  rw [h3']; exact wA_all hF (h o y h1')
theorem clw_toL {Ly : Nat → Option LY} (C : CLw X w (A, c0, s0) b) (hF : wFl w) (h : ∀ o y, Ly o = some y → wLy w o ≠ none) (hA : ∀ q, q < X.s.heap.size → ¬ A q) : CLw X (toL w Ly) (A, c0, s0) b := by
  obtain ⟨⟨c1, c2, c3, c4, c5, c6, c7, c8, c9, c10, c11, c12, c13⟩, ⟨e, z, k⟩, hb, hl⟩ := C
  have hBW : BW b (toL w Ly) := ⟨e, z, fun q hq => k q (wA_toL hF h hq)⟩
  exact ⟨⟨c1, c2, c3, c4, c5, ⟨c6.1, hBW.zc⟩, c7, c8, c9, fun q hq => c10 q (wA_toL hF h hq), fun q h1 h2 => absurd h2 (hA q h1), c12, c13⟩, hBW, hb, hl⟩
end LNW
