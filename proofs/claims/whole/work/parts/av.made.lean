/-! ===== the law, from its entry ===== -/
theorem td_1 : Cond.initialized RX10 ∈ TT := tt_in 1 (by decide +kernel) rfl
theorem td_12 : Cond.initialized RX11 ∈ TT := tt_in 12 (by decide +kernel) rfl
theorem td_21 : Cond.classLink RL 7 RX10 ∈ TT := tt_in 21 (by decide +kernel) rfl
theorem td_22 : Cond.instantiable RX10 13 ∈ TT := tt_in 22 (by decide +kernel) rfl
theorem td_23 : Cond.methodLink RL 9 yX10_init ∈ TT := tt_in 23 (by decide +kernel) rfl
theorem td_24 : Cond.instanceMethod yX10_init ∈ TT := tt_in 24 (by decide +kernel) rfl
theorem td_25 : Cond.code yX10_init cX10_init 1 none ∈ TT := tt_in 25 (by decide +kernel) rfl
theorem td_1173 : Cond.classLink RL 10 RX11 ∈ TT := tt_in 1173 (by decide +kernel) rfl
theorem td_1174 : Cond.instantiable RX11 57 ∈ TT := tt_in 1174 (by decide +kernel) rfl
theorem td_1175 : Cond.methodLink RL 12 yX11_init ∈ TT := tt_in 1175 (by decide +kernel) rfl
theorem td_1176 : Cond.instanceMethod yX11_init ∈ TT := tt_in 1176 (by decide +kernel) rfl
set_option maxRecDepth 20000 in
theorem td_1177m : Cond.code yX11_init cX11_init 2 none ∈ tables_1_5 := by
  unfold tables_1_5
  exact .tail _ (.tail _ (.tail _ (.tail _ (.tail _ (.tail _ (.tail _ (.tail _ (.tail _ (.tail _ (.tail _ (.tail _ (.tail _ (.tail _ (.tail _ (.tail _ (.tail _ (.tail _ (.tail _ (.tail _ (.tail _ (.tail _ (.tail _ (.tail _ (.tail _ (.tail _ (.tail _ (.tail _ (.tail _ (.tail _ (.tail _ (.tail _ (.tail _ (.tail _ (.tail _ (.tail _ (.tail _ (.tail _ (.tail _ (.tail _ (.tail _ (.tail _ (.tail _ (.tail _ (.tail _ (.tail _ (.tail _ (.tail _ (.tail _ (.tail _ (.tail _ (.tail _ (.tail _ (.tail _ (.tail _ (.tail _ (.tail _ (.tail _ (.tail _ (.tail _ (.tail _ (.tail _ (.tail _ (.tail _ (.tail _ (.tail _ (.tail _ (.tail _ (.tail _ (.tail _ (.tail _ (.tail _ (.tail _ (.tail _ (.tail _ (.tail _ (.tail _ (.tail _ (.tail _ (.tail _ (.tail _ (.tail _ (.tail _ (.tail _ (.tail _ (.tail _ (.tail _ (.tail _ (.tail _ (.tail _ (.tail _ (.tail _ (.tail _ (.tail _ (.tail _ (.tail _ (.tail _ (.tail _ (.tail _ (.tail _ (.tail _ (.tail _ (.tail _ (.tail _ (.tail _ (.tail _ (.tail _ (.tail _ (.tail _ (.tail _ (.tail _ (.tail _ (.tail _ (.tail _ (.tail _ (.tail _ (.tail _ (.tail _ (.tail _ (.tail _ (.tail _ (.tail _ (.tail _ (.tail _ (.tail _ (.tail _ (.tail _ (.tail _ (.tail _ (.tail _ (.tail _ (.tail _ (.tail _ (.tail _ (.tail _ (.tail _ (.tail _ (.tail _ (.tail _ (.tail _ (.tail _ (.tail _ (.tail _ (.tail _ (.tail _ (.tail _ (.tail _ (.tail _ (.tail _ (.tail _ (.tail _ (.tail _ (.tail _ (.tail _ (.tail _ (.tail _ (.tail _ (.tail _ (.tail _ (.tail _ (.tail _ (.tail _ (.tail _ (.tail _ (.tail _ (.tail _ (.tail _ (.tail _ (.tail _ (.tail _ (.tail _ (.tail _ (.tail _ (.tail _ (.tail _ (.tail _ (.tail _ (.tail _ (.tail _ (.tail _ (.tail _ (.tail _ (.tail _ (.tail _ (.tail _ (.tail _ (.tail _ (.tail _ (.tail _ (.tail _ (.tail _ (.tail _ (.tail _ (.tail _ (.tail _ (.tail _ (.tail _ (.tail _ (.tail _ (.tail _ (.tail _ (.tail _ (.tail _ (.tail _ (.tail _ (.tail _ (.tail _ (.tail _ (.tail _ (.tail _ (.tail _ (.tail _ (.tail _ (.tail _ (.tail _ (.tail _ (.tail _ (.head _)))))))))))))))))))))))))))))))))))))))))))))))))))))))))))))))))))))))))))))))))))))))))))))))))))))))))))))))))))))))))))))))))))))))))))))))))))))))))))))))))))))))))))))))))))))))))))))))))))))))))))))))))))))))))
theorem td_1177 : Cond.code yX11_init cX11_init 2 none ∈ TT := List.mem_filter.mpr ⟨List.mem_append_right _ (List.mem_append_right _ (List.mem_append_right _ (List.mem_append_right _ (List.mem_append_right _ (List.mem_append_left _ td_1177m))))), rfl⟩
theorem no_Law_7 : NO RL 7 10 13 [.null, .null, .null, .null, .null, .null, .null, .null, .null, .null, .null, .int 0, .int 0] := ⟨RX10, TX10, tyX10, rfl, tin10, td_21, td_22, td_1, tyX10_ok, fun j hj => by
  rcases (show j = 0 ∨ j = 1 ∨ j = 2 ∨ j = 3 ∨ j = 4 ∨ j = 5 ∨ j = 6 ∨ j = 7 ∨ j = 8 ∨ j = 9 ∨ j = 10 ∨ j = 11 ∨ j = 12 by omega) with rfl | rfl | rfl | rfl | rfl | rfl | rfl | rfl | rfl | rfl | rfl | rfl | rfl <;> rfl⟩
theorem ci_Law_9 : CI RL 9 yX10_init cX10_init 1 0 := ⟨td_23, td_24, td_1, td_25, rfl, by decide, by decide, by decide +kernel⟩
theorem no_Law_10 : NO RL 10 11 57 [.int 0, .int 0, .null, .null, .null, .null, .int 0, .null, .int 0, .int 0, .int 0, .null, .null, .int 0, .int 0, .null, .null, .null, .int 0, .int 0, .int 0, .int 0, .int 0, .int 0, .int 0, .null, .null, .null, .null, .int 0, .null, .null, .int 0, .int 0, .int 0, .int 0, .int 0, .int 0, .null, .null, .int 0, .null, .null, .null, .int 0, .int 0, .int 0, .int 0, .int 0, .int 0, .int 0, .int 0, .null, .null, .null, .int 0, .int 0] := ⟨RX11, TX11, tyX11, rfl, tin11, td_1173, td_1174, td_12, tyX11_ok, fun j hj => by
  rcases (show j = 0 ∨ j = 1 ∨ j = 2 ∨ j = 3 ∨ j = 4 ∨ j = 5 ∨ j = 6 ∨ j = 7 ∨ j = 8 ∨ j = 9 ∨ j = 10 ∨ j = 11 ∨ j = 12 ∨ j = 13 ∨ j = 14 ∨ j = 15 ∨ j = 16 ∨ j = 17 ∨ j = 18 ∨ j = 19 ∨ j = 20 ∨ j = 21 ∨ j = 22 ∨ j = 23 ∨ j = 24 ∨ j = 25 ∨ j = 26 ∨ j = 27 ∨ j = 28 ∨ j = 29 ∨ j = 30 ∨ j = 31 ∨ j = 32 ∨ j = 33 ∨ j = 34 ∨ j = 35 ∨ j = 36 ∨ j = 37 ∨ j = 38 ∨ j = 39 ∨ j = 40 ∨ j = 41 ∨ j = 42 ∨ j = 43 ∨ j = 44 ∨ j = 45 ∨ j = 46 ∨ j = 47 ∨ j = 48 ∨ j = 49 ∨ j = 50 ∨ j = 51 ∨ j = 52 ∨ j = 53 ∨ j = 54 ∨ j = 55 ∨ j = 56 by omega) with rfl | rfl | rfl | rfl | rfl | rfl | rfl | rfl | rfl | rfl | rfl | rfl | rfl | rfl | rfl | rfl | rfl | rfl | rfl | rfl | rfl | rfl | rfl | rfl | rfl | rfl | rfl | rfl | rfl | rfl | rfl | rfl | rfl | rfl | rfl | rfl | rfl | rfl | rfl | rfl | rfl | rfl | rfl | rfl | rfl | rfl | rfl | rfl | rfl | rfl | rfl | rfl | rfl | rfl | rfl | rfl | rfl <;> rfl⟩
theorem ci_Law_12 : CI RL 12 yX11_init cX11_init 2 0 := ⟨td_1175, td_1176, td_12, td_1177, rfl, by decide, by decide, by decide +kernel⟩
theorem i_FaceF {l : Launch} {w : WO} {σ : DD} {a sz : Nat} {b : BZ} (hF : wFl w) (hb : BW b w) (hbs : b.1 ≤ sz) (hAO : ∀ U H, b.2 U H → EZ U) (h0 : wLy w 0 = some (lR 10 [.null, .null, .null, .null, .null, .null, .null, .null, .null, .null, .null, .int 0, .int 0])) (ha : wAd w 0 = a) (hN : NRs w σ (fun _ => True)) (hno : ∀ o, 0 < o → wLy w o = none) : Met l yX10_init (.code yX10_init cX10_init 1 none :: TT) { frames := 2, cells := 48, slots := 2126, locals := 43 } (wPc w σ [.ref a] sz) (wQm w sz b (fun u => FW0 u.1 ∧ wFl u.1 ∧ u.2 = D_Face σ ∧ wAd u.1 0 = a)) 48 2126 (gA w sz) := by
  refine Met_po (i_Face hb hbs hAO h0 ha hN hno) ?_
  rintro u ⟨q1, q2, q3, q4, q5, q6, q7, q8, q9, q10, q11, q12, q13, q14, q15, q16, q17, q18, q19, q20, q21, q22, q23, q24, q25, q26, q27, q28, q29, q30, q31, q32, q33, q34, q35, q36, q37, q38, q39, q40, q41, q42, q43, q44, q45, q46, q47, q48, hu, -⟩
  subst hu
  exact ⟨FW0_ok, fl_W_Face hF, rfl, ad_W_Face_0.trans ha⟩
theorem i_MF {l : Launch} {w : WO} {σ : DD} {a sz : Nat} {b : BZ} (hF : wFl w) (hb : BW b w) (hbs : b.1 ≤ sz) (h0 : wLy w 0 = some (lR 11 [.int 0, .int 0, .null, .null, .null, .null, .int 0, .null, .int 0, .int 0, .int 0, .null, .null, .int 0, .int 0, .null, .null, .null, .int 0, .int 0, .int 0, .int 0, .int 0, .int 0, .int 0, .null, .null, .null, .null, .int 0, .null, .null, .int 0, .int 0, .int 0, .int 0, .int 0, .int 0, .null, .null, .int 0, .null, .null, .null, .int 0, .int 0, .int 0, .int 0, .int 0, .int 0, .int 0, .int 0, .null, .null, .null, .int 0, .int 0])) (ha : wAd w 0 = a) (hN : NRs w σ (fun _ => True)) (hno : ∀ o, 0 < o → wLy w o = none) : Met l yX11_init (.code yX11_init cX11_init 2 none :: TT) { frames := 1, cells := 24, slots := 20722, locals := 12 } (wPc w σ [.ref a] sz) (wQm w sz b (fun u => MW0 u.1 ∧ wFl u.1 ∧ u.2 = D_M σ ∧ wAd u.1 0 = a)) 24 20722 (gA w sz) := by
  refine Met_po (i_M hb hbs h0 ha hN hno) ?_
  rintro u ⟨q1, q2, q3, q4, q5, q6, q7, q8, q9, q10, q11, q12, q13, q14, q15, q16, q17, q18, q19, q20, q21, q22, q23, q24, hu, -⟩
  subst hu
  exact ⟨MW0_ok, fl_W_M hF, rfl, ad_W_M_0.trans ha⟩
theorem nr_e {w : WO} {x : DD} (h : ∀ o, wLy w o = none) (o : Nat) : NR w x o := fun q y hq => by rw [h] at hq; cases hq
theorem Zr.c {x : DD} {a : Nat} (h : Zr x) : Zr (cle x a) := fun o k => by
  refine ⟨?_, ?_, ?_⟩
  · rw [gI_cle]; by_cases e : o = a
    · rw [if_pos e]
    · rw [if_neg e]; exact (h o k).1
  · rw [gL_cle]; by_cases e : o = a
    · rw [if_pos e]
    · rw [if_neg e]; exact (h o k).2.1
  · rw [gR_cle]; by_cases e : o = a
    · rw [if_pos e]
    · rw [if_neg e]; exact (h o k).2.2
theorem Bdw_LX {u : WO} : Bdw (toL u LX) 300 := by
  refine ⟨fun o ho => ?_, fun o ci rf N ho k hk j hj => ?_⟩
  · obtain ⟨y, e⟩ := Option.ne_none_iff_exists'.1 ho
    exact LX_lt e
  · have ho : LX o = some (lO ci rf N) := ho
    unfold LX at ho
    split at ho <;> first
      | (cases ho; done)
      | (cases ho; (first | unfold rfX_0 at hj | unfold rfX_20 at hj | unfold rfX_30 at hj | unfold rfX_50 at hj | unfold rfX_60 at hj | unfold rfX_70 at hj | unfold rfX_90 at hj | unfold rfX_100 at hj | unfold rfX_110 at hj | unfold rfR at hj); split at hj <;> first | (cases hj; done) | (cases hj; exact ne_s rfl))
theorem GW_0 {b : BZ} {u v : WO} (hB : BW b (toL u LX)) (hF : wFl u) (hD : Dj (toL u LX) v) : GW b T0 (toL u LX) v x0D m0D 0 := by
  refine ⟨⟨fun o y h => h, fun t n1 n2 h => (by cases h), hB⟩, hF, hD, INV_0, fun t u h => (by cases h), ⟨300, Nat.le_refl _, Bdw_LX⟩, fun k b9 hk => Or.inl ⟨rfl, fun j hj => ?_⟩⟩
  show LX (b9 + j) = none
  cases e : LX (b9 + j) with
  | none => rfl
  | some y => exact absurd ⟨Nat.le_add_right _ _, by omega⟩ (LX_no (b9 := b9) (by unfold prK at hk; omega) e)
section LMD
variable {X : CT} {w v : WO} {A : Nat → Prop} {bX bM : BZ} {z : EXa} {b0 N : Nat} {xs : Nat → Int32} {x m : DD} {Q : State → Prop}
theorem law_made (C : CLw X w (A, 0, 0) bX) (hwn : ∀ o, wLy w o = none) (hwF : wFl w) (hzx : Zr x) (hZE : EXZ bX z) (hv : KK v X.s) (hvn : ∀ o, wLy v o = none) (hvF : wFl v) (hvZ : v.2.2.2.2.1 = bM.2) (hzb : ZB bM) (hbM : ∀ U H, bM.2 U H) (hb1 : bM.1 = X.s.heap.size) (hzm : Zr m) (hA : ∀ q, A q ↔ X.s.heap.size ≤ q) (S : SC X (A, 0, 0) b0 N xs) (hN : N ≤ 3584) (hEx : ∀ w v T x m p c s n, CLw X w (A, c, s) bX → GW bX T w v x m n → gV X w v (A, c, s) Q x m 1397 [(0, .ref b0), (1, .ref (wAd w 0)), (2, .ref (wAd v 0)), (3, .int (nI p))] []) : gV X w v (A, 0, 0) Q x m 0 [(0, .ref b0)] [] := by
  have hA' : ∀ q, q < X.s.heap.size → ¬ A q := fun q h1 h2 => absurd ((hA q).1 h2) (Nat.not_le.mpr h1)
  have hDj : Dj w v := fun o o' h => absurd (hwn o) h
  refine v_newO (c1 := 1) (s1 := 13) C no_Law_7 0 (hwn 0) (nr_e hwn 0) ⟨rfl, rfl, Nat.le_of_ble_eq_true rfl, Nat.le_of_ble_eq_true rfl⟩ hDj (dk_at dk_Law_0 0 rfl) (fun a ha hDj C => ?_)
  refine v_dup C rfl (dk_at dk_Law_0 1 rfl) ?_
  have hN1 : NRs (wAdd w 0 a (lR 10 [.null, .null, .null, .null, .null, .null, .null, .null, .null, .null, .null, .int 0, .int 0])) (cle x 0) (fun _ => True) := NRs.add (fun o _ => nr_e hwn o) (fun _ _ => nR_R)
  have hn1 : ∀ o, 0 < o → wLy (wAdd w 0 a (lR 10 [.null, .null, .null, .null, .null, .null, .null, .null, .null, .null, .null, .int 0, .int 0])) o = none := fun o ho => by rw [wLy_an (by omega)]; exact hwn o
  refine v_mcI (rm' := { frames := 2, cells := 48, slots := 2126, locals := 43 }) (mc := 48) (ms := 2126) (c1 := 49) (s1 := 2139) C hDj ci_Law_9 [] (fun sz h2 => i_FaceF (fl_a hwF) C.2.1 h2 (fun U H hz => (hZE U H hz).2) wLy_ae wAd_ae hN1 hn1) ⟨Nat.le_of_ble_eq_true rfl, Nat.le_of_ble_eq_true rfl, rfl, rfl, rfl, rfl, Nat.le_of_ble_eq_true rfl, Nat.le_of_ble_eq_true rfl⟩ rfl rfl (Nat.le_of_ble_eq_true rfl) (dk_at dk_Law_0 2 rfl) ?_ (fun u h => h.2.1)
  rintro u x1 ⟨hW, hF, hx1, ea⟩ hDj C
  have hW : FW0 u := hW
  have hF : wFl u := hF
  have hx1 : x1 = D_Face (cle x 0) := hx1
  have ea : wAd u 0 = a := ea
  subst hx1
  refine v_astore_n C [(1, .ref a), (0, .ref b0)] rfl rfl (dk_at dk_Law_0 3 rfl) ?_
  refine v_to (w' := toL u LX) (x' := x0D) (fun H h => FW0_wd hzx.c hW h) ?_
  replace C := clw_toL C hF (FW0_live hW) hA'
  have hDj : Dj (toL u LX) v := fun o o' h1 h2 => by
    obtain ⟨y, e⟩ := Option.ne_none_iff_exists'.1 h1
    exact hDj o o' (FW0_live hW o y e) h2
  rw [← ea]
  refine v_swap ?_
  have CM : CLw X v (A, 49, 2139) bM := clw_e C hv hvn hvZ hzb (Nat.le_of_eq hb1) (hbM _ _) hA'
  have hDm : Dj v (toL u LX) := fun o o' h => absurd (hvn o) h
  show gV X v (toL u LX) (A, 49, 2139) Q m x0D 8 [(1, .ref (wAd (toL u LX) 0)), (0, .ref b0)] []
  generalize hwX : toL u LX = wX at C hDm ⊢
  refine v_newO (c1 := 50) (s1 := 2196) CM no_Law_10 0 (hvn 0) (nr_e hvn 0) ⟨rfl, rfl, Nat.le_of_ble_eq_true rfl, Nat.le_of_ble_eq_true rfl⟩ hDm (dk_at dk_Law_0 4 rfl) (fun a2 ha2 hDm CM => ?_)
  refine v_dup CM rfl (dk_at dk_Law_0 5 rfl) ?_
  have hN2 : NRs (wAdd v 0 a2 (lR 11 [.int 0, .int 0, .null, .null, .null, .null, .int 0, .null, .int 0, .int 0, .int 0, .null, .null, .int 0, .int 0, .null, .null, .null, .int 0, .int 0, .int 0, .int 0, .int 0, .int 0, .int 0, .null, .null, .null, .null, .int 0, .null, .null, .int 0, .int 0, .int 0, .int 0, .int 0, .int 0, .null, .null, .int 0, .null, .null, .null, .int 0, .int 0, .int 0, .int 0, .int 0, .int 0, .int 0, .int 0, .null, .null, .null, .int 0, .int 0])) (cle m 0) (fun _ => True) := NRs.add (fun o _ => nr_e hvn o) (fun _ _ => nR_R)
  have hn2 : ∀ o, 0 < o → wLy (wAdd v 0 a2 (lR 11 [.int 0, .int 0, .null, .null, .null, .null, .int 0, .null, .int 0, .int 0, .int 0, .null, .null, .int 0, .int 0, .null, .null, .null, .int 0, .int 0, .int 0, .int 0, .int 0, .int 0, .int 0, .null, .null, .null, .null, .int 0, .null, .null, .int 0, .int 0, .int 0, .int 0, .int 0, .int 0, .null, .null, .int 0, .null, .null, .null, .int 0, .int 0, .int 0, .int 0, .int 0, .int 0, .int 0, .int 0, .null, .null, .null, .int 0, .int 0])) o = none := fun o ho => by rw [wLy_an (by omega)]; exact hvn o
  refine v_mcI (rm' := { frames := 1, cells := 24, slots := 20722, locals := 12 }) (mc := 24) (ms := 20722) (c1 := 74) (s1 := 22918) CM hDm ci_Law_12 [] (fun sz h2 => i_MF (fl_a hvF) CM.2.1 h2 wLy_ae wAd_ae hN2 hn2) ⟨Nat.le_of_ble_eq_true rfl, Nat.le_of_ble_eq_true rfl, rfl, rfl, rfl, rfl, Nat.le_of_ble_eq_true rfl, Nat.le_of_ble_eq_true rfl⟩ rfl rfl (Nat.le_of_ble_eq_true rfl) (dk_at dk_Law_0 6 rfl) ?_ (fun u h => h.2.1)
  rintro um m1 ⟨hWm, hFm, hm1, eam⟩ hDm CM
  have hWm : MW0 um := hWm
  have hFm : wFl um := hFm
  have hm1 : m1 = D_M (cle m 0) := hm1
  have eam : wAd um 0 = a2 := eam
  subst hm1
  refine v_astore_n CM [(2, .ref a2), (1, .ref (wAd wX 0)), (0, .ref b0)] rfl rfl (dk_at dk_Law_0 7 rfl) ?_
  refine v_to (w' := toL um LM) (x' := m0D) (fun H h => MW0_wd hzm.c hWm h) ?_
  replace CM := clw_toL CM hFm (MW0_live hWm) hA'
  have hDj2 : Dj wX (toL um LM) := fun o o' h1 h2 e => by
    obtain ⟨y, ey⟩ := Option.ne_none_iff_exists'.1 h2
    exact hDm o' o (MW0_live hWm o' y ey) h1 e.symm
  rw [← eam]
  refine v_swap ?_
  replace C := clw_L (c1 := 74) (s1 := 22918) C ⟨Nat.le_of_ble_eq_true rfl, Nat.le_of_ble_eq_true rfl⟩
  have hKM : KM X (toL um LM) := ⟨CM.1.kk, fun U H => by
    show (toL um LM).2.2.2.2.1 U H
    rw [CM.2.1.1]; exact hbM U H, fun o y h => h, fun q hq => by rw [← hb1]; exact CM.2.1.2.2 q hq⟩
  have G : GW bX T0 wX (toL um LM) x0D m0D 0 := by
    subst hwX
    exact GW_0 C.2.1 hF hDj2
  refine v_iconst C 0 (dk_at dk_Law_0 8 rfl) ?_
  refine v_istore_n C [(3, .int 0), (2, .ref (wAd um 0)), (1, .ref (wAd wX 0)), (0, .ref b0)] rfl rfl (dk_at dk_Law_0 9 rfl) ?_
  refine v_lv [3, 2, 1, 0] rfl ?_
  have F : FX X (toL um LM) bX z A b0 N xs := ⟨hKM, hZE, fun q h => (hA q).2 h, S, hN⟩
  exact lw_loop F (fun w T x m p c s n C G => hEx w _ T x m p c s n C G) N 0 wX T0 x0D m0D 74 22918 (by omega) (by omega) C G (by omega) (by omega)
end LMD
