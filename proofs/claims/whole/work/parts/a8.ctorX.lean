/-! ===== the class's constructors ===== -/
def W_Tape (w : WO) (q1 : Nat) : WO := wSet (wAdd w 21 q1 (lI 0 400)) 20 (lR 7 [.ref q1, .int 0, .int 0, .int 0, .int 0])
def D_Tape (σ : DD) : DD := (cle σ 21)
theorem W_Tape_comm {w : WO} {y : LY} {q1 : Nat} : W_Tape (wSet w 0 y) q1 = wSet (W_Tape w q1) 0 y := by
  unfold W_Tape
  rw [ws_comm (by decide), wss_comm (by decide)]
theorem W_Tape_n {w : WO} {q1 : Nat} {o : Nat} (h : o < 20 ∨ 25 < o) (n : wLy w o = none) : wLy (W_Tape w q1) o = none := no_sn (by omega) (no_an (by omega) n)
theorem W_Tape_a {w : WO} {q1 : Nat} {o c : Nat} (h : o < 20 ∨ 25 < o) (e : wAd w o = c) : wAd (W_Tape w q1) o = c := ha_sn (ha_an (by omega) e)
set_option maxRecDepth 20000 in
theorem i_Tape {l : Launch} {w : WO} {σ : DD} {a sz : Nat} {b : BZ} {S : Nat → Prop} (hb : BW b w) (hbs : b.1 ≤ sz) (h0 : wLy w 20 = some (lR 7 [.null, .int 0, .int 0, .int 0, .int 0])) (ha : wAd w 20 = a) (hN : NRs w σ S) (hSt : ∀ o, 20 < o → o ≤ 25 → S o) (n21 : wLy w 21 = none) : Met l yX7_init (.code yX7_init cX7_init 1 none :: TT) { frames := 1, cells := 1, slots := 400, locals := 12 } (wPc w σ [.ref a] sz) (wQm w sz b (fun u => ∃ q1, u = (W_Tape w q1, D_Tape σ) ∧ NRs (W_Tape w q1) (D_Tape σ) S)) 1 400 (gA w sz) := by
  refine mk_head (by decide) rfl hb hbs (fun X hX hi hsz C => ?_)
  subst hX
  have e0 : wSet w 20 (lR 7 [.null, .int 0, .int 0, .int 0, .int 0]) = w := ws_id h0
  refine gW_w e0 ?_
  replace C := CG_w e0 C
  replace hN := NRs_w e0 hN
  show gW X (wSet w 20 (lR 7 [.null, .int 0, .int 0, .int 0, .int 0])) (gA w sz, 0, 0) 1 _ σ 0 [(0, .ref a)] []
  refine r_aload_n C.1 0 rfl (dk_at dk_Tape_init_0 0 rfl) ?_
  refine r_objI C tc_159 tc_27 tc_28 (Nat.le_of_ble_eq_true rfl) (Nat.le_of_ble_eq_true rfl) (dk_at dk_Tape_init_0 1 rfl) ?_
  refine r_aload_n C.1 0 rfl (dk_at dk_Tape_init_0 2 rfl) ?_
  refine r_sipush C.1 400 (dk_at dk_Tape_init_0 3 rfl) ?_
  refine r_newI (c1 := 1) (s1 := 400) C tc_152 21 400 (by decide) rfl (by decide) (no_sn (by decide) n21) (hN 21 (hSt 21 (by decide) (by decide))) ⟨rfl, rfl, Nat.le_of_ble_eq_true rfl, Nat.le_of_ble_eq_true rfl⟩ (dk_at dk_Tape_init_0 4 rfl) (fun q1 hhq1 C => ?_)
  refine r_nf C hi (by decide) hN (fun _ _ => nR_I) fw_Tape_11 ⟨rfl, rfl⟩ ha (Nat.le_of_ble_eq_true rfl) (dk_at dk_Tape_init_0 5 rfl) [.ref q1, .int 0, .int 0, .int 0, .int 0] rfl (fun C hN ha => ?_)
  exact r_mvret C rfl hsz ⟨Nat.le_of_ble_eq_true rfl, Nat.le_of_ble_eq_true rfl⟩ ⟨q1, rfl, hN⟩ (dk_at dk_Tape_init_0 6 rfl)
def W_Pars (w : WO) (q1 q2 : Nat) (p0 : Nat) : WO := wSet (wAdd (wAdd w 32 q1 (lI 0 400)) 33 q2 (lI 0 72)) 30 (lR 4 [.ref p0, .ref q1, .ref q2, .int 0, .int 0, .int 0, .int 0, .int 0, .int (-1)])
def D_Pars (σ : DD) : DD := (cle (cle σ 32) 33)
theorem W_Pars_comm {w : WO} {y : LY} {q1 q2 : Nat} {p0 : Nat} : W_Pars (wSet w 0 y) q1 q2 p0 = wSet (W_Pars w q1 q2 p0) 0 y := by
  unfold W_Pars
  rw [ws_comm (by decide), ws_comm (by decide), wss_comm (by decide)]
theorem W_Pars_n {w : WO} {q1 q2 : Nat} {p0 : Nat} {o : Nat} (h : o < 30 ∨ 39 < o) (n : wLy w o = none) : wLy (W_Pars w q1 q2 p0) o = none := no_sn (by omega) (no_an (by omega) (no_an (by omega) n))
theorem W_Pars_a {w : WO} {q1 q2 : Nat} {p0 : Nat} {o c : Nat} (h : o < 30 ∨ 39 < o) (e : wAd w o = c) : wAd (W_Pars w q1 q2 p0) o = c := ha_sn (ha_an (by omega) (ha_an (by omega) e))
set_option maxRecDepth 20000 in
theorem i_Pars {l : Launch} {w : WO} {σ : DD} {a sz : Nat} {b : BZ} {S : Nat → Prop} {p0 : Nat} (hb : BW b w) (hbs : b.1 ≤ sz) (h0 : wLy w 30 = some (lR 4 [.null, .null, .null, .int 0, .int 0, .int 0, .int 0, .int 0, .int 0])) (ha : wAd w 30 = a) (hN : NRs w σ S) (hSt : ∀ o, 30 < o → o ≤ 39 → S o) (n32 : wLy w 32 = none) (n33 : wLy w 33 = none) : Met l yX4_init (.code yX4_init cX4_init 2 none :: TT) { frames := 1, cells := 2, slots := 472, locals := 12 } (wPc w σ [.ref a, .ref p0] sz) (wQm w sz b (fun u => ∃ q1 q2, u = (W_Pars w q1 q2 p0, D_Pars σ) ∧ NRs (W_Pars w q1 q2 p0) (D_Pars σ) S)) 2 472 (gA w sz) := by
  refine mk_head (by decide) rfl hb hbs (fun X hX hi hsz C => ?_)
  subst hX
  have e0 : wSet w 30 (lR 4 [.null, .null, .null, .int 0, .int 0, .int 0, .int 0, .int 0, .int 0]) = w := ws_id h0
  refine gW_w e0 ?_
  replace C := CG_w e0 C
  replace hN := NRs_w e0 hN
  show gW X (wSet w 30 (lR 4 [.null, .null, .null, .int 0, .int 0, .int 0, .int 0, .int 0, .int 0])) (gA w sz, 0, 0) 2 _ σ 0 [(0, .ref a), (1, .ref p0)] []
  refine r_aload_n C.1 0 rfl (dk_at dk_Pars_init_0 0 rfl) ?_
  refine r_objI C tc_184 tc_27 tc_28 (Nat.le_of_ble_eq_true rfl) (Nat.le_of_ble_eq_true rfl) (dk_at dk_Pars_init_0 1 rfl) ?_
  refine r_aload_n C.1 0 rfl (dk_at dk_Pars_init_0 2 rfl) ?_
  refine r_sipush C.1 400 (dk_at dk_Pars_init_0 3 rfl) ?_
  refine r_newI (c1 := 1) (s1 := 400) C tc_152 32 400 (by decide) rfl (by decide) (no_sn (by decide) n32) (hN 32 (hSt 32 (by decide) (by decide))) ⟨rfl, rfl, Nat.le_of_ble_eq_true rfl, Nat.le_of_ble_eq_true rfl⟩ (dk_at dk_Pars_init_0 4 rfl) (fun q1 hhq1 C => ?_)
  refine r_nf C hi (by decide) hN (fun _ _ => nR_I) fw_Pars_11 ⟨rfl, rfl⟩ ha (Nat.le_of_ble_eq_true rfl) (dk_at dk_Pars_init_0 5 rfl) [.null, .ref q1, .null, .int 0, .int 0, .int 0, .int 0, .int 0, .int 0] rfl (fun C hN ha => ?_)
  refine r_aload_n C.1 0 rfl (dk_at dk_Pars_init_0 6 rfl) ?_
  refine r_bipush C.1 72 (dk_at dk_Pars_init_0 7 rfl) ?_
  refine r_newI (c1 := 2) (s1 := 472) C tc_152 33 72 (by decide) rfl (by decide) (no_sn (by decide) (no_an (by decide) n33)) (hN 33 (hSt 33 (by decide) (by decide))) ⟨rfl, rfl, Nat.le_of_ble_eq_true rfl, Nat.le_of_ble_eq_true rfl⟩ (dk_at dk_Pars_init_0 8 rfl) (fun q2 hhq2 C => ?_)
  refine r_nf C hi (by decide) hN (fun _ _ => nR_I) fw_Pars_19 ⟨rfl, rfl⟩ ha (Nat.le_of_ble_eq_true rfl) (dk_at dk_Pars_init_0 9 rfl) [.null, .ref q1, .ref q2, .int 0, .int 0, .int 0, .int 0, .int 0, .int 0] rfl (fun C hN ha => ?_)
  refine r_aload_n C.1 0 rfl (dk_at dk_Pars_init_0 10 rfl) ?_
  refine r_iconst C.1 (-1) (dk_at dk_Pars_init_0 11 rfl) ?_
  refine r_pf C hi hN fw_Pars_22 ⟨rfl, rfl⟩ ha (Nat.le_of_ble_eq_true rfl) (dk_at dk_Pars_init_0 12 rfl) [.null, .ref q1, .ref q2, .int 0, .int 0, .int 0, .int 0, .int 0, .int (-1)] rfl (fun C hN => ?_)
  refine r_aload_n C.1 0 rfl (dk_at dk_Pars_init_0 13 rfl) ?_
  refine r_aload_n C.1 1 rfl (dk_at dk_Pars_init_0 14 rfl) ?_
  refine r_pf C hi hN fw_Pars_26 ⟨rfl, rfl⟩ ha (Nat.le_of_ble_eq_true rfl) (dk_at dk_Pars_init_0 15 rfl) [.ref p0, .ref q1, .ref q2, .int 0, .int 0, .int 0, .int 0, .int 0, .int (-1)] rfl (fun C hN => ?_)
  exact r_mvret C rfl hsz ⟨Nat.le_of_ble_eq_true rfl, Nat.le_of_ble_eq_true rfl⟩ ⟨q1, q2, rfl, hN⟩ (dk_at dk_Pars_init_0 16 rfl)
def W_Court (w : WO) (q1 q2 q3 q4 : Nat) (p0 : Nat) : WO := wSet (wAdd (wAdd (wAdd (wAdd w 52 q1 (lI 0 8)) 53 q2 (lJ 50)) 54 q3 (lI 0 224)) 55 q4 (lI 0 224)) 50 (lR 0 [.ref p0, .ref q1, .ref q2, .ref q3, .ref q4, .int 1])
def D_Court (σ : DD) : DD := (cle (cle (cle (cle σ 52) 53) 54) 55)
theorem W_Court_comm {w : WO} {y : LY} {q1 q2 q3 q4 : Nat} {p0 : Nat} : W_Court (wSet w 0 y) q1 q2 q3 q4 p0 = wSet (W_Court w q1 q2 q3 q4 p0) 0 y := by
  unfold W_Court
  rw [ws_comm (by decide), ws_comm (by decide), ws_comm (by decide), ws_comm (by decide), wss_comm (by decide)]
theorem W_Court_n {w : WO} {q1 q2 q3 q4 : Nat} {p0 : Nat} {o : Nat} (h : o < 50 ∨ 56 < o) (n : wLy w o = none) : wLy (W_Court w q1 q2 q3 q4 p0) o = none := no_sn (by omega) (no_an (by omega) (no_an (by omega) (no_an (by omega) (no_an (by omega) n))))
theorem W_Court_a {w : WO} {q1 q2 q3 q4 : Nat} {p0 : Nat} {o c : Nat} (h : o < 50 ∨ 56 < o) (e : wAd w o = c) : wAd (W_Court w q1 q2 q3 q4 p0) o = c := ha_sn (ha_an (by omega) (ha_an (by omega) (ha_an (by omega) (ha_an (by omega) e))))
set_option maxRecDepth 20000 in
theorem i_Court {l : Launch} {w : WO} {σ : DD} {a sz : Nat} {b : BZ} {S : Nat → Prop} {p0 : Nat} (hb : BW b w) (hbs : b.1 ≤ sz) (h0 : wLy w 50 = some (lR 0 [.null, .null, .null, .null, .null, .int 0])) (ha : wAd w 50 = a) (hN : NRs w σ S) (hSt : ∀ o, 50 < o → o ≤ 56 → S o) (n52 : wLy w 52 = none) (n53 : wLy w 53 = none) (n54 : wLy w 54 = none) (n55 : wLy w 55 = none) : Met l yX0_init (.code yX0_init cX0_init 2 none :: TT) { frames := 1, cells := 4, slots := 506, locals := 12 } (wPc w σ [.ref a, .ref p0] sz) (wQm w sz b (fun u => ∃ q1 q2 q3 q4, u = (W_Court w q1 q2 q3 q4 p0, D_Court σ) ∧ NRs (W_Court w q1 q2 q3 q4 p0) (D_Court σ) S)) 4 506 (gA w sz) := by
  refine mk_head (by decide) rfl hb hbs (fun X hX hi hsz C => ?_)
  subst hX
  have e0 : wSet w 50 (lR 0 [.null, .null, .null, .null, .null, .int 0]) = w := ws_id h0
  refine gW_w e0 ?_
  replace C := CG_w e0 C
  replace hN := NRs_w e0 hN
  show gW X (wSet w 50 (lR 0 [.null, .null, .null, .null, .null, .int 0])) (gA w sz, 0, 0) 2 _ σ 0 [(0, .ref a), (1, .ref p0)] []
  refine r_aload_n C.1 0 rfl (dk_at dk_Court_init_0 0 rfl) ?_
  refine r_objI C tc_219 tc_27 tc_28 (Nat.le_of_ble_eq_true rfl) (Nat.le_of_ble_eq_true rfl) (dk_at dk_Court_init_0 1 rfl) ?_
  refine r_aload_n C.1 0 rfl (dk_at dk_Court_init_0 2 rfl) ?_
  refine r_bipush C.1 8 (dk_at dk_Court_init_0 3 rfl) ?_
  refine r_newI (c1 := 1) (s1 := 8) C tc_152 52 8 (by decide) rfl (by decide) (no_sn (by decide) n52) (hN 52 (hSt 52 (by decide) (by decide))) ⟨rfl, rfl, Nat.le_of_ble_eq_true rfl, Nat.le_of_ble_eq_true rfl⟩ (dk_at dk_Court_init_0 4 rfl) (fun q1 hhq1 C => ?_)
  refine r_nf C hi (by decide) hN (fun _ _ => nR_I) fw_Court_9 ⟨rfl, rfl⟩ ha (Nat.le_of_ble_eq_true rfl) (dk_at dk_Court_init_0 5 rfl) [.null, .ref q1, .null, .null, .null, .int 0] rfl (fun C hN ha => ?_)
  refine r_aload_n C.1 0 rfl (dk_at dk_Court_init_0 6 rfl) ?_
  refine r_bipush C.1 50 (dk_at dk_Court_init_0 7 rfl) ?_
  refine r_newJ (c1 := 2) (s1 := 58) C tc_239 53 50 (by decide) rfl (by decide) (no_sn (by decide) (no_an (by decide) n53)) (hN 53 (hSt 53 (by decide) (by decide))) ⟨rfl, rfl, Nat.le_of_ble_eq_true rfl, Nat.le_of_ble_eq_true rfl⟩ (dk_at dk_Court_init_0 8 rfl) (fun q2 hhq2 C => ?_)
  refine r_nf C hi (by decide) hN (fun _ _ => nR_J) fw_Court_17 ⟨rfl, rfl⟩ ha (Nat.le_of_ble_eq_true rfl) (dk_at dk_Court_init_0 9 rfl) [.null, .ref q1, .ref q2, .null, .null, .int 0] rfl (fun C hN ha => ?_)
  refine r_aload_n C.1 0 rfl (dk_at dk_Court_init_0 10 rfl) ?_
  refine r_sipush C.1 224 (dk_at dk_Court_init_0 11 rfl) ?_
  refine r_newI (c1 := 3) (s1 := 282) C tc_152 54 224 (by decide) rfl (by decide) (no_sn (by decide) (no_an (by decide) (no_an (by decide) n54))) (hN 54 (hSt 54 (by decide) (by decide))) ⟨rfl, rfl, Nat.le_of_ble_eq_true rfl, Nat.le_of_ble_eq_true rfl⟩ (dk_at dk_Court_init_0 12 rfl) (fun q3 hhq3 C => ?_)
  refine r_nf C hi (by decide) hN (fun _ _ => nR_I) fw_Court_21 ⟨rfl, rfl⟩ ha (Nat.le_of_ble_eq_true rfl) (dk_at dk_Court_init_0 13 rfl) [.null, .ref q1, .ref q2, .ref q3, .null, .int 0] rfl (fun C hN ha => ?_)
  refine r_aload_n C.1 0 rfl (dk_at dk_Court_init_0 14 rfl) ?_
  refine r_sipush C.1 224 (dk_at dk_Court_init_0 15 rfl) ?_
  refine r_newI (c1 := 4) (s1 := 506) C tc_152 55 224 (by decide) rfl (by decide) (no_sn (by decide) (no_an (by decide) (no_an (by decide) (no_an (by decide) n55)))) (hN 55 (hSt 55 (by decide) (by decide))) ⟨rfl, rfl, Nat.le_of_ble_eq_true rfl, Nat.le_of_ble_eq_true rfl⟩ (dk_at dk_Court_init_0 16 rfl) (fun q4 hhq4 C => ?_)
  refine r_nf C hi (by decide) hN (fun _ _ => nR_I) fw_Court_24 ⟨rfl, rfl⟩ ha (Nat.le_of_ble_eq_true rfl) (dk_at dk_Court_init_0 17 rfl) [.null, .ref q1, .ref q2, .ref q3, .ref q4, .int 0] rfl (fun C hN ha => ?_)
  refine r_aload_n C.1 0 rfl (dk_at dk_Court_init_0 18 rfl) ?_
  refine r_iconst C.1 1 (dk_at dk_Court_init_0 19 rfl) ?_
  refine r_pf C hi hN fw_Court_27 ⟨rfl, rfl⟩ ha (Nat.le_of_ble_eq_true rfl) (dk_at dk_Court_init_0 20 rfl) [.null, .ref q1, .ref q2, .ref q3, .ref q4, .int 1] rfl (fun C hN => ?_)
  refine r_aload_n C.1 0 rfl (dk_at dk_Court_init_0 21 rfl) ?_
  refine r_aload_n C.1 1 rfl (dk_at dk_Court_init_0 22 rfl) ?_
  refine r_pf C hi hN fw_Court_31 ⟨rfl, rfl⟩ ha (Nat.le_of_ble_eq_true rfl) (dk_at dk_Court_init_0 23 rfl) [.ref p0, .ref q1, .ref q2, .ref q3, .ref q4, .int 1] rfl (fun C hN => ?_)
  exact r_mvret C rfl hsz ⟨Nat.le_of_ble_eq_true rfl, Nat.le_of_ble_eq_true rfl⟩ ⟨q1, q2, q3, q4, rfl, hN⟩ (dk_at dk_Court_init_0 24 rfl)
def W_Ord (w : WO) (q1 q2 : Nat) (p0 : Nat) (p1 : Nat) : WO := wSet (wAdd (wAdd w 63 q1 (lI 0 16)) 64 q2 (lJ 50)) 60 (lR 2 [.ref p0, .ref p1, .ref q1, .ref q2, .int 0, .int 0, .int (-1)])
def D_Ord (σ : DD) : DD := (cle (cle σ 63) 64)
theorem W_Ord_comm {w : WO} {y : LY} {q1 q2 : Nat} {p0 : Nat} {p1 : Nat} : W_Ord (wSet w 0 y) q1 q2 p0 p1 = wSet (W_Ord w q1 q2 p0 p1) 0 y := by
  unfold W_Ord
  rw [ws_comm (by decide), ws_comm (by decide), wss_comm (by decide)]
theorem W_Ord_n {w : WO} {q1 q2 : Nat} {p0 : Nat} {p1 : Nat} {o : Nat} (h : o < 60 ∨ 67 < o) (n : wLy w o = none) : wLy (W_Ord w q1 q2 p0 p1) o = none := no_sn (by omega) (no_an (by omega) (no_an (by omega) n))
theorem W_Ord_a {w : WO} {q1 q2 : Nat} {p0 : Nat} {p1 : Nat} {o c : Nat} (h : o < 60 ∨ 67 < o) (e : wAd w o = c) : wAd (W_Ord w q1 q2 p0 p1) o = c := ha_sn (ha_an (by omega) (ha_an (by omega) e))
set_option maxRecDepth 20000 in
theorem i_Ord {l : Launch} {w : WO} {σ : DD} {a sz : Nat} {b : BZ} {S : Nat → Prop} {p0 : Nat} {p1 : Nat} (hb : BW b w) (hbs : b.1 ≤ sz) (h0 : wLy w 60 = some (lR 2 [.null, .null, .null, .null, .int 0, .int 0, .int 0])) (ha : wAd w 60 = a) (hN : NRs w σ S) (hSt : ∀ o, 60 < o → o ≤ 67 → S o) (n63 : wLy w 63 = none) (n64 : wLy w 64 = none) : Met l yX2_init (.code yX2_init cX2_init 3 none :: TT) { frames := 1, cells := 2, slots := 66, locals := 12 } (wPc w σ [.ref a, .ref p0, .ref p1] sz) (wQm w sz b (fun u => ∃ q1 q2, u = (W_Ord w q1 q2 p0 p1, D_Ord σ) ∧ NRs (W_Ord w q1 q2 p0 p1) (D_Ord σ) S)) 2 66 (gA w sz) := by
  refine mk_head (by decide) rfl hb hbs (fun X hX hi hsz C => ?_)
  subst hX
  have e0 : wSet w 60 (lR 2 [.null, .null, .null, .null, .int 0, .int 0, .int 0]) = w := ws_id h0
  refine gW_w e0 ?_
  replace C := CG_w e0 C
  replace hN := NRs_w e0 hN
  show gW X (wSet w 60 (lR 2 [.null, .null, .null, .null, .int 0, .int 0, .int 0])) (gA w sz, 0, 0) 3 _ σ 0 [(0, .ref a), (1, .ref p0), (2, .ref p1)] []
  refine r_aload_n C.1 0 rfl (dk_at dk_Ord_init_0 0 rfl) ?_
  refine r_objI C tc_245 tc_27 tc_28 (Nat.le_of_ble_eq_true rfl) (Nat.le_of_ble_eq_true rfl) (dk_at dk_Ord_init_0 1 rfl) ?_
  refine r_aload_n C.1 0 rfl (dk_at dk_Ord_init_0 2 rfl) ?_
  refine r_bipush C.1 16 (dk_at dk_Ord_init_0 3 rfl) ?_
  refine r_newI (c1 := 1) (s1 := 16) C tc_152 63 16 (by decide) rfl (by decide) (no_sn (by decide) n63) (hN 63 (hSt 63 (by decide) (by decide))) ⟨rfl, rfl, Nat.le_of_ble_eq_true rfl, Nat.le_of_ble_eq_true rfl⟩ (dk_at dk_Ord_init_0 4 rfl) (fun q1 hhq1 C => ?_)
  refine r_nf C hi (by decide) hN (fun _ _ => nR_I) fw_Ord_11 ⟨rfl, rfl⟩ ha (Nat.le_of_ble_eq_true rfl) (dk_at dk_Ord_init_0 5 rfl) [.null, .null, .ref q1, .null, .int 0, .int 0, .int 0] rfl (fun C hN ha => ?_)
  refine r_aload_n C.1 0 rfl (dk_at dk_Ord_init_0 6 rfl) ?_
  refine r_bipush C.1 50 (dk_at dk_Ord_init_0 7 rfl) ?_
  refine r_newJ (c1 := 2) (s1 := 66) C tc_239 64 50 (by decide) rfl (by decide) (no_sn (by decide) (no_an (by decide) n64)) (hN 64 (hSt 64 (by decide) (by decide))) ⟨rfl, rfl, Nat.le_of_ble_eq_true rfl, Nat.le_of_ble_eq_true rfl⟩ (dk_at dk_Ord_init_0 8 rfl) (fun q2 hhq2 C => ?_)
  refine r_nf C hi (by decide) hN (fun _ _ => nR_J) fw_Ord_17 ⟨rfl, rfl⟩ ha (Nat.le_of_ble_eq_true rfl) (dk_at dk_Ord_init_0 9 rfl) [.null, .null, .ref q1, .ref q2, .int 0, .int 0, .int 0] rfl (fun C hN ha => ?_)
  refine r_aload_n C.1 0 rfl (dk_at dk_Ord_init_0 10 rfl) ?_
  refine r_iconst C.1 (-1) (dk_at dk_Ord_init_0 11 rfl) ?_
  refine r_pf C hi hN fw_Ord_21 ⟨rfl, rfl⟩ ha (Nat.le_of_ble_eq_true rfl) (dk_at dk_Ord_init_0 12 rfl) [.null, .null, .ref q1, .ref q2, .int 0, .int 0, .int (-1)] rfl (fun C hN => ?_)
  refine r_aload_n C.1 0 rfl (dk_at dk_Ord_init_0 13 rfl) ?_
  refine r_aload_n C.1 1 rfl (dk_at dk_Ord_init_0 14 rfl) ?_
  refine r_pf C hi hN fw_Ord_25 ⟨rfl, rfl⟩ ha (Nat.le_of_ble_eq_true rfl) (dk_at dk_Ord_init_0 15 rfl) [.ref p0, .null, .ref q1, .ref q2, .int 0, .int 0, .int (-1)] rfl (fun C hN => ?_)
  refine r_aload_n C.1 0 rfl (dk_at dk_Ord_init_0 16 rfl) ?_
  refine r_aload_n C.1 2 rfl (dk_at dk_Ord_init_0 17 rfl) ?_
  refine r_pf C hi hN fw_Ord_29 ⟨rfl, rfl⟩ ha (Nat.le_of_ble_eq_true rfl) (dk_at dk_Ord_init_0 18 rfl) [.ref p0, .ref p1, .ref q1, .ref q2, .int 0, .int 0, .int (-1)] rfl (fun C hN => ?_)
  exact r_mvret C rfl hsz ⟨Nat.le_of_ble_eq_true rfl, Nat.le_of_ble_eq_true rfl⟩ ⟨q1, q2, rfl, hN⟩ (dk_at dk_Ord_init_0 19 rfl)
def W_Morn (w : WO) (q1 q2 q3 q4 q5 : Nat) (p0 : Nat) (p1 : Nat) : WO := wSet (wAdd (wAdd (wAdd (wAdd (wAdd w 73 q1 (lI 0 8)) 74 q2 (lI 0 5)) 75 q3 (lI 0 40)) 76 q4 (lI 0 5)) 77 q5 (lI 0 5)) 70 (lR 1 [.ref p0, .ref p1, .ref q1, .ref q2, .ref q3, .ref q4, .ref q5, .int 0, .int 0, .int 0, .int 0, .int 0, .int 0, .int 0])
def D_Morn (σ : DD) : DD := (cle (cle (cle (cle (cle σ 73) 74) 75) 76) 77)
theorem W_Morn_comm {w : WO} {y : LY} {q1 q2 q3 q4 q5 : Nat} {p0 : Nat} {p1 : Nat} : W_Morn (wSet w 0 y) q1 q2 q3 q4 q5 p0 p1 = wSet (W_Morn w q1 q2 q3 q4 q5 p0 p1) 0 y := by
  unfold W_Morn
  rw [ws_comm (by decide), ws_comm (by decide), ws_comm (by decide), ws_comm (by decide), ws_comm (by decide), wss_comm (by decide)]
theorem W_Morn_n {w : WO} {q1 q2 q3 q4 q5 : Nat} {p0 : Nat} {p1 : Nat} {o : Nat} (h : o < 70 ∨ 84 < o) (n : wLy w o = none) : wLy (W_Morn w q1 q2 q3 q4 q5 p0 p1) o = none := no_sn (by omega) (no_an (by omega) (no_an (by omega) (no_an (by omega) (no_an (by omega) (no_an (by omega) n)))))
theorem W_Morn_a {w : WO} {q1 q2 q3 q4 q5 : Nat} {p0 : Nat} {p1 : Nat} {o c : Nat} (h : o < 70 ∨ 84 < o) (e : wAd w o = c) : wAd (W_Morn w q1 q2 q3 q4 q5 p0 p1) o = c := ha_sn (ha_an (by omega) (ha_an (by omega) (ha_an (by omega) (ha_an (by omega) (ha_an (by omega) e)))))
set_option maxRecDepth 20000 in
theorem i_Morn {l : Launch} {w : WO} {σ : DD} {a sz : Nat} {b : BZ} {S : Nat → Prop} {p0 : Nat} {p1 : Nat} (hb : BW b w) (hbs : b.1 ≤ sz) (h0 : wLy w 70 = some (lR 1 [.null, .null, .null, .null, .null, .null, .null, .int 0, .int 0, .int 0, .int 0, .int 0, .int 0, .int 0])) (ha : wAd w 70 = a) (hN : NRs w σ S) (hSt : ∀ o, 70 < o → o ≤ 84 → S o) (n73 : wLy w 73 = none) (n74 : wLy w 74 = none) (n75 : wLy w 75 = none) (n76 : wLy w 76 = none) (n77 : wLy w 77 = none) : Met l yX1_init (.code yX1_init cX1_init 3 none :: TT) { frames := 1, cells := 5, slots := 63, locals := 12 } (wPc w σ [.ref a, .ref p0, .ref p1] sz) (wQm w sz b (fun u => ∃ q1 q2 q3 q4 q5, u = (W_Morn w q1 q2 q3 q4 q5 p0 p1, D_Morn σ) ∧ NRs (W_Morn w q1 q2 q3 q4 q5 p0 p1) (D_Morn σ) S)) 5 63 (gA w sz) := by
  refine mk_head (by decide) rfl hb hbs (fun X hX hi hsz C => ?_)
  subst hX
  have e0 : wSet w 70 (lR 1 [.null, .null, .null, .null, .null, .null, .null, .int 0, .int 0, .int 0, .int 0, .int 0, .int 0, .int 0]) = w := ws_id h0
  refine gW_w e0 ?_
  replace C := CG_w e0 C
  replace hN := NRs_w e0 hN
  show gW X (wSet w 70 (lR 1 [.null, .null, .null, .null, .null, .null, .null, .int 0, .int 0, .int 0, .int 0, .int 0, .int 0, .int 0])) (gA w sz, 0, 0) 3 _ σ 0 [(0, .ref a), (1, .ref p0), (2, .ref p1)] []
  refine r_aload_n C.1 0 rfl (dk_at dk_Morn_init_0 0 rfl) ?_
  refine r_objI C tc_274 tc_27 tc_28 (Nat.le_of_ble_eq_true rfl) (Nat.le_of_ble_eq_true rfl) (dk_at dk_Morn_init_0 1 rfl) ?_
  refine r_aload_n C.1 0 rfl (dk_at dk_Morn_init_0 2 rfl) ?_
  refine r_bipush C.1 8 (dk_at dk_Morn_init_0 3 rfl) ?_
  refine r_newI (c1 := 1) (s1 := 8) C tc_152 73 8 (by decide) rfl (by decide) (no_sn (by decide) n73) (hN 73 (hSt 73 (by decide) (by decide))) ⟨rfl, rfl, Nat.le_of_ble_eq_true rfl, Nat.le_of_ble_eq_true rfl⟩ (dk_at dk_Morn_init_0 4 rfl) (fun q1 hhq1 C => ?_)
  refine r_nf C hi (by decide) hN (fun _ _ => nR_I) fw_Morn_9 ⟨rfl, rfl⟩ ha (Nat.le_of_ble_eq_true rfl) (dk_at dk_Morn_init_0 5 rfl) [.null, .null, .ref q1, .null, .null, .null, .null, .int 0, .int 0, .int 0, .int 0, .int 0, .int 0, .int 0] rfl (fun C hN ha => ?_)
  refine r_aload_n C.1 0 rfl (dk_at dk_Morn_init_0 6 rfl) ?_
  refine r_iconst C.1 5 (dk_at dk_Morn_init_0 7 rfl) ?_
  refine r_newI (c1 := 2) (s1 := 13) C tc_152 74 5 (by decide) rfl (by decide) (no_sn (by decide) (no_an (by decide) n74)) (hN 74 (hSt 74 (by decide) (by decide))) ⟨rfl, rfl, Nat.le_of_ble_eq_true rfl, Nat.le_of_ble_eq_true rfl⟩ (dk_at dk_Morn_init_0 8 rfl) (fun q2 hhq2 C => ?_)
  refine r_nf C hi (by decide) hN (fun _ _ => nR_I) fw_Morn_15 ⟨rfl, rfl⟩ ha (Nat.le_of_ble_eq_true rfl) (dk_at dk_Morn_init_0 9 rfl) [.null, .null, .ref q1, .ref q2, .null, .null, .null, .int 0, .int 0, .int 0, .int 0, .int 0, .int 0, .int 0] rfl (fun C hN ha => ?_)
  refine r_aload_n C.1 0 rfl (dk_at dk_Morn_init_0 10 rfl) ?_
  refine r_bipush C.1 40 (dk_at dk_Morn_init_0 11 rfl) ?_
  refine r_newI (c1 := 3) (s1 := 53) C tc_152 75 40 (by decide) rfl (by decide) (no_sn (by decide) (no_an (by decide) (no_an (by decide) n75))) (hN 75 (hSt 75 (by decide) (by decide))) ⟨rfl, rfl, Nat.le_of_ble_eq_true rfl, Nat.le_of_ble_eq_true rfl⟩ (dk_at dk_Morn_init_0 12 rfl) (fun q3 hhq3 C => ?_)
  refine r_nf C hi (by decide) hN (fun _ _ => nR_I) fw_Morn_18 ⟨rfl, rfl⟩ ha (Nat.le_of_ble_eq_true rfl) (dk_at dk_Morn_init_0 13 rfl) [.null, .null, .ref q1, .ref q2, .ref q3, .null, .null, .int 0, .int 0, .int 0, .int 0, .int 0, .int 0, .int 0] rfl (fun C hN ha => ?_)
  refine r_aload_n C.1 0 rfl (dk_at dk_Morn_init_0 14 rfl) ?_
  refine r_iconst C.1 5 (dk_at dk_Morn_init_0 15 rfl) ?_
  refine r_newI (c1 := 4) (s1 := 58) C tc_152 76 5 (by decide) rfl (by decide) (no_sn (by decide) (no_an (by decide) (no_an (by decide) (no_an (by decide) n76)))) (hN 76 (hSt 76 (by decide) (by decide))) ⟨rfl, rfl, Nat.le_of_ble_eq_true rfl, Nat.le_of_ble_eq_true rfl⟩ (dk_at dk_Morn_init_0 16 rfl) (fun q4 hhq4 C => ?_)
  refine r_nf C hi (by decide) hN (fun _ _ => nR_I) fw_Morn_21 ⟨rfl, rfl⟩ ha (Nat.le_of_ble_eq_true rfl) (dk_at dk_Morn_init_0 17 rfl) [.null, .null, .ref q1, .ref q2, .ref q3, .ref q4, .null, .int 0, .int 0, .int 0, .int 0, .int 0, .int 0, .int 0] rfl (fun C hN ha => ?_)
  refine r_aload_n C.1 0 rfl (dk_at dk_Morn_init_0 18 rfl) ?_
  refine r_iconst C.1 5 (dk_at dk_Morn_init_0 19 rfl) ?_
  refine r_newI (c1 := 5) (s1 := 63) C tc_152 77 5 (by decide) rfl (by decide) (no_sn (by decide) (no_an (by decide) (no_an (by decide) (no_an (by decide) (no_an (by decide) n77))))) (hN 77 (hSt 77 (by decide) (by decide))) ⟨rfl, rfl, Nat.le_of_ble_eq_true rfl, Nat.le_of_ble_eq_true rfl⟩ (dk_at dk_Morn_init_0 20 rfl) (fun q5 hhq5 C => ?_)
  refine r_nf C hi (by decide) hN (fun _ _ => nR_I) fw_Morn_24 ⟨rfl, rfl⟩ ha (Nat.le_of_ble_eq_true rfl) (dk_at dk_Morn_init_0 21 rfl) [.null, .null, .ref q1, .ref q2, .ref q3, .ref q4, .ref q5, .int 0, .int 0, .int 0, .int 0, .int 0, .int 0, .int 0] rfl (fun C hN ha => ?_)
  refine r_aload_n C.1 0 rfl (dk_at dk_Morn_init_0 22 rfl) ?_
  refine r_aload_n C.1 1 rfl (dk_at dk_Morn_init_0 23 rfl) ?_
  refine r_pf C hi hN fw_Morn_27 ⟨rfl, rfl⟩ ha (Nat.le_of_ble_eq_true rfl) (dk_at dk_Morn_init_0 24 rfl) [.ref p0, .null, .ref q1, .ref q2, .ref q3, .ref q4, .ref q5, .int 0, .int 0, .int 0, .int 0, .int 0, .int 0, .int 0] rfl (fun C hN => ?_)
  refine r_aload_n C.1 0 rfl (dk_at dk_Morn_init_0 25 rfl) ?_
  refine r_aload_n C.1 2 rfl (dk_at dk_Morn_init_0 26 rfl) ?_
  refine r_pf C hi hN fw_Morn_31 ⟨rfl, rfl⟩ ha (Nat.le_of_ble_eq_true rfl) (dk_at dk_Morn_init_0 27 rfl) [.ref p0, .ref p1, .ref q1, .ref q2, .ref q3, .ref q4, .ref q5, .int 0, .int 0, .int 0, .int 0, .int 0, .int 0, .int 0] rfl (fun C hN => ?_)
  exact r_mvret C rfl hsz ⟨Nat.le_of_ble_eq_true rfl, Nat.le_of_ble_eq_true rfl⟩ ⟨q1, q2, q3, q4, q5, rfl, hN⟩ (dk_at dk_Morn_init_0 28 rfl)
def W_Shar (w : WO) (q1 q2 q3 q4 : Nat) (p0 : Nat) (p1 : Nat) : WO := wSet (wAdd (wAdd (wAdd (wAdd w 93 q1 (lI 0 8)) 94 q2 (lI 0 8)) 95 q3 (lI 0 4)) 96 q4 (lI 0 32)) 90 (lR 6 [.ref p0, .ref p1, .ref q1, .ref q2, .ref q3, .ref q4, .int 0])
def D_Shar (σ : DD) : DD := (cle (cle (cle (cle σ 93) 94) 95) 96)
theorem W_Shar_comm {w : WO} {y : LY} {q1 q2 q3 q4 : Nat} {p0 : Nat} {p1 : Nat} : W_Shar (wSet w 0 y) q1 q2 q3 q4 p0 p1 = wSet (W_Shar w q1 q2 q3 q4 p0 p1) 0 y := by
  unfold W_Shar
  rw [ws_comm (by decide), ws_comm (by decide), ws_comm (by decide), ws_comm (by decide), wss_comm (by decide)]
theorem W_Shar_n {w : WO} {q1 q2 q3 q4 : Nat} {p0 : Nat} {p1 : Nat} {o : Nat} (h : o < 90 ∨ 97 < o) (n : wLy w o = none) : wLy (W_Shar w q1 q2 q3 q4 p0 p1) o = none := no_sn (by omega) (no_an (by omega) (no_an (by omega) (no_an (by omega) (no_an (by omega) n))))
theorem W_Shar_a {w : WO} {q1 q2 q3 q4 : Nat} {p0 : Nat} {p1 : Nat} {o c : Nat} (h : o < 90 ∨ 97 < o) (e : wAd w o = c) : wAd (W_Shar w q1 q2 q3 q4 p0 p1) o = c := ha_sn (ha_an (by omega) (ha_an (by omega) (ha_an (by omega) (ha_an (by omega) e))))
set_option maxRecDepth 20000 in
theorem i_Shar {l : Launch} {w : WO} {σ : DD} {a sz : Nat} {b : BZ} {S : Nat → Prop} {p0 : Nat} {p1 : Nat} (hb : BW b w) (hbs : b.1 ≤ sz) (h0 : wLy w 90 = some (lR 6 [.null, .null, .null, .null, .null, .null, .int 0])) (ha : wAd w 90 = a) (hN : NRs w σ S) (hSt : ∀ o, 90 < o → o ≤ 97 → S o) (n93 : wLy w 93 = none) (n94 : wLy w 94 = none) (n95 : wLy w 95 = none) (n96 : wLy w 96 = none) : Met l yX6_init (.code yX6_init cX6_init 3 none :: TT) { frames := 1, cells := 4, slots := 52, locals := 12 } (wPc w σ [.ref a, .ref p0, .ref p1] sz) (wQm w sz b (fun u => ∃ q1 q2 q3 q4, u = (W_Shar w q1 q2 q3 q4 p0 p1, D_Shar σ) ∧ NRs (W_Shar w q1 q2 q3 q4 p0 p1) (D_Shar σ) S)) 4 52 (gA w sz) := by
  refine mk_head (by decide) rfl hb hbs (fun X hX hi hsz C => ?_)
  subst hX
  have e0 : wSet w 90 (lR 6 [.null, .null, .null, .null, .null, .null, .int 0]) = w := ws_id h0
  refine gW_w e0 ?_
  replace C := CG_w e0 C
  replace hN := NRs_w e0 hN
  show gW X (wSet w 90 (lR 6 [.null, .null, .null, .null, .null, .null, .int 0])) (gA w sz, 0, 0) 3 _ σ 0 [(0, .ref a), (1, .ref p0), (2, .ref p1)] []
  refine r_aload_n C.1 0 rfl (dk_at dk_Shar_init_0 0 rfl) ?_
  refine r_objI C tc_325 tc_27 tc_28 (Nat.le_of_ble_eq_true rfl) (Nat.le_of_ble_eq_true rfl) (dk_at dk_Shar_init_0 1 rfl) ?_
  refine r_aload_n C.1 0 rfl (dk_at dk_Shar_init_0 2 rfl) ?_
  refine r_bipush C.1 8 (dk_at dk_Shar_init_0 3 rfl) ?_
  refine r_newI (c1 := 1) (s1 := 8) C tc_152 93 8 (by decide) rfl (by decide) (no_sn (by decide) n93) (hN 93 (hSt 93 (by decide) (by decide))) ⟨rfl, rfl, Nat.le_of_ble_eq_true rfl, Nat.le_of_ble_eq_true rfl⟩ (dk_at dk_Shar_init_0 4 rfl) (fun q1 hhq1 C => ?_)
  refine r_nf C hi (by decide) hN (fun _ _ => nR_I) fw_Shar_9 ⟨rfl, rfl⟩ ha (Nat.le_of_ble_eq_true rfl) (dk_at dk_Shar_init_0 5 rfl) [.null, .null, .ref q1, .null, .null, .null, .int 0] rfl (fun C hN ha => ?_)
  refine r_aload_n C.1 0 rfl (dk_at dk_Shar_init_0 6 rfl) ?_
  refine r_bipush C.1 8 (dk_at dk_Shar_init_0 7 rfl) ?_
  refine r_newI (c1 := 2) (s1 := 16) C tc_152 94 8 (by decide) rfl (by decide) (no_sn (by decide) (no_an (by decide) n94)) (hN 94 (hSt 94 (by decide) (by decide))) ⟨rfl, rfl, Nat.le_of_ble_eq_true rfl, Nat.le_of_ble_eq_true rfl⟩ (dk_at dk_Shar_init_0 8 rfl) (fun q2 hhq2 C => ?_)
  refine r_nf C hi (by decide) hN (fun _ _ => nR_I) fw_Shar_15 ⟨rfl, rfl⟩ ha (Nat.le_of_ble_eq_true rfl) (dk_at dk_Shar_init_0 9 rfl) [.null, .null, .ref q1, .ref q2, .null, .null, .int 0] rfl (fun C hN ha => ?_)
  refine r_aload_n C.1 0 rfl (dk_at dk_Shar_init_0 10 rfl) ?_
  refine r_iconst C.1 4 (dk_at dk_Shar_init_0 11 rfl) ?_
  refine r_newI (c1 := 3) (s1 := 20) C tc_152 95 4 (by decide) rfl (by decide) (no_sn (by decide) (no_an (by decide) (no_an (by decide) n95))) (hN 95 (hSt 95 (by decide) (by decide))) ⟨rfl, rfl, Nat.le_of_ble_eq_true rfl, Nat.le_of_ble_eq_true rfl⟩ (dk_at dk_Shar_init_0 12 rfl) (fun q3 hhq3 C => ?_)
  refine r_nf C hi (by decide) hN (fun _ _ => nR_I) fw_Shar_18 ⟨rfl, rfl⟩ ha (Nat.le_of_ble_eq_true rfl) (dk_at dk_Shar_init_0 13 rfl) [.null, .null, .ref q1, .ref q2, .ref q3, .null, .int 0] rfl (fun C hN ha => ?_)
  refine r_aload_n C.1 0 rfl (dk_at dk_Shar_init_0 14 rfl) ?_
  refine r_bipush C.1 32 (dk_at dk_Shar_init_0 15 rfl) ?_
  refine r_newI (c1 := 4) (s1 := 52) C tc_152 96 32 (by decide) rfl (by decide) (no_sn (by decide) (no_an (by decide) (no_an (by decide) (no_an (by decide) n96)))) (hN 96 (hSt 96 (by decide) (by decide))) ⟨rfl, rfl, Nat.le_of_ble_eq_true rfl, Nat.le_of_ble_eq_true rfl⟩ (dk_at dk_Shar_init_0 16 rfl) (fun q4 hhq4 C => ?_)
  refine r_nf C hi (by decide) hN (fun _ _ => nR_I) fw_Shar_21 ⟨rfl, rfl⟩ ha (Nat.le_of_ble_eq_true rfl) (dk_at dk_Shar_init_0 17 rfl) [.null, .null, .ref q1, .ref q2, .ref q3, .ref q4, .int 0] rfl (fun C hN ha => ?_)
  refine r_aload_n C.1 0 rfl (dk_at dk_Shar_init_0 18 rfl) ?_
  refine r_aload_n C.1 1 rfl (dk_at dk_Shar_init_0 19 rfl) ?_
  refine r_pf C hi hN fw_Shar_24 ⟨rfl, rfl⟩ ha (Nat.le_of_ble_eq_true rfl) (dk_at dk_Shar_init_0 20 rfl) [.ref p0, .null, .ref q1, .ref q2, .ref q3, .ref q4, .int 0] rfl (fun C hN => ?_)
  refine r_aload_n C.1 0 rfl (dk_at dk_Shar_init_0 21 rfl) ?_
  refine r_aload_n C.1 2 rfl (dk_at dk_Shar_init_0 22 rfl) ?_
  refine r_pf C hi hN fw_Shar_28 ⟨rfl, rfl⟩ ha (Nat.le_of_ble_eq_true rfl) (dk_at dk_Shar_init_0 23 rfl) [.ref p0, .ref p1, .ref q1, .ref q2, .ref q3, .ref q4, .int 0] rfl (fun C hN => ?_)
  exact r_mvret C rfl hsz ⟨Nat.le_of_ble_eq_true rfl, Nat.le_of_ble_eq_true rfl⟩ ⟨q1, q2, q3, q4, rfl, hN⟩ (dk_at dk_Shar_init_0 24 rfl)
def W_Outl (w : WO) (q1 q2 q3 : Nat) (p0 : Nat) (p1 : Nat) : WO := wSet (wAdd (wAdd (wAdd w 103 q1 (lJ 100)) 104 q2 (lI 2 8)) 105 q3 (lI 0 8)) 100 (lR 3 [.ref p0, .ref p1, .ref q1, .ref q2, .ref q3])
def D_Outl (σ : DD) : DD := (cle (cle (cle σ 103) 104) 105)
theorem W_Outl_comm {w : WO} {y : LY} {q1 q2 q3 : Nat} {p0 : Nat} {p1 : Nat} : W_Outl (wSet w 0 y) q1 q2 q3 p0 p1 = wSet (W_Outl w q1 q2 q3 p0 p1) 0 y := by
  unfold W_Outl
  rw [ws_comm (by decide), ws_comm (by decide), ws_comm (by decide), wss_comm (by decide)]
theorem W_Outl_n {w : WO} {q1 q2 q3 : Nat} {p0 : Nat} {p1 : Nat} {o : Nat} (h : o < 100 ∨ 105 < o) (n : wLy w o = none) : wLy (W_Outl w q1 q2 q3 p0 p1) o = none := no_sn (by omega) (no_an (by omega) (no_an (by omega) (no_an (by omega) n)))
theorem W_Outl_a {w : WO} {q1 q2 q3 : Nat} {p0 : Nat} {p1 : Nat} {o c : Nat} (h : o < 100 ∨ 105 < o) (e : wAd w o = c) : wAd (W_Outl w q1 q2 q3 p0 p1) o = c := ha_sn (ha_an (by omega) (ha_an (by omega) (ha_an (by omega) e)))
set_option maxRecDepth 20000 in
theorem i_Outl {l : Launch} {w : WO} {σ : DD} {a sz : Nat} {b : BZ} {S : Nat → Prop} {p0 : Nat} {p1 : Nat} (hb : BW b w) (hbs : b.1 ≤ sz) (h0 : wLy w 100 = some (lR 3 [.null, .null, .null, .null, .null])) (ha : wAd w 100 = a) (hN : NRs w σ S) (hSt : ∀ o, 100 < o → o ≤ 105 → S o) (n103 : wLy w 103 = none) (n104 : wLy w 104 = none) (n105 : wLy w 105 = none) : Met l yX3_init (.code yX3_init cX3_init 3 none :: TT) { frames := 1, cells := 3, slots := 116, locals := 12 } (wPc w σ [.ref a, .ref p0, .ref p1] sz) (wQm w sz b (fun u => ∃ q1 q2 q3, u = (W_Outl w q1 q2 q3 p0 p1, D_Outl σ) ∧ NRs (W_Outl w q1 q2 q3 p0 p1) (D_Outl σ) S)) 3 116 (gA w sz) := by
  refine mk_head (by decide) rfl hb hbs (fun X hX hi hsz C => ?_)
  subst hX
  have e0 : wSet w 100 (lR 3 [.null, .null, .null, .null, .null]) = w := ws_id h0
  refine gW_w e0 ?_
  replace C := CG_w e0 C
  replace hN := NRs_w e0 hN
  show gW X (wSet w 100 (lR 3 [.null, .null, .null, .null, .null])) (gA w sz, 0, 0) 3 _ σ 0 [(0, .ref a), (1, .ref p0), (2, .ref p1)] []
  refine r_aload_n C.1 0 rfl (dk_at dk_Outl_init_0 0 rfl) ?_
  refine r_objI C tc_354 tc_27 tc_28 (Nat.le_of_ble_eq_true rfl) (Nat.le_of_ble_eq_true rfl) (dk_at dk_Outl_init_0 1 rfl) ?_
  refine r_aload_n C.1 0 rfl (dk_at dk_Outl_init_0 2 rfl) ?_
  refine r_bipush C.1 100 (dk_at dk_Outl_init_0 3 rfl) ?_
  refine r_newJ (c1 := 1) (s1 := 100) C tc_239 103 100 (by decide) rfl (by decide) (no_sn (by decide) n103) (hN 103 (hSt 103 (by decide) (by decide))) ⟨rfl, rfl, Nat.le_of_ble_eq_true rfl, Nat.le_of_ble_eq_true rfl⟩ (dk_at dk_Outl_init_0 4 rfl) (fun q1 hhq1 C => ?_)
  refine r_nf C hi (by decide) hN (fun _ _ => nR_J) fw_Outl_9 ⟨rfl, rfl⟩ ha (Nat.le_of_ble_eq_true rfl) (dk_at dk_Outl_init_0 5 rfl) [.null, .null, .ref q1, .null, .null] rfl (fun C hN ha => ?_)
  refine r_aload_n C.1 0 rfl (dk_at dk_Outl_init_0 6 rfl) ?_
  refine r_bipush C.1 8 (dk_at dk_Outl_init_0 7 rfl) ?_
  refine r_newZ (c1 := 2) (s1 := 108) C tc_371 104 8 (by decide) rfl (by decide) (no_sn (by decide) (no_an (by decide) n104)) (hN 104 (hSt 104 (by decide) (by decide))) ⟨rfl, rfl, Nat.le_of_ble_eq_true rfl, Nat.le_of_ble_eq_true rfl⟩ (dk_at dk_Outl_init_0 8 rfl) (fun q2 hhq2 C => ?_)
  refine r_nf C hi (by decide) hN (fun _ _ => nR_I) fw_Outl_15 ⟨rfl, rfl⟩ ha (Nat.le_of_ble_eq_true rfl) (dk_at dk_Outl_init_0 9 rfl) [.null, .null, .ref q1, .ref q2, .null] rfl (fun C hN ha => ?_)
  refine r_aload_n C.1 0 rfl (dk_at dk_Outl_init_0 10 rfl) ?_
  refine r_bipush C.1 8 (dk_at dk_Outl_init_0 11 rfl) ?_
  refine r_newI (c1 := 3) (s1 := 116) C tc_152 105 8 (by decide) rfl (by decide) (no_sn (by decide) (no_an (by decide) (no_an (by decide) n105))) (hN 105 (hSt 105 (by decide) (by decide))) ⟨rfl, rfl, Nat.le_of_ble_eq_true rfl, Nat.le_of_ble_eq_true rfl⟩ (dk_at dk_Outl_init_0 12 rfl) (fun q3 hhq3 C => ?_)
  refine r_nf C hi (by decide) hN (fun _ _ => nR_I) fw_Outl_19 ⟨rfl, rfl⟩ ha (Nat.le_of_ble_eq_true rfl) (dk_at dk_Outl_init_0 13 rfl) [.null, .null, .ref q1, .ref q2, .ref q3] rfl (fun C hN ha => ?_)
  refine r_aload_n C.1 0 rfl (dk_at dk_Outl_init_0 14 rfl) ?_
  refine r_aload_n C.1 1 rfl (dk_at dk_Outl_init_0 15 rfl) ?_
  refine r_pf C hi hN fw_Outl_23 ⟨rfl, rfl⟩ ha (Nat.le_of_ble_eq_true rfl) (dk_at dk_Outl_init_0 16 rfl) [.ref p0, .null, .ref q1, .ref q2, .ref q3] rfl (fun C hN => ?_)
  refine r_aload_n C.1 0 rfl (dk_at dk_Outl_init_0 17 rfl) ?_
  refine r_aload_n C.1 2 rfl (dk_at dk_Outl_init_0 18 rfl) ?_
  refine r_pf C hi hN fw_Outl_27 ⟨rfl, rfl⟩ ha (Nat.le_of_ble_eq_true rfl) (dk_at dk_Outl_init_0 19 rfl) [.ref p0, .ref p1, .ref q1, .ref q2, .ref q3] rfl (fun C hN => ?_)
  exact r_mvret C rfl hsz ⟨Nat.le_of_ble_eq_true rfl, Nat.le_of_ble_eq_true rfl⟩ ⟨q1, q2, q3, rfl, hN⟩ (dk_at dk_Outl_init_0 20 rfl)
def W_Year (w : WO) (q1 q2 : Nat) (p0 : Nat) (p1 : Nat) : WO := wSet (wAdd (wAdd w 114 q1 (lI 0 8)) 115 q2 (lI 0 8)) 110 (lR 9 [.ref p0, .ref p1, .int 0, .ref q1, .ref q2, .int 0])
def D_Year (σ : DD) : DD := (cle (cle σ 114) 115)
theorem W_Year_comm {w : WO} {y : LY} {q1 q2 : Nat} {p0 : Nat} {p1 : Nat} : W_Year (wSet w 0 y) q1 q2 p0 p1 = wSet (W_Year w q1 q2 p0 p1) 0 y := by
  unfold W_Year
  rw [ws_comm (by decide), ws_comm (by decide), wss_comm (by decide)]
theorem W_Year_n {w : WO} {q1 q2 : Nat} {p0 : Nat} {p1 : Nat} {o : Nat} (h : o < 110 ∨ 116 < o) (n : wLy w o = none) : wLy (W_Year w q1 q2 p0 p1) o = none := no_sn (by omega) (no_an (by omega) (no_an (by omega) n))
theorem W_Year_a {w : WO} {q1 q2 : Nat} {p0 : Nat} {p1 : Nat} {o c : Nat} (h : o < 110 ∨ 116 < o) (e : wAd w o = c) : wAd (W_Year w q1 q2 p0 p1) o = c := ha_sn (ha_an (by omega) (ha_an (by omega) e))
set_option maxRecDepth 20000 in
theorem i_Year {l : Launch} {w : WO} {σ : DD} {a sz : Nat} {b : BZ} {S : Nat → Prop} {p0 : Nat} {p1 : Nat} (hb : BW b w) (hbs : b.1 ≤ sz) (h0 : wLy w 110 = some (lR 9 [.null, .null, .int 0, .null, .null, .int 0])) (ha : wAd w 110 = a) (hN : NRs w σ S) (hSt : ∀ o, 110 < o → o ≤ 116 → S o) (n114 : wLy w 114 = none) (n115 : wLy w 115 = none) : Met l yX9_init (.code yX9_init cX9_init 3 none :: TT) { frames := 1, cells := 2, slots := 16, locals := 12 } (wPc w σ [.ref a, .ref p0, .ref p1] sz) (wQm w sz b (fun u => ∃ q1 q2, u = (W_Year w q1 q2 p0 p1, D_Year σ) ∧ NRs (W_Year w q1 q2 p0 p1) (D_Year σ) S)) 2 16 (gA w sz) := by
  refine mk_head (by decide) rfl hb hbs (fun X hX hi hsz C => ?_)
  subst hX
  have e0 : wSet w 110 (lR 9 [.null, .null, .int 0, .null, .null, .int 0]) = w := ws_id h0
  refine gW_w e0 ?_
  replace C := CG_w e0 C
  replace hN := NRs_w e0 hN
  show gW X (wSet w 110 (lR 9 [.null, .null, .int 0, .null, .null, .int 0])) (gA w sz, 0, 0) 3 _ σ 0 [(0, .ref a), (1, .ref p0), (2, .ref p1)] []
  refine r_aload_n C.1 0 rfl (dk_at dk_Year_init_0 0 rfl) ?_
  refine r_objI C tc_377 tc_27 tc_28 (Nat.le_of_ble_eq_true rfl) (Nat.le_of_ble_eq_true rfl) (dk_at dk_Year_init_0 1 rfl) ?_
  refine r_aload_n C.1 0 rfl (dk_at dk_Year_init_0 2 rfl) ?_
  refine r_bipush C.1 8 (dk_at dk_Year_init_0 3 rfl) ?_
  refine r_newI (c1 := 1) (s1 := 8) C tc_152 114 8 (by decide) rfl (by decide) (no_sn (by decide) n114) (hN 114 (hSt 114 (by decide) (by decide))) ⟨rfl, rfl, Nat.le_of_ble_eq_true rfl, Nat.le_of_ble_eq_true rfl⟩ (dk_at dk_Year_init_0 4 rfl) (fun q1 hhq1 C => ?_)
  refine r_nf C hi (by decide) hN (fun _ _ => nR_I) fw_Year_9 ⟨rfl, rfl⟩ ha (Nat.le_of_ble_eq_true rfl) (dk_at dk_Year_init_0 5 rfl) [.null, .null, .int 0, .ref q1, .null, .int 0] rfl (fun C hN ha => ?_)
  refine r_aload_n C.1 0 rfl (dk_at dk_Year_init_0 6 rfl) ?_
  refine r_bipush C.1 8 (dk_at dk_Year_init_0 7 rfl) ?_
  refine r_newI (c1 := 2) (s1 := 16) C tc_152 115 8 (by decide) rfl (by decide) (no_sn (by decide) (no_an (by decide) n115)) (hN 115 (hSt 115 (by decide) (by decide))) ⟨rfl, rfl, Nat.le_of_ble_eq_true rfl, Nat.le_of_ble_eq_true rfl⟩ (dk_at dk_Year_init_0 8 rfl) (fun q2 hhq2 C => ?_)
  refine r_nf C hi (by decide) hN (fun _ _ => nR_I) fw_Year_15 ⟨rfl, rfl⟩ ha (Nat.le_of_ble_eq_true rfl) (dk_at dk_Year_init_0 9 rfl) [.null, .null, .int 0, .ref q1, .ref q2, .int 0] rfl (fun C hN ha => ?_)
  refine r_aload_n C.1 0 rfl (dk_at dk_Year_init_0 10 rfl) ?_
  refine r_aload_n C.1 1 rfl (dk_at dk_Year_init_0 11 rfl) ?_
  refine r_pf C hi hN fw_Year_18 ⟨rfl, rfl⟩ ha (Nat.le_of_ble_eq_true rfl) (dk_at dk_Year_init_0 12 rfl) [.ref p0, .null, .int 0, .ref q1, .ref q2, .int 0] rfl (fun C hN => ?_)
  refine r_aload_n C.1 0 rfl (dk_at dk_Year_init_0 13 rfl) ?_
  refine r_aload_n C.1 2 rfl (dk_at dk_Year_init_0 14 rfl) ?_
  refine r_pf C hi hN fw_Year_22 ⟨rfl, rfl⟩ ha (Nat.le_of_ble_eq_true rfl) (dk_at dk_Year_init_0 15 rfl) [.ref p0, .ref p1, .int 0, .ref q1, .ref q2, .int 0] rfl (fun C hN => ?_)
  exact r_mvret C rfl hsz ⟨Nat.le_of_ble_eq_true rfl, Nat.le_of_ble_eq_true rfl⟩ ⟨q1, q2, rfl, hN⟩ (dk_at dk_Year_init_0 16 rfl)
