/-! ===== the class is made ===== -/
def W_Face (w : WO) (q1 q2 q3 q4 q5 q6 q7 q8 q9 q10 q11 q12 q13 q14 q15 q16 q17 q18 q19 q20 q21 q22 q23 q24 q25 q26 q27 q28 q29 q30 q31 q32 q33 q34 q35 q36 q37 q38 q39 q40 q41 q42 q43 q44 q45 q46 q47 q48 : Nat) : WO := wSet (wAdd (W_Year (wAdd (W_Outl (wAdd (W_Shar (wAdd (W_Morn (wAdd (W_Ord (wAdd (W_Court (wAdd (W_Pars (wAdd (W_Tape (wAdd (wAdd (W_Real (wAdd w 200 q1 (lR 5 [.int 0, .null, .null, .int 0, .null, .null, .null, .null, .int 0, .null, .null, .null, .int 0, .null, .null, .null, .null, .int 0, .null, .int 0])) q2 q3 q4 q5 q6 q7 q8 q9 q10 q11 q12 q13 q14 q15) 2 q16 (lQ 5 2)) 20 q17 (lR 7 [.null, .int 0, .int 0, .int 0, .int 0])) q18) 30 q19 (lR 4 [.null, .null, .null, .int 0, .int 0, .int 0, .int 0, .int 0, .int 0])) q20 q21 q17) 50 q22 (lR 0 [.null, .null, .null, .null, .null, .int 0])) q23 q24 q25 q26 q1) 60 q27 (lR 2 [.null, .null, .null, .null, .int 0, .int 0, .int 0])) q28 q29 q1 q22) 70 q30 (lR 1 [.null, .null, .null, .null, .null, .null, .null, .int 0, .int 0, .int 0, .int 0, .int 0, .int 0, .int 0])) q31 q32 q33 q34 q35 q1 q22) 90 q36 (lR 6 [.null, .null, .null, .null, .null, .null, .int 0])) q37 q38 q39 q40 q1 q22) 100 q41 (lR 3 [.null, .null, .null, .null, .null])) q42 q43 q44 q1 q22) 110 q45 (lR 9 [.null, .null, .int 0, .null, .null, .int 0])) q46 q47 q1 q22) 11 q48 (lI 0 5)) 0 (lR 10 [.ref q1, .ref q16, .ref q17, .ref q19, .ref q22, .ref q27, .ref q30, .ref q36, .ref q41, .ref q45, .ref q48, .int 0, .int 0])
def D_Face (σ : DD) : DD := (cle (D_Year (cle (D_Outl (cle (D_Shar (cle (D_Morn (cle (D_Ord (cle (D_Court (cle (D_Pars (cle (D_Tape (cle (cle (D_Real (cle σ 200)) 2) 20)) 30)) 50)) 60)) 70)) 90)) 100)) 110)) 11)
set_option maxRecDepth 20000 in
theorem i_Face {l : Launch} {w : WO} {σ : DD} {a sz : Nat} {b : BZ} (hb : BW b w) (hbs : b.1 ≤ sz) (hAO : ∀ U H, b.2 U H → EZ U) (h0 : wLy w 0 = some (lR 10 [.null, .null, .null, .null, .null, .null, .null, .null, .null, .null, .null, .int 0, .int 0])) (ha : wAd w 0 = a) (hN : NRs w σ (fun _ => True)) (hno : ∀ o, 0 < o → wLy w o = none) : Met l yX10_init (.code yX10_init cX10_init 1 none :: TT) { frames := 2, cells := 48, slots := 2126, locals := 43 } (wPc w σ [.ref a] sz) (wQm w sz b (fun u => ∃ q1 q2 q3 q4 q5 q6 q7 q8 q9 q10 q11 q12 q13 q14 q15 q16 q17 q18 q19 q20 q21 q22 q23 q24 q25 q26 q27 q28 q29 q30 q31 q32 q33 q34 q35 q36 q37 q38 q39 q40 q41 q42 q43 q44 q45 q46 q47 q48, u = (W_Face w q1 q2 q3 q4 q5 q6 q7 q8 q9 q10 q11 q12 q13 q14 q15 q16 q17 q18 q19 q20 q21 q22 q23 q24 q25 q26 q27 q28 q29 q30 q31 q32 q33 q34 q35 q36 q37 q38 q39 q40 q41 q42 q43 q44 q45 q46 q47 q48, D_Face σ) ∧ NRs (W_Face w q1 q2 q3 q4 q5 q6 q7 q8 q9 q10 q11 q12 q13 q14 q15 q16 q17 q18 q19 q20 q21 q22 q23 q24 q25 q26 q27 q28 q29 q30 q31 q32 q33 q34 q35 q36 q37 q38 q39 q40 q41 q42 q43 q44 q45 q46 q47 q48) (D_Face σ) (fun _ => True))) 48 2126 (gA w sz) := by
  refine mk_head (by decide) rfl hb hbs (fun X hX hi hsz C => ?_)
  subst hX
  have e0 : wSet w 0 (lR 10 [.null, .null, .null, .null, .null, .null, .null, .null, .null, .null, .null, .int 0, .int 0]) = w := ws_id h0
  refine gW_w e0 ?_
  replace C := CG_w e0 C
  replace hN := NRs_w e0 hN
  show gW X (wSet w 0 (lR 10 [.null, .null, .null, .null, .null, .null, .null, .null, .null, .null, .null, .int 0, .int 0])) (gA w sz, 0, 0) 1 _ σ 0 [(0, .ref a)] []
  refine r_aload_n C.1 0 rfl (dk_at dk_Face_init_0 0 rfl) ?_
  refine r_objI C tc_26 tc_27 tc_28 (Nat.le_of_ble_eq_true rfl) (Nat.le_of_ble_eq_true rfl) (dk_at dk_Face_init_0 1 rfl) ?_
  refine r_aload_n C.1 0 rfl (dk_at dk_Face_init_0 2 rfl) ?_
  refine r_newO (c1 := 1) (s1 := 20) C no_Face_7 200 (no_sn (by decide) (hno 200 (by decide))) (hN 200 trivial) ⟨rfl, rfl, Nat.le_of_ble_eq_true rfl, Nat.le_of_ble_eq_true rfl⟩ (dk_at dk_Face_init_0 3 rfl) (fun q1 hhq1 C => ?_)
  have hN := hN.add (o := 200) (a := q1) (y := lR 5 [.int 0, .null, .null, .int 0, .null, .null, .null, .null, .int 0, .null, .null, .null, .int 0, .null, .null, .null, .null, .int 0, .null, .int 0]) (fun _ _ => nR_R)
  rw [ws_comm (by decide)] at C hN ⊢
  replace ha := ha_an (o := 200) (a := q1) (y := lR 5 [.int 0, .null, .null, .int 0, .null, .null, .null, .null, .int 0, .null, .null, .null, .int 0, .null, .null, .null, .null, .int 0, .null, .int 0]) (by decide) ha
  refine r_dup C.1 rfl (dk_at dk_Face_init_0 4 rfl) ?_
  refine r_mcI (c1 := 15) (s1 := 369) C ci_Face_9 [] (fun sz2 hsz2 => i_Real C.2.1 hsz2 hAO rfl rfl hN (fun _ _ _ => trivial) (no_sn (by decide) (no_an (by decide) (hno 202 (by decide)))) (no_sn (by decide) (no_an (by decide) (hno 203 (by decide)))) (no_sn (by decide) (no_an (by decide) (hno 205 (by decide)))) (no_sn (by decide) (no_an (by decide) (hno 206 (by decide)))) (no_sn (by decide) (no_an (by decide) (hno 207 (by decide)))) (no_sn (by decide) (no_an (by decide) (hno 208 (by decide)))) (no_sn (by decide) (no_an (by decide) (hno 210 (by decide)))) (no_sn (by decide) (no_an (by decide) (hno 211 (by decide)))) (no_sn (by decide) (no_an (by decide) (hno 212 (by decide)))) (no_sn (by decide) (no_an (by decide) (hno 214 (by decide)))) (no_sn (by decide) (no_an (by decide) (hno 215 (by decide)))) (no_sn (by decide) (no_an (by decide) (hno 216 (by decide)))) (no_sn (by decide) (no_an (by decide) (hno 217 (by decide)))) (no_sn (by decide) (no_an (by decide) (hno 219 (by decide))))) ⟨Nat.le_of_ble_eq_true rfl, Nat.le_of_ble_eq_true rfl, rfl, rfl, rfl, rfl, Nat.le_of_ble_eq_true rfl, Nat.le_of_ble_eq_true rfl⟩ rfl rfl (Nat.le_of_ble_eq_true rfl) (dk_at dk_Face_init_0 5 rfl) ?_
  rintro w' σ' ⟨q2, q3, q4, q5, q6, q7, q8, q9, q10, q11, q12, q13, q14, q15, hu, hN⟩ C
  cases hu
  rw [W_Real_comm] at C hN ⊢
  replace ha := W_Real_a (q1 := q2) (q2 := q3) (q3 := q4) (q4 := q5) (q5 := q6) (q6 := q7) (q7 := q8) (q8 := q9) (q9 := q10) (q10 := q11) (q11 := q12) (q12 := q13) (q13 := q14) (q14 := q15) (by decide) ha
  refine r_pf C hi hN fw_Face_10 ⟨rfl, rfl⟩ ha (Nat.le_of_ble_eq_true rfl) (dk_at dk_Face_init_0 6 rfl) [.ref q1, .null, .null, .null, .null, .null, .null, .null, .null, .null, .null, .int 0, .int 0] rfl (fun C hN => ?_)
  refine r_aload_n C.1 0 rfl (dk_at dk_Face_init_0 7 rfl) ?_
  refine r_iconst C.1 2 (dk_at dk_Face_init_0 8 rfl) ?_
  refine r_newQ (c1 := 16) (s1 := 371) C (Or.inr ⟨rfl, rfl⟩) tc_29 (C.ez hAO).2.1 2 2 (by decide) rfl (by decide) (no_sn (by decide) (W_Real_n (by decide) (no_an (by decide) (hno 2 (by decide))))) (hN 2 trivial) ⟨rfl, rfl, Nat.le_of_ble_eq_true rfl, Nat.le_of_ble_eq_true rfl⟩ (dk_at dk_Face_init_0 9 rfl) (fun q16 hhq16 C => ?_)
  refine r_nf C hi (by decide) hN (fun _ _ => nR_Q) fw_Face_16 ⟨rfl, rfl⟩ ha (Nat.le_of_ble_eq_true rfl) (dk_at dk_Face_init_0 10 rfl) [.ref q1, .ref q16, .null, .null, .null, .null, .null, .null, .null, .null, .null, .int 0, .int 0] rfl (fun C hN ha => ?_)
  refine r_aload_n C.1 0 rfl (dk_at dk_Face_init_0 11 rfl) ?_
  refine r_newO (c1 := 17) (s1 := 376) C no_Face_20 20 (no_sn (by decide) (no_an (by decide) (W_Real_n (by decide) (no_an (by decide) (hno 20 (by decide)))))) (hN 20 trivial) ⟨rfl, rfl, Nat.le_of_ble_eq_true rfl, Nat.le_of_ble_eq_true rfl⟩ (dk_at dk_Face_init_0 12 rfl) (fun q17 hhq17 C => ?_)
  have hN := hN.add (o := 20) (a := q17) (y := lR 7 [.null, .int 0, .int 0, .int 0, .int 0]) (fun _ _ => nR_R)
  rw [ws_comm (by decide)] at C hN ⊢
  replace ha := ha_an (o := 20) (a := q17) (y := lR 7 [.null, .int 0, .int 0, .int 0, .int 0]) (by decide) ha
  refine r_dup C.1 rfl (dk_at dk_Face_init_0 13 rfl) ?_
  refine r_mcIN (c1 := 18) (s1 := 776) C cn_Tape (C.ez hAO).2.2 [] (fun sz2 hsz2 => i_Tape C.2.1 hsz2 rfl rfl hN (fun _ _ _ => trivial) (no_sn (by decide) (no_an (by decide) (no_an (by decide) (W_Real_n (by decide) (no_an (by decide) (hno 21 (by decide)))))))) ⟨Nat.le_of_ble_eq_true rfl, Nat.le_of_ble_eq_true rfl, rfl, rfl, rfl, rfl, Nat.le_of_ble_eq_true rfl, Nat.le_of_ble_eq_true rfl⟩ rfl rfl (Nat.le_of_ble_eq_true rfl) (dk_at dk_Face_init_0 14 rfl) ?_
  rintro w' σ' ⟨q18, hu, hN⟩ C
  cases hu
  rw [W_Tape_comm] at C hN ⊢
  replace ha := W_Tape_a (q1 := q18) (by decide) ha
  refine r_pf C hi hN fw_Face_23 ⟨rfl, rfl⟩ ha (Nat.le_of_ble_eq_true rfl) (dk_at dk_Face_init_0 15 rfl) [.ref q1, .ref q16, .ref q17, .null, .null, .null, .null, .null, .null, .null, .null, .int 0, .int 0] rfl (fun C hN => ?_)
  refine r_aload_n C.1 0 rfl (dk_at dk_Face_init_0 16 rfl) ?_
  refine r_newO (c1 := 19) (s1 := 785) C no_Face_27 30 (no_sn (by decide) (W_Tape_n (by decide) (no_an (by decide) (no_an (by decide) (W_Real_n (by decide) (no_an (by decide) (hno 30 (by decide)))))))) (hN 30 trivial) ⟨rfl, rfl, Nat.le_of_ble_eq_true rfl, Nat.le_of_ble_eq_true rfl⟩ (dk_at dk_Face_init_0 17 rfl) (fun q19 hhq19 C => ?_)
  have hN := hN.add (o := 30) (a := q19) (y := lR 4 [.null, .null, .null, .int 0, .int 0, .int 0, .int 0, .int 0, .int 0]) (fun _ _ => nR_R)
  rw [ws_comm (by decide)] at C hN ⊢
  replace ha := ha_an (o := 30) (a := q19) (y := lR 4 [.null, .null, .null, .int 0, .int 0, .int 0, .int 0, .int 0, .int 0]) (by decide) ha
  refine r_dup C.1 rfl (dk_at dk_Face_init_0 18 rfl) ?_
  refine r_aload_n C.1 0 rfl (dk_at dk_Face_init_0 19 rfl) ?_
  refine r_getS C fw_Face_23 ha rfl (dk_at dk_Face_init_0 20 rfl) ?_
  refine r_mcI (c1 := 21) (s1 := 1257) C ci_Face_29 [.ref q17] (fun sz2 hsz2 => i_Pars C.2.1 hsz2 rfl rfl hN (fun _ _ _ => trivial) (no_sn (by decide) (no_an (by decide) (W_Tape_n (by decide) (no_an (by decide) (no_an (by decide) (W_Real_n (by decide) (no_an (by decide) (hno 32 (by decide))))))))) (no_sn (by decide) (no_an (by decide) (W_Tape_n (by decide) (no_an (by decide) (no_an (by decide) (W_Real_n (by decide) (no_an (by decide) (hno 33 (by decide)))))))))) ⟨Nat.le_of_ble_eq_true rfl, Nat.le_of_ble_eq_true rfl, rfl, rfl, rfl, rfl, Nat.le_of_ble_eq_true rfl, Nat.le_of_ble_eq_true rfl⟩ rfl rfl (Nat.le_of_ble_eq_true rfl) (dk_at dk_Face_init_0 21 rfl) ?_
  rintro w' σ' ⟨q20, q21, hu, hN⟩ C
  cases hu
  rw [W_Pars_comm] at C hN ⊢
  replace ha := W_Pars_a (q1 := q20) (q2 := q21) (p0 := q17) (by decide) ha
  refine r_pf C hi hN fw_Face_32 ⟨rfl, rfl⟩ ha (Nat.le_of_ble_eq_true rfl) (dk_at dk_Face_init_0 22 rfl) [.ref q1, .ref q16, .ref q17, .ref q19, .null, .null, .null, .null, .null, .null, .null, .int 0, .int 0] rfl (fun C hN => ?_)
  refine r_aload_n C.1 0 rfl (dk_at dk_Face_init_0 23 rfl) ?_
  refine r_newO (c1 := 22) (s1 := 1263) C no_Face_36 50 (no_sn (by decide) (W_Pars_n (by decide) (no_an (by decide) (W_Tape_n (by decide) (no_an (by decide) (no_an (by decide) (W_Real_n (by decide) (no_an (by decide) (hno 50 (by decide)))))))))) (hN 50 trivial) ⟨rfl, rfl, Nat.le_of_ble_eq_true rfl, Nat.le_of_ble_eq_true rfl⟩ (dk_at dk_Face_init_0 24 rfl) (fun q22 hhq22 C => ?_)
  have hN := hN.add (o := 50) (a := q22) (y := lR 0 [.null, .null, .null, .null, .null, .int 0]) (fun _ _ => nR_R)
  rw [ws_comm (by decide)] at C hN ⊢
  replace ha := ha_an (o := 50) (a := q22) (y := lR 0 [.null, .null, .null, .null, .null, .int 0]) (by decide) ha
  refine r_dup C.1 rfl (dk_at dk_Face_init_0 25 rfl) ?_
  refine r_aload_n C.1 0 rfl (dk_at dk_Face_init_0 26 rfl) ?_
  refine r_getS C fw_Face_10 ha rfl (dk_at dk_Face_init_0 27 rfl) ?_
  refine r_mcI (c1 := 26) (s1 := 1769) C ci_Face_38 [.ref q1] (fun sz2 hsz2 => i_Court C.2.1 hsz2 rfl rfl hN (fun _ _ _ => trivial) (no_sn (by decide) (no_an (by decide) (W_Pars_n (by decide) (no_an (by decide) (W_Tape_n (by decide) (no_an (by decide) (no_an (by decide) (W_Real_n (by decide) (no_an (by decide) (hno 52 (by decide))))))))))) (no_sn (by decide) (no_an (by decide) (W_Pars_n (by decide) (no_an (by decide) (W_Tape_n (by decide) (no_an (by decide) (no_an (by decide) (W_Real_n (by decide) (no_an (by decide) (hno 53 (by decide))))))))))) (no_sn (by decide) (no_an (by decide) (W_Pars_n (by decide) (no_an (by decide) (W_Tape_n (by decide) (no_an (by decide) (no_an (by decide) (W_Real_n (by decide) (no_an (by decide) (hno 54 (by decide))))))))))) (no_sn (by decide) (no_an (by decide) (W_Pars_n (by decide) (no_an (by decide) (W_Tape_n (by decide) (no_an (by decide) (no_an (by decide) (W_Real_n (by decide) (no_an (by decide) (hno 55 (by decide)))))))))))) ⟨Nat.le_of_ble_eq_true rfl, Nat.le_of_ble_eq_true rfl, rfl, rfl, rfl, rfl, Nat.le_of_ble_eq_true rfl, Nat.le_of_ble_eq_true rfl⟩ rfl rfl (Nat.le_of_ble_eq_true rfl) (dk_at dk_Face_init_0 28 rfl) ?_
  rintro w' σ' ⟨q23, q24, q25, q26, hu, hN⟩ C
  cases hu
  rw [W_Court_comm] at C hN ⊢
  replace ha := W_Court_a (q1 := q23) (q2 := q24) (q3 := q25) (q4 := q26) (p0 := q1) (by decide) ha
  refine r_pf C hi hN fw_Face_41 ⟨rfl, rfl⟩ ha (Nat.le_of_ble_eq_true rfl) (dk_at dk_Face_init_0 29 rfl) [.ref q1, .ref q16, .ref q17, .ref q19, .ref q22, .null, .null, .null, .null, .null, .null, .int 0, .int 0] rfl (fun C hN => ?_)
  refine r_aload_n C.1 0 rfl (dk_at dk_Face_init_0 30 rfl) ?_
  refine r_newO (c1 := 27) (s1 := 1776) C no_Face_45 60 (no_sn (by decide) (W_Court_n (by decide) (no_an (by decide) (W_Pars_n (by decide) (no_an (by decide) (W_Tape_n (by decide) (no_an (by decide) (no_an (by decide) (W_Real_n (by decide) (no_an (by decide) (hno 60 (by decide)))))))))))) (hN 60 trivial) ⟨rfl, rfl, Nat.le_of_ble_eq_true rfl, Nat.le_of_ble_eq_true rfl⟩ (dk_at dk_Face_init_0 31 rfl) (fun q27 hhq27 C => ?_)
  have hN := hN.add (o := 60) (a := q27) (y := lR 2 [.null, .null, .null, .null, .int 0, .int 0, .int 0]) (fun _ _ => nR_R)
  rw [ws_comm (by decide)] at C hN ⊢
  replace ha := ha_an (o := 60) (a := q27) (y := lR 2 [.null, .null, .null, .null, .int 0, .int 0, .int 0]) (by decide) ha
  refine r_dup C.1 rfl (dk_at dk_Face_init_0 32 rfl) ?_
  refine r_aload_n C.1 0 rfl (dk_at dk_Face_init_0 33 rfl) ?_
  refine r_getS C fw_Face_10 ha rfl (dk_at dk_Face_init_0 34 rfl) ?_
  refine r_aload_n C.1 0 rfl (dk_at dk_Face_init_0 35 rfl) ?_
  refine r_getS C fw_Face_41 ha rfl (dk_at dk_Face_init_0 36 rfl) ?_
  refine r_mcI (c1 := 29) (s1 := 1842) C ci_Face_47 [.ref q1, .ref q22] (fun sz2 hsz2 => i_Ord C.2.1 hsz2 rfl rfl hN (fun _ _ _ => trivial) (no_sn (by decide) (no_an (by decide) (W_Court_n (by decide) (no_an (by decide) (W_Pars_n (by decide) (no_an (by decide) (W_Tape_n (by decide) (no_an (by decide) (no_an (by decide) (W_Real_n (by decide) (no_an (by decide) (hno 63 (by decide))))))))))))) (no_sn (by decide) (no_an (by decide) (W_Court_n (by decide) (no_an (by decide) (W_Pars_n (by decide) (no_an (by decide) (W_Tape_n (by decide) (no_an (by decide) (no_an (by decide) (W_Real_n (by decide) (no_an (by decide) (hno 64 (by decide)))))))))))))) ⟨Nat.le_of_ble_eq_true rfl, Nat.le_of_ble_eq_true rfl, rfl, rfl, rfl, rfl, Nat.le_of_ble_eq_true rfl, Nat.le_of_ble_eq_true rfl⟩ rfl rfl (Nat.le_of_ble_eq_true rfl) (dk_at dk_Face_init_0 37 rfl) ?_
  rintro w' σ' ⟨q28, q29, hu, hN⟩ C
  cases hu
  rw [W_Ord_comm] at C hN ⊢
  replace ha := W_Ord_a (q1 := q28) (q2 := q29) (p0 := q1) (p1 := q22) (by decide) ha
  refine r_pf C hi hN fw_Face_50 ⟨rfl, rfl⟩ ha (Nat.le_of_ble_eq_true rfl) (dk_at dk_Face_init_0 38 rfl) [.ref q1, .ref q16, .ref q17, .ref q19, .ref q22, .ref q27, .null, .null, .null, .null, .null, .int 0, .int 0] rfl (fun C hN => ?_)
  refine r_aload_n C.1 0 rfl (dk_at dk_Face_init_0 39 rfl) ?_
  refine r_newO (c1 := 30) (s1 := 1856) C no_Face_54 70 (no_sn (by decide) (W_Ord_n (by decide) (no_an (by decide) (W_Court_n (by decide) (no_an (by decide) (W_Pars_n (by decide) (no_an (by decide) (W_Tape_n (by decide) (no_an (by decide) (no_an (by decide) (W_Real_n (by decide) (no_an (by decide) (hno 70 (by decide)))))))))))))) (hN 70 trivial) ⟨rfl, rfl, Nat.le_of_ble_eq_true rfl, Nat.le_of_ble_eq_true rfl⟩ (dk_at dk_Face_init_1 0 rfl) (fun q30 hhq30 C => ?_)
  have hN := hN.add (o := 70) (a := q30) (y := lR 1 [.null, .null, .null, .null, .null, .null, .null, .int 0, .int 0, .int 0, .int 0, .int 0, .int 0, .int 0]) (fun _ _ => nR_R)
  rw [ws_comm (by decide)] at C hN ⊢
  replace ha := ha_an (o := 70) (a := q30) (y := lR 1 [.null, .null, .null, .null, .null, .null, .null, .int 0, .int 0, .int 0, .int 0, .int 0, .int 0, .int 0]) (by decide) ha
  refine r_dup C.1 rfl (dk_at dk_Face_init_1 1 rfl) ?_
  refine r_aload_n C.1 0 rfl (dk_at dk_Face_init_1 2 rfl) ?_
  refine r_getS C fw_Face_10 ha rfl (dk_at dk_Face_init_1 3 rfl) ?_
  refine r_aload_n C.1 0 rfl (dk_at dk_Face_init_1 4 rfl) ?_
  refine r_getS C fw_Face_41 ha rfl (dk_at dk_Face_init_1 5 rfl) ?_
  refine r_mcI (c1 := 35) (s1 := 1919) C ci_Face_56 [.ref q1, .ref q22] (fun sz2 hsz2 => i_Morn C.2.1 hsz2 rfl rfl hN (fun _ _ _ => trivial) (no_sn (by decide) (no_an (by decide) (W_Ord_n (by decide) (no_an (by decide) (W_Court_n (by decide) (no_an (by decide) (W_Pars_n (by decide) (no_an (by decide) (W_Tape_n (by decide) (no_an (by decide) (no_an (by decide) (W_Real_n (by decide) (no_an (by decide) (hno 73 (by decide))))))))))))))) (no_sn (by decide) (no_an (by decide) (W_Ord_n (by decide) (no_an (by decide) (W_Court_n (by decide) (no_an (by decide) (W_Pars_n (by decide) (no_an (by decide) (W_Tape_n (by decide) (no_an (by decide) (no_an (by decide) (W_Real_n (by decide) (no_an (by decide) (hno 74 (by decide))))))))))))))) (no_sn (by decide) (no_an (by decide) (W_Ord_n (by decide) (no_an (by decide) (W_Court_n (by decide) (no_an (by decide) (W_Pars_n (by decide) (no_an (by decide) (W_Tape_n (by decide) (no_an (by decide) (no_an (by decide) (W_Real_n (by decide) (no_an (by decide) (hno 75 (by decide))))))))))))))) (no_sn (by decide) (no_an (by decide) (W_Ord_n (by decide) (no_an (by decide) (W_Court_n (by decide) (no_an (by decide) (W_Pars_n (by decide) (no_an (by decide) (W_Tape_n (by decide) (no_an (by decide) (no_an (by decide) (W_Real_n (by decide) (no_an (by decide) (hno 76 (by decide))))))))))))))) (no_sn (by decide) (no_an (by decide) (W_Ord_n (by decide) (no_an (by decide) (W_Court_n (by decide) (no_an (by decide) (W_Pars_n (by decide) (no_an (by decide) (W_Tape_n (by decide) (no_an (by decide) (no_an (by decide) (W_Real_n (by decide) (no_an (by decide) (hno 77 (by decide)))))))))))))))) ⟨Nat.le_of_ble_eq_true rfl, Nat.le_of_ble_eq_true rfl, rfl, rfl, rfl, rfl, Nat.le_of_ble_eq_true rfl, Nat.le_of_ble_eq_true rfl⟩ rfl rfl (Nat.le_of_ble_eq_true rfl) (dk_at dk_Face_init_1 6 rfl) ?_
  rintro w' σ' ⟨q31, q32, q33, q34, q35, hu, hN⟩ C
  cases hu
  rw [W_Morn_comm] at C hN ⊢
  replace ha := W_Morn_a (q1 := q31) (q2 := q32) (q3 := q33) (q4 := q34) (q5 := q35) (p0 := q1) (p1 := q22) (by decide) ha
  refine r_pf C hi hN fw_Face_57 ⟨rfl, rfl⟩ ha (Nat.le_of_ble_eq_true rfl) (dk_at dk_Face_init_1 7 rfl) [.ref q1, .ref q16, .ref q17, .ref q19, .ref q22, .ref q27, .ref q30, .null, .null, .null, .null, .int 0, .int 0] rfl (fun C hN => ?_)
  refine r_aload_n C.1 0 rfl (dk_at dk_Face_init_1 8 rfl) ?_
  refine r_newO (c1 := 36) (s1 := 1926) C no_Face_61 90 (no_sn (by decide) (W_Morn_n (by decide) (no_an (by decide) (W_Ord_n (by decide) (no_an (by decide) (W_Court_n (by decide) (no_an (by decide) (W_Pars_n (by decide) (no_an (by decide) (W_Tape_n (by decide) (no_an (by decide) (no_an (by decide) (W_Real_n (by decide) (no_an (by decide) (hno 90 (by decide)))))))))))))))) (hN 90 trivial) ⟨rfl, rfl, Nat.le_of_ble_eq_true rfl, Nat.le_of_ble_eq_true rfl⟩ (dk_at dk_Face_init_1 9 rfl) (fun q36 hhq36 C => ?_)
  have hN := hN.add (o := 90) (a := q36) (y := lR 6 [.null, .null, .null, .null, .null, .null, .int 0]) (fun _ _ => nR_R)
  rw [ws_comm (by decide)] at C hN ⊢
  replace ha := ha_an (o := 90) (a := q36) (y := lR 6 [.null, .null, .null, .null, .null, .null, .int 0]) (by decide) ha
  refine r_dup C.1 rfl (dk_at dk_Face_init_1 10 rfl) ?_
  refine r_aload_n C.1 0 rfl (dk_at dk_Face_init_1 11 rfl) ?_
  refine r_getS C fw_Face_10 ha rfl (dk_at dk_Face_init_1 12 rfl) ?_
  refine r_aload_n C.1 0 rfl (dk_at dk_Face_init_1 13 rfl) ?_
  refine r_getS C fw_Face_41 ha rfl (dk_at dk_Face_init_1 14 rfl) ?_
  refine r_mcI (c1 := 40) (s1 := 1978) C ci_Face_63 [.ref q1, .ref q22] (fun sz2 hsz2 => i_Shar C.2.1 hsz2 rfl rfl hN (fun _ _ _ => trivial) (no_sn (by decide) (no_an (by decide) (W_Morn_n (by decide) (no_an (by decide) (W_Ord_n (by decide) (no_an (by decide) (W_Court_n (by decide) (no_an (by decide) (W_Pars_n (by decide) (no_an (by decide) (W_Tape_n (by decide) (no_an (by decide) (no_an (by decide) (W_Real_n (by decide) (no_an (by decide) (hno 93 (by decide))))))))))))))))) (no_sn (by decide) (no_an (by decide) (W_Morn_n (by decide) (no_an (by decide) (W_Ord_n (by decide) (no_an (by decide) (W_Court_n (by decide) (no_an (by decide) (W_Pars_n (by decide) (no_an (by decide) (W_Tape_n (by decide) (no_an (by decide) (no_an (by decide) (W_Real_n (by decide) (no_an (by decide) (hno 94 (by decide))))))))))))))))) (no_sn (by decide) (no_an (by decide) (W_Morn_n (by decide) (no_an (by decide) (W_Ord_n (by decide) (no_an (by decide) (W_Court_n (by decide) (no_an (by decide) (W_Pars_n (by decide) (no_an (by decide) (W_Tape_n (by decide) (no_an (by decide) (no_an (by decide) (W_Real_n (by decide) (no_an (by decide) (hno 95 (by decide))))))))))))))))) (no_sn (by decide) (no_an (by decide) (W_Morn_n (by decide) (no_an (by decide) (W_Ord_n (by decide) (no_an (by decide) (W_Court_n (by decide) (no_an (by decide) (W_Pars_n (by decide) (no_an (by decide) (W_Tape_n (by decide) (no_an (by decide) (no_an (by decide) (W_Real_n (by decide) (no_an (by decide) (hno 96 (by decide)))))))))))))))))) ⟨Nat.le_of_ble_eq_true rfl, Nat.le_of_ble_eq_true rfl, rfl, rfl, rfl, rfl, Nat.le_of_ble_eq_true rfl, Nat.le_of_ble_eq_true rfl⟩ rfl rfl (Nat.le_of_ble_eq_true rfl) (dk_at dk_Face_init_1 15 rfl) ?_
  rintro w' σ' ⟨q37, q38, q39, q40, hu, hN⟩ C
  cases hu
  rw [W_Shar_comm] at C hN ⊢
  replace ha := W_Shar_a (q1 := q37) (q2 := q38) (q3 := q39) (q4 := q40) (p0 := q1) (p1 := q22) (by decide) ha
  refine r_pf C hi hN fw_Face_64 ⟨rfl, rfl⟩ ha (Nat.le_of_ble_eq_true rfl) (dk_at dk_Face_init_1 16 rfl) [.ref q1, .ref q16, .ref q17, .ref q19, .ref q22, .ref q27, .ref q30, .ref q36, .null, .null, .null, .int 0, .int 0] rfl (fun C hN => ?_)
  refine r_aload_n C.1 0 rfl (dk_at dk_Face_init_1 17 rfl) ?_
  refine r_newO (c1 := 41) (s1 := 1983) C no_Face_68 100 (no_sn (by decide) (W_Shar_n (by decide) (no_an (by decide) (W_Morn_n (by decide) (no_an (by decide) (W_Ord_n (by decide) (no_an (by decide) (W_Court_n (by decide) (no_an (by decide) (W_Pars_n (by decide) (no_an (by decide) (W_Tape_n (by decide) (no_an (by decide) (no_an (by decide) (W_Real_n (by decide) (no_an (by decide) (hno 100 (by decide)))))))))))))))))) (hN 100 trivial) ⟨rfl, rfl, Nat.le_of_ble_eq_true rfl, Nat.le_of_ble_eq_true rfl⟩ (dk_at dk_Face_init_1 18 rfl) (fun q41 hhq41 C => ?_)
  have hN := hN.add (o := 100) (a := q41) (y := lR 3 [.null, .null, .null, .null, .null]) (fun _ _ => nR_R)
  rw [ws_comm (by decide)] at C hN ⊢
  replace ha := ha_an (o := 100) (a := q41) (y := lR 3 [.null, .null, .null, .null, .null]) (by decide) ha
  refine r_dup C.1 rfl (dk_at dk_Face_init_1 19 rfl) ?_
  refine r_aload_n C.1 0 rfl (dk_at dk_Face_init_1 20 rfl) ?_
  refine r_getS C fw_Face_10 ha rfl (dk_at dk_Face_init_1 21 rfl) ?_
  refine r_aload_n C.1 0 rfl (dk_at dk_Face_init_1 22 rfl) ?_
  refine r_getS C fw_Face_41 ha rfl (dk_at dk_Face_init_1 23 rfl) ?_
  refine r_mcI (c1 := 44) (s1 := 2099) C ci_Face_70 [.ref q1, .ref q22] (fun sz2 hsz2 => i_Outl C.2.1 hsz2 rfl rfl hN (fun _ _ _ => trivial) (no_sn (by decide) (no_an (by decide) (W_Shar_n (by decide) (no_an (by decide) (W_Morn_n (by decide) (no_an (by decide) (W_Ord_n (by decide) (no_an (by decide) (W_Court_n (by decide) (no_an (by decide) (W_Pars_n (by decide) (no_an (by decide) (W_Tape_n (by decide) (no_an (by decide) (no_an (by decide) (W_Real_n (by decide) (no_an (by decide) (hno 103 (by decide))))))))))))))))))) (no_sn (by decide) (no_an (by decide) (W_Shar_n (by decide) (no_an (by decide) (W_Morn_n (by decide) (no_an (by decide) (W_Ord_n (by decide) (no_an (by decide) (W_Court_n (by decide) (no_an (by decide) (W_Pars_n (by decide) (no_an (by decide) (W_Tape_n (by decide) (no_an (by decide) (no_an (by decide) (W_Real_n (by decide) (no_an (by decide) (hno 104 (by decide))))))))))))))))))) (no_sn (by decide) (no_an (by decide) (W_Shar_n (by decide) (no_an (by decide) (W_Morn_n (by decide) (no_an (by decide) (W_Ord_n (by decide) (no_an (by decide) (W_Court_n (by decide) (no_an (by decide) (W_Pars_n (by decide) (no_an (by decide) (W_Tape_n (by decide) (no_an (by decide) (no_an (by decide) (W_Real_n (by decide) (no_an (by decide) (hno 105 (by decide)))))))))))))))))))) ⟨Nat.le_of_ble_eq_true rfl, Nat.le_of_ble_eq_true rfl, rfl, rfl, rfl, rfl, Nat.le_of_ble_eq_true rfl, Nat.le_of_ble_eq_true rfl⟩ rfl rfl (Nat.le_of_ble_eq_true rfl) (dk_at dk_Face_init_1 24 rfl) ?_
  rintro w' σ' ⟨q42, q43, q44, hu, hN⟩ C
  cases hu
  rw [W_Outl_comm] at C hN ⊢
  replace ha := W_Outl_a (q1 := q42) (q2 := q43) (q3 := q44) (p0 := q1) (p1 := q22) (by decide) ha
  refine r_pf C hi hN fw_Face_71 ⟨rfl, rfl⟩ ha (Nat.le_of_ble_eq_true rfl) (dk_at dk_Face_init_1 25 rfl) [.ref q1, .ref q16, .ref q17, .ref q19, .ref q22, .ref q27, .ref q30, .ref q36, .ref q41, .null, .null, .int 0, .int 0] rfl (fun C hN => ?_)
  refine r_aload_n C.1 0 rfl (dk_at dk_Face_init_1 26 rfl) ?_
  refine r_newO (c1 := 45) (s1 := 2105) C no_Face_75 110 (no_sn (by decide) (W_Outl_n (by decide) (no_an (by decide) (W_Shar_n (by decide) (no_an (by decide) (W_Morn_n (by decide) (no_an (by decide) (W_Ord_n (by decide) (no_an (by decide) (W_Court_n (by decide) (no_an (by decide) (W_Pars_n (by decide) (no_an (by decide) (W_Tape_n (by decide) (no_an (by decide) (no_an (by decide) (W_Real_n (by decide) (no_an (by decide) (hno 110 (by decide)))))))))))))))))))) (hN 110 trivial) ⟨rfl, rfl, Nat.le_of_ble_eq_true rfl, Nat.le_of_ble_eq_true rfl⟩ (dk_at dk_Face_init_1 27 rfl) (fun q45 hhq45 C => ?_)
  have hN := hN.add (o := 110) (a := q45) (y := lR 9 [.null, .null, .int 0, .null, .null, .int 0]) (fun _ _ => nR_R)
  rw [ws_comm (by decide)] at C hN ⊢
  replace ha := ha_an (o := 110) (a := q45) (y := lR 9 [.null, .null, .int 0, .null, .null, .int 0]) (by decide) ha
  refine r_dup C.1 rfl (dk_at dk_Face_init_1 28 rfl) ?_
  refine r_aload_n C.1 0 rfl (dk_at dk_Face_init_1 29 rfl) ?_
  refine r_getS C fw_Face_10 ha rfl (dk_at dk_Face_init_1 30 rfl) ?_
  refine r_aload_n C.1 0 rfl (dk_at dk_Face_init_1 31 rfl) ?_
  refine r_getS C fw_Face_41 ha rfl (dk_at dk_Face_init_1 32 rfl) ?_
  refine r_mcI (c1 := 47) (s1 := 2121) C ci_Face_77 [.ref q1, .ref q22] (fun sz2 hsz2 => i_Year C.2.1 hsz2 rfl rfl hN (fun _ _ _ => trivial) (no_sn (by decide) (no_an (by decide) (W_Outl_n (by decide) (no_an (by decide) (W_Shar_n (by decide) (no_an (by decide) (W_Morn_n (by decide) (no_an (by decide) (W_Ord_n (by decide) (no_an (by decide) (W_Court_n (by decide) (no_an (by decide) (W_Pars_n (by decide) (no_an (by decide) (W_Tape_n (by decide) (no_an (by decide) (no_an (by decide) (W_Real_n (by decide) (no_an (by decide) (hno 114 (by decide))))))))))))))))))))) (no_sn (by decide) (no_an (by decide) (W_Outl_n (by decide) (no_an (by decide) (W_Shar_n (by decide) (no_an (by decide) (W_Morn_n (by decide) (no_an (by decide) (W_Ord_n (by decide) (no_an (by decide) (W_Court_n (by decide) (no_an (by decide) (W_Pars_n (by decide) (no_an (by decide) (W_Tape_n (by decide) (no_an (by decide) (no_an (by decide) (W_Real_n (by decide) (no_an (by decide) (hno 115 (by decide)))))))))))))))))))))) ⟨Nat.le_of_ble_eq_true rfl, Nat.le_of_ble_eq_true rfl, rfl, rfl, rfl, rfl, Nat.le_of_ble_eq_true rfl, Nat.le_of_ble_eq_true rfl⟩ rfl rfl (Nat.le_of_ble_eq_true rfl) (dk_at dk_Face_init_1 33 rfl) ?_
  rintro w' σ' ⟨q46, q47, hu, hN⟩ C
  cases hu
  rw [W_Year_comm] at C hN ⊢
  replace ha := W_Year_a (q1 := q46) (q2 := q47) (p0 := q1) (p1 := q22) (by decide) ha
  refine r_pf C hi hN fw_Face_78 ⟨rfl, rfl⟩ ha (Nat.le_of_ble_eq_true rfl) (dk_at dk_Face_init_1 34 rfl) [.ref q1, .ref q16, .ref q17, .ref q19, .ref q22, .ref q27, .ref q30, .ref q36, .ref q41, .ref q45, .null, .int 0, .int 0] rfl (fun C hN => ?_)
  refine r_aload_n C.1 0 rfl (dk_at dk_Face_init_1 35 rfl) ?_
  refine r_iconst C.1 5 (dk_at dk_Face_init_1 36 rfl) ?_
  refine r_newI (c1 := 48) (s1 := 2126) C tc_152 11 5 (by decide) rfl (by decide) (no_sn (by decide) (W_Year_n (by decide) (no_an (by decide) (W_Outl_n (by decide) (no_an (by decide) (W_Shar_n (by decide) (no_an (by decide) (W_Morn_n (by decide) (no_an (by decide) (W_Ord_n (by decide) (no_an (by decide) (W_Court_n (by decide) (no_an (by decide) (W_Pars_n (by decide) (no_an (by decide) (W_Tape_n (by decide) (no_an (by decide) (no_an (by decide) (W_Real_n (by decide) (no_an (by decide) (hno 11 (by decide)))))))))))))))))))))) (hN 11 trivial) ⟨rfl, rfl, Nat.le_of_ble_eq_true rfl, Nat.le_of_ble_eq_true rfl⟩ (dk_at dk_Face_init_1 37 rfl) (fun q48 hhq48 C => ?_)
  refine r_nf C hi (by decide) hN (fun _ _ => nR_I) fw_Face_82 ⟨rfl, rfl⟩ ha (Nat.le_of_ble_eq_true rfl) (dk_at dk_Face_init_1 38 rfl) [.ref q1, .ref q16, .ref q17, .ref q19, .ref q22, .ref q27, .ref q30, .ref q36, .ref q41, .ref q45, .ref q48, .int 0, .int 0] rfl (fun C hN ha => ?_)
  exact r_mvret C rfl hsz ⟨Nat.le_of_ble_eq_true rfl, Nat.le_of_ble_eq_true rfl⟩ ⟨q1, q2, q3, q4, q5, q6, q7, q8, q9, q10, q11, q12, q13, q14, q15, q16, q17, q18, q19, q20, q21, q22, q23, q24, q25, q26, q27, q28, q29, q30, q31, q32, q33, q34, q35, q36, q37, q38, q39, q40, q41, q42, q43, q44, q45, q46, q47, q48, rfl, hN⟩ (dk_at dk_Face_init_1 39 rfl)
