/-! ===== a realm is made ===== -/
def W_RealA (w : WO) (q1 q2 q3 q4 q5 q6 q7 q8 q9 q10 q11 q12 q13 q14 : Nat) : WO := wSet (wAdd (wAdd (wAdd (wAdd (wAdd (wAdd (wAdd (wAdd (wAdd (wAdd (wAdd (wAdd (wAdd (wAdd w 232 q1 (lI 0 32)) 233 q2 (lI 0 8)) 235 q3 (lI 0 4)) 236 q4 (lI 0 4)) 237 q5 (lI 0 7)) 238 q6 (lI 0 4)) 240 q7 (lI 0 84)) 241 q8 (lI 0 84)) 242 q9 (lI 0 84)) 244 q10 (lI 0 8)) 245 q11 (lI 0 8)) 246 q12 (lI 0 8)) 247 q13 (lI 0 8)) 249 q14 (lQ 4 6)) 230 (lR 5 [.int 0, .ref q1, .ref q2, .int 0, .ref q3, .ref q4, .ref q5, .ref q6, .int 0, .ref q7, .ref q8, .ref q9, .int 0, .ref q10, .ref q11, .ref q12, .ref q13, .int 0, .ref q14, .int (-1)])
def D_RealA (σ : DD) : DD := (sI (sI (fil7 (cle (cle (cle (cle (cle (cle (cle (cle (cle (cle (cle (cle (cle (cle σ 232) 233) 235) 236) 237) 238) 240) 241) 242) 244) 245) 246) 247) 249) 237 63) 238 1 3) 238 2 20)
theorem W_RealA_comm {w : WO} {y : LY} {q1 q2 q3 q4 q5 q6 q7 q8 q9 q10 q11 q12 q13 q14 : Nat} : W_RealA (wSet w 0 y) q1 q2 q3 q4 q5 q6 q7 q8 q9 q10 q11 q12 q13 q14 = wSet (W_RealA w q1 q2 q3 q4 q5 q6 q7 q8 q9 q10 q11 q12 q13 q14) 0 y := by
  unfold W_RealA
  rw [ws_comm (by decide), ws_comm (by decide), ws_comm (by decide), ws_comm (by decide), ws_comm (by decide), ws_comm (by decide), ws_comm (by decide), ws_comm (by decide), ws_comm (by decide), ws_comm (by decide), ws_comm (by decide), ws_comm (by decide), ws_comm (by decide), ws_comm (by decide), wss_comm (by decide)]
theorem W_RealA_n {w : WO} {q1 q2 q3 q4 q5 q6 q7 q8 q9 q10 q11 q12 q13 q14 : Nat} {o : Nat} (h : o < 230 ∨ 250 < o) (n : wLy w o = none) : wLy (W_RealA w q1 q2 q3 q4 q5 q6 q7 q8 q9 q10 q11 q12 q13 q14) o = none := no_sn (by omega) (no_an (by omega) (no_an (by omega) (no_an (by omega) (no_an (by omega) (no_an (by omega) (no_an (by omega) (no_an (by omega) (no_an (by omega) (no_an (by omega) (no_an (by omega) (no_an (by omega) (no_an (by omega) (no_an (by omega) (no_an (by omega) n))))))))))))))
theorem W_RealA_a {w : WO} {q1 q2 q3 q4 q5 q6 q7 q8 q9 q10 q11 q12 q13 q14 : Nat} {o c : Nat} (h : o < 230 ∨ 250 < o) (e : wAd w o = c) : wAd (W_RealA w q1 q2 q3 q4 q5 q6 q7 q8 q9 q10 q11 q12 q13 q14) o = c := ha_sn (ha_an (by omega) (ha_an (by omega) (ha_an (by omega) (ha_an (by omega) (ha_an (by omega) (ha_an (by omega) (ha_an (by omega) (ha_an (by omega) (ha_an (by omega) (ha_an (by omega) (ha_an (by omega) (ha_an (by omega) (ha_an (by omega) (ha_an (by omega) e))))))))))))))
set_option maxRecDepth 20000 in
theorem i_RealA {l : Launch} {w : WO} {σ : DD} {a sz : Nat} {b : BZ} {S : Nat → Prop} (hb : BW b w) (hbs : b.1 ≤ sz) (hAO : ∀ U H, b.2 U H → EZ U) (h0 : wLy w 230 = some (lR 5 [.int 0, .null, .null, .int 0, .null, .null, .null, .null, .int 0, .null, .null, .null, .int 0, .null, .null, .null, .null, .int 0, .null, .int 0])) (ha : wAd w 230 = a) (hN : NRs w σ S) (hSt : ∀ o, 230 < o → o ≤ 250 → S o) (n232 : wLy w 232 = none) (n233 : wLy w 233 = none) (n235 : wLy w 235 = none) (n236 : wLy w 236 = none) (n237 : wLy w 237 = none) (n238 : wLy w 238 = none) (n240 : wLy w 240 = none) (n241 : wLy w 241 = none) (n242 : wLy w 242 = none) (n244 : wLy w 244 = none) (n245 : wLy w 245 = none) (n246 : wLy w 246 = none) (n247 : wLy w 247 = none) (n249 : wLy w 249 = none) : Met l yX5_init (.code yX5_init cX5_init 1 none :: TT) { frames := 1, cells := 14, slots := 349, locals := 23 } (wPc w σ [.ref a] sz) (wQm w sz b (fun u => ∃ q1 q2 q3 q4 q5 q6 q7 q8 q9 q10 q11 q12 q13 q14, u = (W_RealA w q1 q2 q3 q4 q5 q6 q7 q8 q9 q10 q11 q12 q13 q14, D_RealA σ) ∧ NRs (W_RealA w q1 q2 q3 q4 q5 q6 q7 q8 q9 q10 q11 q12 q13 q14) (D_RealA σ) S)) 14 349 (gA w sz) := by
  refine mk_head (by decide) rfl hb hbs (fun X hX hi hsz C => ?_)
  subst hX
  have e0 : wSet w 230 (lR 5 [.int 0, .null, .null, .int 0, .null, .null, .null, .null, .int 0, .null, .null, .null, .int 0, .null, .null, .null, .null, .int 0, .null, .int 0]) = w := ws_id h0
  refine gW_w e0 ?_
  replace C := CG_w e0 C
  replace hN := NRs_w e0 hN
  show gW X (wSet w 230 (lR 5 [.int 0, .null, .null, .int 0, .null, .null, .null, .null, .int 0, .null, .null, .null, .int 0, .null, .null, .null, .null, .int 0, .null, .int 0])) (gA w sz, 0, 0) 1 _ σ 0 [(0, .ref a)] []
  refine r_aload_n C.1 0 rfl (dk_at dk_Real_init_0 0 rfl) ?_
  refine r_objI C tc_34 tc_27 tc_28 (Nat.le_of_ble_eq_true rfl) (Nat.le_of_ble_eq_true rfl) (dk_at dk_Real_init_0 1 rfl) ?_
  refine r_aload_n C.1 0 rfl (dk_at dk_Real_init_0 2 rfl) ?_
  refine r_bipush C.1 32 (dk_at dk_Real_init_0 3 rfl) ?_
  refine r_newI (c1 := 1) (s1 := 32) C tc_152 232 32 (by decide) rfl (by decide) (no_sn (by decide) n232) (hN 232 (hSt 232 (by decide) (by decide))) ⟨rfl, rfl, Nat.le_of_ble_eq_true rfl, Nat.le_of_ble_eq_true rfl⟩ (dk_at dk_Real_init_0 4 rfl) (fun q1 hhq1 C => ?_)
  refine r_nf C hi (by decide) hN (fun _ _ => nR_I) fw_Real_9 ⟨rfl, rfl⟩ ha (Nat.le_of_ble_eq_true rfl) (dk_at dk_Real_init_0 5 rfl) [.int 0, .ref q1, .null, .int 0, .null, .null, .null, .null, .int 0, .null, .null, .null, .int 0, .null, .null, .null, .null, .int 0, .null, .int 0] rfl (fun C hN ha => ?_)
  refine r_aload_n C.1 0 rfl (dk_at dk_Real_init_0 6 rfl) ?_
  refine r_bipush C.1 8 (dk_at dk_Real_init_0 7 rfl) ?_
  refine r_newI (c1 := 2) (s1 := 40) C tc_152 233 8 (by decide) rfl (by decide) (no_sn (by decide) (no_an (by decide) n233)) (hN 233 (hSt 233 (by decide) (by decide))) ⟨rfl, rfl, Nat.le_of_ble_eq_true rfl, Nat.le_of_ble_eq_true rfl⟩ (dk_at dk_Real_init_0 8 rfl) (fun q2 hhq2 C => ?_)
  refine r_nf C hi (by decide) hN (fun _ _ => nR_I) fw_Real_15 ⟨rfl, rfl⟩ ha (Nat.le_of_ble_eq_true rfl) (dk_at dk_Real_init_0 9 rfl) [.int 0, .ref q1, .ref q2, .int 0, .null, .null, .null, .null, .int 0, .null, .null, .null, .int 0, .null, .null, .null, .null, .int 0, .null, .int 0] rfl (fun C hN ha => ?_)
  refine r_aload_n C.1 0 rfl (dk_at dk_Real_init_0 10 rfl) ?_
  refine r_iconst C.1 4 (dk_at dk_Real_init_0 11 rfl) ?_
  refine r_newI (c1 := 3) (s1 := 44) C tc_152 235 4 (by decide) rfl (by decide) (no_sn (by decide) (no_an (by decide) (no_an (by decide) n235))) (hN 235 (hSt 235 (by decide) (by decide))) ⟨rfl, rfl, Nat.le_of_ble_eq_true rfl, Nat.le_of_ble_eq_true rfl⟩ (dk_at dk_Real_init_0 12 rfl) (fun q3 hhq3 C => ?_)
  refine r_nf C hi (by decide) hN (fun _ _ => nR_I) fw_Real_18 ⟨rfl, rfl⟩ ha (Nat.le_of_ble_eq_true rfl) (dk_at dk_Real_init_0 13 rfl) [.int 0, .ref q1, .ref q2, .int 0, .ref q3, .null, .null, .null, .int 0, .null, .null, .null, .int 0, .null, .null, .null, .null, .int 0, .null, .int 0] rfl (fun C hN ha => ?_)
  refine r_aload_n C.1 0 rfl (dk_at dk_Real_init_0 14 rfl) ?_
  refine r_iconst C.1 4 (dk_at dk_Real_init_0 15 rfl) ?_
  refine r_newI (c1 := 4) (s1 := 48) C tc_152 236 4 (by decide) rfl (by decide) (no_sn (by decide) (no_an (by decide) (no_an (by decide) (no_an (by decide) n236)))) (hN 236 (hSt 236 (by decide) (by decide))) ⟨rfl, rfl, Nat.le_of_ble_eq_true rfl, Nat.le_of_ble_eq_true rfl⟩ (dk_at dk_Real_init_0 16 rfl) (fun q4 hhq4 C => ?_)
  refine r_nf C hi (by decide) hN (fun _ _ => nR_I) fw_Real_21 ⟨rfl, rfl⟩ ha (Nat.le_of_ble_eq_true rfl) (dk_at dk_Real_init_0 17 rfl) [.int 0, .ref q1, .ref q2, .int 0, .ref q3, .ref q4, .null, .null, .int 0, .null, .null, .null, .int 0, .null, .null, .null, .null, .int 0, .null, .int 0] rfl (fun C hN ha => ?_)
  refine r_aload_n C.1 0 rfl (dk_at dk_Real_init_0 18 rfl) ?_
  refine r_bipush C.1 7 (dk_at dk_Real_init_0 19 rfl) ?_
  refine r_newI (c1 := 5) (s1 := 55) C tc_152 237 7 (by decide) rfl (by decide) (no_sn (by decide) (no_an (by decide) (no_an (by decide) (no_an (by decide) (no_an (by decide) n237))))) (hN 237 (hSt 237 (by decide) (by decide))) ⟨rfl, rfl, Nat.le_of_ble_eq_true rfl, Nat.le_of_ble_eq_true rfl⟩ (dk_at dk_Real_init_0 20 rfl) (fun q5 hhq5 C => ?_)
  refine r_nf C hi (by decide) hN (fun _ _ => nR_I) fw_Real_24 ⟨rfl, rfl⟩ ha (Nat.le_of_ble_eq_true rfl) (dk_at dk_Real_init_0 21 rfl) [.int 0, .ref q1, .ref q2, .int 0, .ref q3, .ref q4, .ref q5, .null, .int 0, .null, .null, .null, .int 0, .null, .null, .null, .null, .int 0, .null, .int 0] rfl (fun C hN ha => ?_)
  refine r_aload_n C.1 0 rfl (dk_at dk_Real_init_0 22 rfl) ?_
  refine r_iconst C.1 4 (dk_at dk_Real_init_0 23 rfl) ?_
  refine r_newI (c1 := 6) (s1 := 59) C tc_152 238 4 (by decide) rfl (by decide) (no_sn (by decide) (no_an (by decide) (no_an (by decide) (no_an (by decide) (no_an (by decide) (no_an (by decide) n238)))))) (hN 238 (hSt 238 (by decide) (by decide))) ⟨rfl, rfl, Nat.le_of_ble_eq_true rfl, Nat.le_of_ble_eq_true rfl⟩ (dk_at dk_Real_init_0 24 rfl) (fun q6 hhq6 C => ?_)
  refine r_nf C hi (by decide) hN (fun _ _ => nR_I) fw_Real_27 ⟨rfl, rfl⟩ ha (Nat.le_of_ble_eq_true rfl) (dk_at dk_Real_init_0 25 rfl) [.int 0, .ref q1, .ref q2, .int 0, .ref q3, .ref q4, .ref q5, .ref q6, .int 0, .null, .null, .null, .int 0, .null, .null, .null, .null, .int 0, .null, .int 0] rfl (fun C hN ha => ?_)
  refine r_aload_n C.1 0 rfl (dk_at dk_Real_init_0 26 rfl) ?_
  refine r_bipush C.1 84 (dk_at dk_Real_init_0 27 rfl) ?_
  refine r_newI (c1 := 7) (s1 := 143) C tc_152 240 84 (by decide) rfl (by decide) (no_sn (by decide) (no_an (by decide) (no_an (by decide) (no_an (by decide) (no_an (by decide) (no_an (by decide) (no_an (by decide) n240))))))) (hN 240 (hSt 240 (by decide) (by decide))) ⟨rfl, rfl, Nat.le_of_ble_eq_true rfl, Nat.le_of_ble_eq_true rfl⟩ (dk_at dk_Real_init_0 28 rfl) (fun q7 hhq7 C => ?_)
  refine r_nf C hi (by decide) hN (fun _ _ => nR_I) fw_Real_30 ⟨rfl, rfl⟩ ha (Nat.le_of_ble_eq_true rfl) (dk_at dk_Real_init_0 29 rfl) [.int 0, .ref q1, .ref q2, .int 0, .ref q3, .ref q4, .ref q5, .ref q6, .int 0, .ref q7, .null, .null, .int 0, .null, .null, .null, .null, .int 0, .null, .int 0] rfl (fun C hN ha => ?_)
  refine r_aload_n C.1 0 rfl (dk_at dk_Real_init_0 30 rfl) ?_
  refine r_bipush C.1 84 (dk_at dk_Real_init_0 31 rfl) ?_
  refine r_newI (c1 := 8) (s1 := 227) C tc_152 241 84 (by decide) rfl (by decide) (no_sn (by decide) (no_an (by decide) (no_an (by decide) (no_an (by decide) (no_an (by decide) (no_an (by decide) (no_an (by decide) (no_an (by decide) n241)))))))) (hN 241 (hSt 241 (by decide) (by decide))) ⟨rfl, rfl, Nat.le_of_ble_eq_true rfl, Nat.le_of_ble_eq_true rfl⟩ (dk_at dk_Real_init_0 32 rfl) (fun q8 hhq8 C => ?_)
  refine r_nf C hi (by decide) hN (fun _ _ => nR_I) fw_Real_33 ⟨rfl, rfl⟩ ha (Nat.le_of_ble_eq_true rfl) (dk_at dk_Real_init_0 33 rfl) [.int 0, .ref q1, .ref q2, .int 0, .ref q3, .ref q4, .ref q5, .ref q6, .int 0, .ref q7, .ref q8, .null, .int 0, .null, .null, .null, .null, .int 0, .null, .int 0] rfl (fun C hN ha => ?_)
  refine r_aload_n C.1 0 rfl (dk_at dk_Real_init_0 34 rfl) ?_
  refine r_bipush C.1 84 (dk_at dk_Real_init_0 35 rfl) ?_
  refine r_newI (c1 := 9) (s1 := 311) C tc_152 242 84 (by decide) rfl (by decide) (no_sn (by decide) (no_an (by decide) (no_an (by decide) (no_an (by decide) (no_an (by decide) (no_an (by decide) (no_an (by decide) (no_an (by decide) (no_an (by decide) n242))))))))) (hN 242 (hSt 242 (by decide) (by decide))) ⟨rfl, rfl, Nat.le_of_ble_eq_true rfl, Nat.le_of_ble_eq_true rfl⟩ (dk_at dk_Real_init_0 36 rfl) (fun q9 hhq9 C => ?_)
  refine r_nf C hi (by decide) hN (fun _ _ => nR_I) fw_Real_36 ⟨rfl, rfl⟩ ha (Nat.le_of_ble_eq_true rfl) (dk_at dk_Real_init_0 37 rfl) [.int 0, .ref q1, .ref q2, .int 0, .ref q3, .ref q4, .ref q5, .ref q6, .int 0, .ref q7, .ref q8, .ref q9, .int 0, .null, .null, .null, .null, .int 0, .null, .int 0] rfl (fun C hN ha => ?_)
  refine r_aload_n C.1 0 rfl (dk_at dk_Real_init_0 38 rfl) ?_
  refine r_bipush C.1 8 (dk_at dk_Real_init_0 39 rfl) ?_
  refine r_newI (c1 := 10) (s1 := 319) C tc_152 244 8 (by decide) rfl (by decide) (no_sn (by decide) (no_an (by decide) (no_an (by decide) (no_an (by decide) (no_an (by decide) (no_an (by decide) (no_an (by decide) (no_an (by decide) (no_an (by decide) (no_an (by decide) n244)))))))))) (hN 244 (hSt 244 (by decide) (by decide))) ⟨rfl, rfl, Nat.le_of_ble_eq_true rfl, Nat.le_of_ble_eq_true rfl⟩ (dk_at dk_Real_init_1 0 rfl) (fun q10 hhq10 C => ?_)
  refine r_nf C hi (by decide) hN (fun _ _ => nR_I) fw_Real_39 ⟨rfl, rfl⟩ ha (Nat.le_of_ble_eq_true rfl) (dk_at dk_Real_init_1 1 rfl) [.int 0, .ref q1, .ref q2, .int 0, .ref q3, .ref q4, .ref q5, .ref q6, .int 0, .ref q7, .ref q8, .ref q9, .int 0, .ref q10, .null, .null, .null, .int 0, .null, .int 0] rfl (fun C hN ha => ?_)
  refine r_aload_n C.1 0 rfl (dk_at dk_Real_init_1 2 rfl) ?_
  refine r_bipush C.1 8 (dk_at dk_Real_init_1 3 rfl) ?_
  refine r_newI (c1 := 11) (s1 := 327) C tc_152 245 8 (by decide) rfl (by decide) (no_sn (by decide) (no_an (by decide) (no_an (by decide) (no_an (by decide) (no_an (by decide) (no_an (by decide) (no_an (by decide) (no_an (by decide) (no_an (by decide) (no_an (by decide) (no_an (by decide) n245))))))))))) (hN 245 (hSt 245 (by decide) (by decide))) ⟨rfl, rfl, Nat.le_of_ble_eq_true rfl, Nat.le_of_ble_eq_true rfl⟩ (dk_at dk_Real_init_1 4 rfl) (fun q11 hhq11 C => ?_)
  refine r_nf C hi (by decide) hN (fun _ _ => nR_I) fw_Real_42 ⟨rfl, rfl⟩ ha (Nat.le_of_ble_eq_true rfl) (dk_at dk_Real_init_1 5 rfl) [.int 0, .ref q1, .ref q2, .int 0, .ref q3, .ref q4, .ref q5, .ref q6, .int 0, .ref q7, .ref q8, .ref q9, .int 0, .ref q10, .ref q11, .null, .null, .int 0, .null, .int 0] rfl (fun C hN ha => ?_)
  refine r_aload_n C.1 0 rfl (dk_at dk_Real_init_1 6 rfl) ?_
  refine r_bipush C.1 8 (dk_at dk_Real_init_1 7 rfl) ?_
  refine r_newI (c1 := 12) (s1 := 335) C tc_152 246 8 (by decide) rfl (by decide) (no_sn (by decide) (no_an (by decide) (no_an (by decide) (no_an (by decide) (no_an (by decide) (no_an (by decide) (no_an (by decide) (no_an (by decide) (no_an (by decide) (no_an (by decide) (no_an (by decide) (no_an (by decide) n246)))))))))))) (hN 246 (hSt 246 (by decide) (by decide))) ⟨rfl, rfl, Nat.le_of_ble_eq_true rfl, Nat.le_of_ble_eq_true rfl⟩ (dk_at dk_Real_init_1 8 rfl) (fun q12 hhq12 C => ?_)
  refine r_nf C hi (by decide) hN (fun _ _ => nR_I) fw_Real_45 ⟨rfl, rfl⟩ ha (Nat.le_of_ble_eq_true rfl) (dk_at dk_Real_init_1 9 rfl) [.int 0, .ref q1, .ref q2, .int 0, .ref q3, .ref q4, .ref q5, .ref q6, .int 0, .ref q7, .ref q8, .ref q9, .int 0, .ref q10, .ref q11, .ref q12, .null, .int 0, .null, .int 0] rfl (fun C hN ha => ?_)
  refine r_aload_n C.1 0 rfl (dk_at dk_Real_init_1 10 rfl) ?_
  refine r_bipush C.1 8 (dk_at dk_Real_init_1 11 rfl) ?_
  refine r_newI (c1 := 13) (s1 := 343) C tc_152 247 8 (by decide) rfl (by decide) (no_sn (by decide) (no_an (by decide) (no_an (by decide) (no_an (by decide) (no_an (by decide) (no_an (by decide) (no_an (by decide) (no_an (by decide) (no_an (by decide) (no_an (by decide) (no_an (by decide) (no_an (by decide) (no_an (by decide) n247))))))))))))) (hN 247 (hSt 247 (by decide) (by decide))) ⟨rfl, rfl, Nat.le_of_ble_eq_true rfl, Nat.le_of_ble_eq_true rfl⟩ (dk_at dk_Real_init_1 12 rfl) (fun q13 hhq13 C => ?_)
  refine r_nf C hi (by decide) hN (fun _ _ => nR_I) fw_Real_48 ⟨rfl, rfl⟩ ha (Nat.le_of_ble_eq_true rfl) (dk_at dk_Real_init_1 13 rfl) [.int 0, .ref q1, .ref q2, .int 0, .ref q3, .ref q4, .ref q5, .ref q6, .int 0, .ref q7, .ref q8, .ref q9, .int 0, .ref q10, .ref q11, .ref q12, .ref q13, .int 0, .null, .int 0] rfl (fun C hN ha => ?_)
  refine r_aload_n C.1 0 rfl (dk_at dk_Real_init_1 14 rfl) ?_
  refine r_bipush C.1 6 (dk_at dk_Real_init_1 15 rfl) ?_
  refine r_newQ (c1 := 14) (s1 := 349) C (Or.inl ⟨rfl, rfl⟩) tc_35 (C.ez hAO).1 249 6 (by decide) rfl (by decide) (no_sn (by decide) (no_an (by decide) (no_an (by decide) (no_an (by decide) (no_an (by decide) (no_an (by decide) (no_an (by decide) (no_an (by decide) (no_an (by decide) (no_an (by decide) (no_an (by decide) (no_an (by decide) (no_an (by decide) (no_an (by decide) n249)))))))))))))) (hN 249 (hSt 249 (by decide) (by decide))) ⟨rfl, rfl, Nat.le_of_ble_eq_true rfl, Nat.le_of_ble_eq_true rfl⟩ (dk_at dk_Real_init_1 16 rfl) (fun q14 hhq14 C => ?_)
  refine r_nf C hi (by decide) hN (fun _ _ => nR_Q) fw_Real_53 ⟨rfl, rfl⟩ ha (Nat.le_of_ble_eq_true rfl) (dk_at dk_Real_init_1 17 rfl) [.int 0, .ref q1, .ref q2, .int 0, .ref q3, .ref q4, .ref q5, .ref q6, .int 0, .ref q7, .ref q8, .ref q9, .int 0, .ref q10, .ref q11, .ref q12, .ref q13, .int 0, .ref q14, .int 0] rfl (fun C hN ha => ?_)
  refine r_aload_n C.1 0 rfl (dk_at dk_Real_init_1 18 rfl) ?_
  refine r_iconst C.1 (-1) (dk_at dk_Real_init_1 19 rfl) ?_
  refine r_pf C hi hN fw_Real_57 ⟨rfl, rfl⟩ ha (Nat.le_of_ble_eq_true rfl) (dk_at dk_Real_init_1 20 rfl) [.int 0, .ref q1, .ref q2, .int 0, .ref q3, .ref q4, .ref q5, .ref q6, .int 0, .ref q7, .ref q8, .ref q9, .int 0, .ref q10, .ref q11, .ref q12, .ref q13, .int 0, .ref q14, .int (-1)] rfl (fun C hN => ?_)
  refine r_aload_n C.1 0 rfl (dk_at dk_Real_init_1 21 rfl) ?_
  refine r_getS C fw_Real_24 ha rfl (dk_at dk_Real_init_1 22 rfl) ?_
  refine r_bipush C.1 63 (dk_at dk_Real_init_1 23 rfl) ?_
  refine r_csV C.1 cs_fill [.ref q5, .int 63] (i_fill (o := 237) rfl rfl) (rmK_ok rfl rfl) rfl rfl (Nat.le_of_ble_eq_true rfl) (dk_at dk_Real_init_1 24 rfl) (fun σ1 e1 => ?_)
  subst e1
  replace hN := hN.fi 237 63
  refine r_aload_n C.1 0 rfl (dk_at dk_Real_init_1 25 rfl) ?_
  refine r_getS C fw_Real_27 ha rfl (dk_at dk_Real_init_1 26 rfl) ?_
  refine r_iconst C.1 1 (dk_at dk_Real_init_1 27 rfl) ?_
  refine r_iconst C.1 3 (dk_at dk_Real_init_1 28 rfl) ?_
  refine r_iastA (n := 4) C 238 rfl rfl (k := 1) rfl (vp_lit rfl) (dk_at dk_Real_init_1 29 rfl) ?_
  replace hN := hN.si 238 1 3
  refine r_aload_n C.1 0 rfl (dk_at dk_Real_init_1 30 rfl) ?_
  refine r_getS C fw_Real_27 ha rfl (dk_at dk_Real_init_1 31 rfl) ?_
  refine r_iconst C.1 2 (dk_at dk_Real_init_1 32 rfl) ?_
  refine r_bipush C.1 20 (dk_at dk_Real_init_1 33 rfl) ?_
  refine r_iastA (n := 4) C 238 rfl rfl (k := 2) rfl (vp_lit rfl) (dk_at dk_Real_init_1 34 rfl) ?_
  replace hN := hN.si 238 2 20
  exact r_mvret C rfl hsz ⟨Nat.le_of_ble_eq_true rfl, Nat.le_of_ble_eq_true rfl⟩ ⟨q1, q2, q3, q4, q5, q6, q7, q8, q9, q10, q11, q12, q13, q14, rfl, hN⟩ (dk_at dk_Real_init_1 35 rfl)
