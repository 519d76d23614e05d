/-! ===== a realm is made ===== -/
def W_RealB (w : WO) (q1 q2 q3 q4 q5 q6 q7 q8 q9 q10 q11 q12 q13 q14 : Nat) : WO := wSet (wAdd (wAdd (wAdd (wAdd (wAdd (wAdd (wAdd (wAdd (wAdd (wAdd (wAdd (wAdd (wAdd (wAdd w 262 q1 (lI 0 32)) 263 q2 (lI 0 8)) 265 q3 (lI 0 4)) 266 q4 (lI 0 4)) 267 q5 (lI 0 7)) 268 q6 (lI 0 4)) 270 q7 (lI 0 84)) 271 q8 (lI 0 84)) 272 q9 (lI 0 84)) 274 q10 (lI 0 8)) 275 q11 (lI 0 8)) 276 q12 (lI 0 8)) 277 q13 (lI 0 8)) 279 q14 (lQ 4 6)) 260 (lR 5 [.int 0, .ref q1, .ref q2, .int 0, .ref q3, .ref q4, .ref q5, .ref q6, .int 0, .ref q7, .ref q8, .ref q9, .int 0, .ref q10, .ref q11, .ref q12, .ref q13, .int 0, .ref q14, .int (-1)])
def D_RealB (σ : DD) : DD := (sI (sI (fil7 (cle (cle (cle (cle (cle (cle (cle (cle (cle (cle (cle (cle (cle (cle σ 262) 263) 265) 266) 267) 268) 270) 271) 272) 274) 275) 276) 277) 279) 267 63) 268 1 3) 268 2 20)
theorem W_RealB_comm {w : WO} {y : LY} {q1 q2 q3 q4 q5 q6 q7 q8 q9 q10 q11 q12 q13 q14 : Nat} : W_RealB (wSet w 0 y) q1 q2 q3 q4 q5 q6 q7 q8 q9 q10 q11 q12 q13 q14 = wSet (W_RealB w q1 q2 q3 q4 q5 q6 q7 q8 q9 q10 q11 q12 q13 q14) 0 y := by
  unfold W_RealB
  rw [ws_comm (by decide), ws_comm (by decide), ws_comm (by decide), ws_comm (by decide), ws_comm (by decide), ws_comm (by decide), ws_comm (by decide), ws_comm (by decide), ws_comm (by decide), ws_comm (by decide), ws_comm (by decide), ws_comm (by decide), ws_comm (by decide), ws_comm (by decide), wss_comm (by decide)]
theorem W_RealB_n {w : WO} {q1 q2 q3 q4 q5 q6 q7 q8 q9 q10 q11 q12 q13 q14 : Nat} {o : Nat} (h : o < 260 ∨ 280 < o) (n : wLy w o = none) : wLy (W_RealB w q1 q2 q3 q4 q5 q6 q7 q8 q9 q10 q11 q12 q13 q14) o = none := no_sn (by omega) (no_an (by omega) (no_an (by omega) (no_an (by omega) (no_an (by omega) (no_an (by omega) (no_an (by omega) (no_an (by omega) (no_an (by omega) (no_an (by omega) (no_an (by omega) (no_an (by omega) (no_an (by omega) (no_an (by omega) (no_an (by omega) n))))))))))))))
theorem W_RealB_a {w : WO} {q1 q2 q3 q4 q5 q6 q7 q8 q9 q10 q11 q12 q13 q14 : Nat} {o c : Nat} (h : o < 260 ∨ 280 < o) (e : wAd w o = c) : wAd (W_RealB w q1 q2 q3 q4 q5 q6 q7 q8 q9 q10 q11 q12 q13 q14) o = c := ha_sn (ha_an (by omega) (ha_an (by omega) (ha_an (by omega) (ha_an (by omega) (ha_an (by omega) (ha_an (by omega) (ha_an (by omega) (ha_an (by omega) (ha_an (by omega) (ha_an (by omega) (ha_an (by omega) (ha_an (by omega) (ha_an (by omega) (ha_an (by omega) e))))))))))))))
set_option maxRecDepth 20000 in
theorem i_RealB {l : Launch} {w : WO} {σ : DD} {a sz : Nat} {b : BZ} {S : Nat → Prop} (hb : BW b w) (hbs : b.1 ≤ sz) (hAO : ∀ U H, b.2 U H → EZ U) (h0 : wLy w 260 = some (lR 5 [.int 0, .null, .null, .int 0, .null, .null, .null, .null, .int 0, .null, .null, .null, .int 0, .null, .null, .null, .null, .int 0, .null, .int 0])) (ha : wAd w 260 = a) (hN : NRs w σ S) (hSt : ∀ o, 260 < o → o ≤ 280 → S o) (n262 : wLy w 262 = none) (n263 : wLy w 263 = none) (n265 : wLy w 265 = none) (n266 : wLy w 266 = none) (n267 : wLy w 267 = none) (n268 : wLy w 268 = none) (n270 : wLy w 270 = none) (n271 : wLy w 271 = none) (n272 : wLy w 272 = none) (n274 : wLy w 274 = none) (n275 : wLy w 275 = none) (n276 : wLy w 276 = none) (n277 : wLy w 277 = none) (n279 : wLy w 279 = none) : Met l yX5_init (.code yX5_init cX5_init 1 none :: TT) { frames := 1, cells := 14, slots := 349, locals := 23 } (wPc w σ [.ref a] sz) (wQm w sz b (fun u => ∃ q1 q2 q3 q4 q5 q6 q7 q8 q9 q10 q11 q12 q13 q14, u = (W_RealB w q1 q2 q3 q4 q5 q6 q7 q8 q9 q10 q11 q12 q13 q14, D_RealB σ) ∧ NRs (W_RealB w q1 q2 q3 q4 q5 q6 q7 q8 q9 q10 q11 q12 q13 q14) (D_RealB σ) S)) 14 349 (gA w sz) := by
  refine mk_head (by decide) rfl hb hbs (fun X hX hi hsz C => ?_)
  subst hX
  have e0 : wSet w 260 (lR 5 [.int 0, .null, .null, .int 0, .null, .null, .null, .null, .int 0, .null, .null, .null, .int 0, .null, .null, .null, .null, .int 0, .null, .int 0]) = w := ws_id h0
  refine gW_w e0 ?_
  replace C := CG_w e0 C
  replace hN := NRs_w e0 hN
  show gW X (wSet w 260 (lR 5 [.int 0, .null, .null, .int 0, .null, .null, .null, .null, .int 0, .null, .null, .null, .int 0, .null, .null, .null, .null, .int 0, .null, .int 0])) (gA w sz, 0, 0) 1 _ σ 0 [(0, .ref a)] []
  refine r_aload_n C.1 0 rfl (dk_at dk_Real_init_0 0 rfl) ?_
  refine r_objI C tc_34 tc_27 tc_28 (Nat.le_of_ble_eq_true rfl) (Nat.le_of_ble_eq_true rfl) (dk_at dk_Real_init_0 1 rfl) ?_
  refine r_aload_n C.1 0 rfl (dk_at dk_Real_init_0 2 rfl) ?_
  refine r_bipush C.1 32 (dk_at dk_Real_init_0 3 rfl) ?_
  refine r_newI (c1 := 1) (s1 := 32) C tc_152 262 32 (by decide) rfl (by decide) (no_sn (by decide) n262) (hN 262 (hSt 262 (by decide) (by decide))) ⟨rfl, rfl, Nat.le_of_ble_eq_true rfl, Nat.le_of_ble_eq_true rfl⟩ (dk_at dk_Real_init_0 4 rfl) (fun q1 hhq1 C => ?_)
  refine r_nf C hi (by decide) hN (fun _ _ => nR_I) fw_Real_9 ⟨rfl, rfl⟩ ha (Nat.le_of_ble_eq_true rfl) (dk_at dk_Real_init_0 5 rfl) [.int 0, .ref q1, .null, .int 0, .null, .null, .null, .null, .int 0, .null, .null, .null, .int 0, .null, .null, .null, .null, .int 0, .null, .int 0] rfl (fun C hN ha => ?_)
  refine r_aload_n C.1 0 rfl (dk_at dk_Real_init_0 6 rfl) ?_
  refine r_bipush C.1 8 (dk_at dk_Real_init_0 7 rfl) ?_
  refine r_newI (c1 := 2) (s1 := 40) C tc_152 263 8 (by decide) rfl (by decide) (no_sn (by decide) (no_an (by decide) n263)) (hN 263 (hSt 263 (by decide) (by decide))) ⟨rfl, rfl, Nat.le_of_ble_eq_true rfl, Nat.le_of_ble_eq_true rfl⟩ (dk_at dk_Real_init_0 8 rfl) (fun q2 hhq2 C => ?_)
  refine r_nf C hi (by decide) hN (fun _ _ => nR_I) fw_Real_15 ⟨rfl, rfl⟩ ha (Nat.le_of_ble_eq_true rfl) (dk_at dk_Real_init_0 9 rfl) [.int 0, .ref q1, .ref q2, .int 0, .null, .null, .null, .null, .int 0, .null, .null, .null, .int 0, .null, .null, .null, .null, .int 0, .null, .int 0] rfl (fun C hN ha => ?_)
  refine r_aload_n C.1 0 rfl (dk_at dk_Real_init_0 10 rfl) ?_
  refine r_iconst C.1 4 (dk_at dk_Real_init_0 11 rfl) ?_
  refine r_newI (c1 := 3) (s1 := 44) C tc_152 265 4 (by decide) rfl (by decide) (no_sn (by decide) (no_an (by decide) (no_an (by decide) n265))) (hN 265 (hSt 265 (by decide) (by decide))) ⟨rfl, rfl, Nat.le_of_ble_eq_true rfl, Nat.le_of_ble_eq_true rfl⟩ (dk_at dk_Real_init_0 12 rfl) (fun q3 hhq3 C => ?_)
  refine r_nf C hi (by decide) hN (fun _ _ => nR_I) fw_Real_18 ⟨rfl, rfl⟩ ha (Nat.le_of_ble_eq_true rfl) (dk_at dk_Real_init_0 13 rfl) [.int 0, .ref q1, .ref q2, .int 0, .ref q3, .null, .null, .null, .int 0, .null, .null, .null, .int 0, .null, .null, .null, .null, .int 0, .null, .int 0] rfl (fun C hN ha => ?_)
  refine r_aload_n C.1 0 rfl (dk_at dk_Real_init_0 14 rfl) ?_
  refine r_iconst C.1 4 (dk_at dk_Real_init_0 15 rfl) ?_
  refine r_newI (c1 := 4) (s1 := 48) C tc_152 266 4 (by decide) rfl (by decide) (no_sn (by decide) (no_an (by decide) (no_an (by decide) (no_an (by decide) n266)))) (hN 266 (hSt 266 (by decide) (by decide))) ⟨rfl, rfl, Nat.le_of_ble_eq_true rfl, Nat.le_of_ble_eq_true rfl⟩ (dk_at dk_Real_init_0 16 rfl) (fun q4 hhq4 C => ?_)
  refine r_nf C hi (by decide) hN (fun _ _ => nR_I) fw_Real_21 ⟨rfl, rfl⟩ ha (Nat.le_of_ble_eq_true rfl) (dk_at dk_Real_init_0 17 rfl) [.int 0, .ref q1, .ref q2, .int 0, .ref q3, .ref q4, .null, .null, .int 0, .null, .null, .null, .int 0, .null, .null, .null, .null, .int 0, .null, .int 0] rfl (fun C hN ha => ?_)
  refine r_aload_n C.1 0 rfl (dk_at dk_Real_init_0 18 rfl) ?_
  refine r_bipush C.1 7 (dk_at dk_Real_init_0 19 rfl) ?_
  refine r_newI (c1 := 5) (s1 := 55) C tc_152 267 7 (by decide) rfl (by decide) (no_sn (by decide) (no_an (by decide) (no_an (by decide) (no_an (by decide) (no_an (by decide) n267))))) (hN 267 (hSt 267 (by decide) (by decide))) ⟨rfl, rfl, Nat.le_of_ble_eq_true rfl, Nat.le_of_ble_eq_true rfl⟩ (dk_at dk_Real_init_0 20 rfl) (fun q5 hhq5 C => ?_)
  refine r_nf C hi (by decide) hN (fun _ _ => nR_I) fw_Real_24 ⟨rfl, rfl⟩ ha (Nat.le_of_ble_eq_true rfl) (dk_at dk_Real_init_0 21 rfl) [.int 0, .ref q1, .ref q2, .int 0, .ref q3, .ref q4, .ref q5, .null, .int 0, .null, .null, .null, .int 0, .null, .null, .null, .null, .int 0, .null, .int 0] rfl (fun C hN ha => ?_)
  refine r_aload_n C.1 0 rfl (dk_at dk_Real_init_0 22 rfl) ?_
  refine r_iconst C.1 4 (dk_at dk_Real_init_0 23 rfl) ?_
  refine r_newI (c1 := 6) (s1 := 59) C tc_152 268 4 (by decide) rfl (by decide) (no_sn (by decide) (no_an (by decide) (no_an (by decide) (no_an (by decide) (no_an (by decide) (no_an (by decide) n268)))))) (hN 268 (hSt 268 (by decide) (by decide))) ⟨rfl, rfl, Nat.le_of_ble_eq_true rfl, Nat.le_of_ble_eq_true rfl⟩ (dk_at dk_Real_init_0 24 rfl) (fun q6 hhq6 C => ?_)
  refine r_nf C hi (by decide) hN (fun _ _ => nR_I) fw_Real_27 ⟨rfl, rfl⟩ ha (Nat.le_of_ble_eq_true rfl) (dk_at dk_Real_init_0 25 rfl) [.int 0, .ref q1, .ref q2, .int 0, .ref q3, .ref q4, .ref q5, .ref q6, .int 0, .null, .null, .null, .int 0, .null, .null, .null, .null, .int 0, .null, .int 0] rfl (fun C hN ha => ?_)
  refine r_aload_n C.1 0 rfl (dk_at dk_Real_init_0 26 rfl) ?_
  refine r_bipush C.1 84 (dk_at dk_Real_init_0 27 rfl) ?_
  refine r_newI (c1 := 7) (s1 := 143) C tc_152 270 84 (by decide) rfl (by decide) (no_sn (by decide) (no_an (by decide) (no_an (by decide) (no_an (by decide) (no_an (by decide) (no_an (by decide) (no_an (by decide) n270))))))) (hN 270 (hSt 270 (by decide) (by decide))) ⟨rfl, rfl, Nat.le_of_ble_eq_true rfl, Nat.le_of_ble_eq_true rfl⟩ (dk_at dk_Real_init_0 28 rfl) (fun q7 hhq7 C => ?_)
  refine r_nf C hi (by decide) hN (fun _ _ => nR_I) fw_Real_30 ⟨rfl, rfl⟩ ha (Nat.le_of_ble_eq_true rfl) (dk_at dk_Real_init_0 29 rfl) [.int 0, .ref q1, .ref q2, .int 0, .ref q3, .ref q4, .ref q5, .ref q6, .int 0, .ref q7, .null, .null, .int 0, .null, .null, .null, .null, .int 0, .null, .int 0] rfl (fun C hN ha => ?_)
  refine r_aload_n C.1 0 rfl (dk_at dk_Real_init_0 30 rfl) ?_
  refine r_bipush C.1 84 (dk_at dk_Real_init_0 31 rfl) ?_
  refine r_newI (c1 := 8) (s1 := 227) C tc_152 271 84 (by decide) rfl (by decide) (no_sn (by decide) (no_an (by decide) (no_an (by decide) (no_an (by decide) (no_an (by decide) (no_an (by decide) (no_an (by decide) (no_an (by decide) n271)))))))) (hN 271 (hSt 271 (by decide) (by decide))) ⟨rfl, rfl, Nat.le_of_ble_eq_true rfl, Nat.le_of_ble_eq_true rfl⟩ (dk_at dk_Real_init_0 32 rfl) (fun q8 hhq8 C => ?_)
  refine r_nf C hi (by decide) hN (fun _ _ => nR_I) fw_Real_33 ⟨rfl, rfl⟩ ha (Nat.le_of_ble_eq_true rfl) (dk_at dk_Real_init_0 33 rfl) [.int 0, .ref q1, .ref q2, .int 0, .ref q3, .ref q4, .ref q5, .ref q6, .int 0, .ref q7, .ref q8, .null, .int 0, .null, .null, .null, .null, .int 0, .null, .int 0] rfl (fun C hN ha => ?_)
  refine r_aload_n C.1 0 rfl (dk_at dk_Real_init_0 34 rfl) ?_
  refine r_bipush C.1 84 (dk_at dk_Real_init_0 35 rfl) ?_
  refine r_newI (c1 := 9) (s1 := 311) C tc_152 272 84 (by decide) rfl (by decide) (no_sn (by decide) (no_an (by decide) (no_an (by decide) (no_an (by decide) (no_an (by decide) (no_an (by decide) (no_an (by decide) (no_an (by decide) (no_an (by decide) n272))))))))) (hN 272 (hSt 272 (by decide) (by decide))) ⟨rfl, rfl, Nat.le_of_ble_eq_true rfl, Nat.le_of_ble_eq_true rfl⟩ (dk_at dk_Real_init_0 36 rfl) (fun q9 hhq9 C => ?_)
  refine r_nf C hi (by decide) hN (fun _ _ => nR_I) fw_Real_36 ⟨rfl, rfl⟩ ha (Nat.le_of_ble_eq_true rfl) (dk_at dk_Real_init_0 37 rfl) [.int 0, .ref q1, .ref q2, .int 0, .ref q3, .ref q4, .ref q5, .ref q6, .int 0, .ref q7, .ref q8, .ref q9, .int 0, .null, .null, .null, .null, .int 0, .null, .int 0] rfl (fun C hN ha => ?_)
  refine r_aload_n C.1 0 rfl (dk_at dk_Real_init_0 38 rfl) ?_
  refine r_bipush C.1 8 (dk_at dk_Real_init_0 39 rfl) ?_
  refine r_newI (c1 := 10) (s1 := 319) C tc_152 274 8 (by decide) rfl (by decide) (no_sn (by decide) (no_an (by decide) (no_an (by decide) (no_an (by decide) (no_an (by decide) (no_an (by decide) (no_an (by decide) (no_an (by decide) (no_an (by decide) (no_an (by decide) n274)))))))))) (hN 274 (hSt 274 (by decide) (by decide))) ⟨rfl, rfl, Nat.le_of_ble_eq_true rfl, Nat.le_of_ble_eq_true rfl⟩ (dk_at dk_Real_init_1 0 rfl) (fun q10 hhq10 C => ?_)
  refine r_nf C hi (by decide) hN (fun _ _ => nR_I) fw_Real_39 ⟨rfl, rfl⟩ ha (Nat.le_of_ble_eq_true rfl) (dk_at dk_Real_init_1 1 rfl) [.int 0, .ref q1, .ref q2, .int 0, .ref q3, .ref q4, .ref q5, .ref q6, .int 0, .ref q7, .ref q8, .ref q9, .int 0, .ref q10, .null, .null, .null, .int 0, .null, .int 0] rfl (fun C hN ha => ?_)
  refine r_aload_n C.1 0 rfl (dk_at dk_Real_init_1 2 rfl) ?_
  refine r_bipush C.1 8 (dk_at dk_Real_init_1 3 rfl) ?_
  refine r_newI (c1 := 11) (s1 := 327) C tc_152 275 8 (by decide) rfl (by decide) (no_sn (by decide) (no_an (by decide) (no_an (by decide) (no_an (by decide) (no_an (by decide) (no_an (by decide) (no_an (by decide) (no_an (by decide) (no_an (by decide) (no_an (by decide) (no_an (by decide) n275))))))))))) (hN 275 (hSt 275 (by decide) (by decide))) ⟨rfl, rfl, Nat.le_of_ble_eq_true rfl, Nat.le_of_ble_eq_true rfl⟩ (dk_at dk_Real_init_1 4 rfl) (fun q11 hhq11 C => ?_)
  refine r_nf C hi (by decide) hN (fun _ _ => nR_I) fw_Real_42 ⟨rfl, rfl⟩ ha (Nat.le_of_ble_eq_true rfl) (dk_at dk_Real_init_1 5 rfl) [.int 0, .ref q1, .ref q2, .int 0, .ref q3, .ref q4, .ref q5, .ref q6, .int 0, .ref q7, .ref q8, .ref q9, .int 0, .ref q10, .ref q11, .null, .null, .int 0, .null, .int 0] rfl (fun C hN ha => ?_)
  refine r_aload_n C.1 0 rfl (dk_at dk_Real_init_1 6 rfl) ?_
  refine r_bipush C.1 8 (dk_at dk_Real_init_1 7 rfl) ?_
  refine r_newI (c1 := 12) (s1 := 335) C tc_152 276 8 (by decide) rfl (by decide) (no_sn (by decide) (no_an (by decide) (no_an (by decide) (no_an (by decide) (no_an (by decide) (no_an (by decide) (no_an (by decide) (no_an (by decide) (no_an (by decide) (no_an (by decide) (no_an (by decide) (no_an (by decide) n276)))))))))))) (hN 276 (hSt 276 (by decide) (by decide))) ⟨rfl, rfl, Nat.le_of_ble_eq_true rfl, Nat.le_of_ble_eq_true rfl⟩ (dk_at dk_Real_init_1 8 rfl) (fun q12 hhq12 C => ?_)
  refine r_nf C hi (by decide) hN (fun _ _ => nR_I) fw_Real_45 ⟨rfl, rfl⟩ ha (Nat.le_of_ble_eq_true rfl) (dk_at dk_Real_init_1 9 rfl) [.int 0, .ref q1, .ref q2, .int 0, .ref q3, .ref q4, .ref q5, .ref q6, .int 0, .ref q7, .ref q8, .ref q9, .int 0, .ref q10, .ref q11, .ref q12, .null, .int 0, .null, .int 0] rfl (fun C hN ha => ?_)
  refine r_aload_n C.1 0 rfl (dk_at dk_Real_init_1 10 rfl) ?_
  refine r_bipush C.1 8 (dk_at dk_Real_init_1 11 rfl) ?_
  refine r_newI (c1 := 13) (s1 := 343) C tc_152 277 8 (by decide) rfl (by decide) (no_sn (by decide) (no_an (by decide) (no_an (by decide) (no_an (by decide) (no_an (by decide) (no_an (by decide) (no_an (by decide) (no_an (by decide) (no_an (by decide) (no_an (by decide) (no_an (by decide) (no_an (by decide) (no_an (by decide) n277))))))))))))) (hN 277 (hSt 277 (by decide) (by decide))) ⟨rfl, rfl, Nat.le_of_ble_eq_true rfl, Nat.le_of_ble_eq_true rfl⟩ (dk_at dk_Real_init_1 12 rfl) (fun q13 hhq13 C => ?_)
  refine r_nf C hi (by decide) hN (fun _ _ => nR_I) fw_Real_48 ⟨rfl, rfl⟩ ha (Nat.le_of_ble_eq_true rfl) (dk_at dk_Real_init_1 13 rfl) [.int 0, .ref q1, .ref q2, .int 0, .ref q3, .ref q4, .ref q5, .ref q6, .int 0, .ref q7, .ref q8, .ref q9, .int 0, .ref q10, .ref q11, .ref q12, .ref q13, .int 0, .null, .int 0] rfl (fun C hN ha => ?_)
  refine r_aload_n C.1 0 rfl (dk_at dk_Real_init_1 14 rfl) ?_
  refine r_bipush C.1 6 (dk_at dk_Real_init_1 15 rfl) ?_
  refine r_newQ (c1 := 14) (s1 := 349) C (Or.inl ⟨rfl, rfl⟩) tc_35 (C.ez hAO).1 279 6 (by decide) rfl (by decide) (no_sn (by decide) (no_an (by decide) (no_an (by decide) (no_an (by decide) (no_an (by decide) (no_an (by decide) (no_an (by decide) (no_an (by decide) (no_an (by decide) (no_an (by decide) (no_an (by decide) (no_an (by decide) (no_an (by decide) (no_an (by decide) n279)))))))))))))) (hN 279 (hSt 279 (by decide) (by decide))) ⟨rfl, rfl, Nat.le_of_ble_eq_true rfl, Nat.le_of_ble_eq_true rfl⟩ (dk_at dk_Real_init_1 16 rfl) (fun q14 hhq14 C => ?_)
  refine r_nf C hi (by decide) hN (fun _ _ => nR_Q) fw_Real_53 ⟨rfl, rfl⟩ ha (Nat.le_of_ble_eq_true rfl) (dk_at dk_Real_init_1 17 rfl) [.int 0, .ref q1, .ref q2, .int 0, .ref q3, .ref q4, .ref q5, .ref q6, .int 0, .ref q7, .ref q8, .ref q9, .int 0, .ref q10, .ref q11, .ref q12, .ref q13, .int 0, .ref q14, .int 0] rfl (fun C hN ha => ?_)
  refine r_aload_n C.1 0 rfl (dk_at dk_Real_init_1 18 rfl) ?_
  refine r_iconst C.1 (-1) (dk_at dk_Real_init_1 19 rfl) ?_
  refine r_pf C hi hN fw_Real_57 ⟨rfl, rfl⟩ ha (Nat.le_of_ble_eq_true rfl) (dk_at dk_Real_init_1 20 rfl) [.int 0, .ref q1, .ref q2, .int 0, .ref q3, .ref q4, .ref q5, .ref q6, .int 0, .ref q7, .ref q8, .ref q9, .int 0, .ref q10, .ref q11, .ref q12, .ref q13, .int 0, .ref q14, .int (-1)] rfl (fun C hN => ?_)
  refine r_aload_n C.1 0 rfl (dk_at dk_Real_init_1 21 rfl) ?_
  refine r_getS C fw_Real_24 ha rfl (dk_at dk_Real_init_1 22 rfl) ?_
  refine r_bipush C.1 63 (dk_at dk_Real_init_1 23 rfl) ?_
  refine r_csV C.1 cs_fill [.ref q5, .int 63] (i_fill (o := 267) rfl rfl) (rmK_ok rfl rfl) rfl rfl (Nat.le_of_ble_eq_true rfl) (dk_at dk_Real_init_1 24 rfl) (fun σ1 e1 => ?_)
  subst e1
  replace hN := hN.fi 267 63
  refine r_aload_n C.1 0 rfl (dk_at dk_Real_init_1 25 rfl) ?_
  refine r_getS C fw_Real_27 ha rfl (dk_at dk_Real_init_1 26 rfl) ?_
  refine r_iconst C.1 1 (dk_at dk_Real_init_1 27 rfl) ?_
  refine r_iconst C.1 3 (dk_at dk_Real_init_1 28 rfl) ?_
  refine r_iastA (n := 4) C 268 rfl rfl (k := 1) rfl (vp_lit rfl) (dk_at dk_Real_init_1 29 rfl) ?_
  replace hN := hN.si 268 1 3
  refine r_aload_n C.1 0 rfl (dk_at dk_Real_init_1 30 rfl) ?_
  refine r_getS C fw_Real_27 ha rfl (dk_at dk_Real_init_1 31 rfl) ?_
  refine r_iconst C.1 2 (dk_at dk_Real_init_1 32 rfl) ?_
  refine r_bipush C.1 20 (dk_at dk_Real_init_1 33 rfl) ?_
  refine r_iastA (n := 4) C 268 rfl rfl (k := 2) rfl (vp_lit rfl) (dk_at dk_Real_init_1 34 rfl) ?_
  replace hN := hN.si 268 2 20
  exact r_mvret C rfl hsz ⟨Nat.le_of_ble_eq_true rfl, Nat.le_of_ble_eq_true rfl⟩ ⟨q1, q2, q3, q4, q5, q6, q7, q8, q9, q10, q11, q12, q13, q14, rfl, hN⟩ (dk_at dk_Real_init_1 35 rfl)
