/-! ===== .. the model (by program: wip/whole/mk0.py) ===== -/
theorem fl_W_M {w : WO} {q1 q2 q3 q4 q5 q6 q7 q8 q9 q10 q11 q12 q13 q14 q15 q16 q17 q18 q19 q20 q21 q22 q23 q24 : Nat} (h : wFl w) : wFl (W_M w q1 q2 q3 q4 q5 q6 q7 q8 q9 q10 q11 q12 q13 q14 q15 q16 q17 q18 q19 q20 q21 q22 q23 q24) := by
  unfold W_M
  exact fl_s (fl_a (fl_a (fl_a (fl_a (fl_a (fl_a (fl_a (fl_a (fl_a (fl_a (fl_a (fl_a (fl_a (fl_a (fl_a (fl_a (fl_a (fl_a (fl_a (fl_a (fl_a (fl_a (fl_a (fl_a (h)))))))))))))))))))))))))
theorem ad_W_M_3 {w : WO} {q1 q2 q3 q4 q5 q6 q7 q8 q9 q10 q11 q12 q13 q14 q15 q16 q17 q18 q19 q20 q21 q22 q23 q24 : Nat} : wAd (W_M w q1 q2 q3 q4 q5 q6 q7 q8 q9 q10 q11 q12 q13 q14 q15 q16 q17 q18 q19 q20 q21 q22 q23 q24) 3 = q1 := by
  unfold W_M
  exact ad_s (ad_a rfl (ad_a rfl (ad_a rfl (ad_a rfl (ad_a rfl (ad_a rfl (ad_a rfl (ad_a rfl (ad_a rfl (ad_a rfl (ad_a rfl (ad_a rfl (ad_a rfl (ad_a rfl (ad_a rfl (ad_a rfl (ad_a rfl (ad_a rfl (ad_a rfl (ad_a rfl (ad_a rfl (ad_a rfl (ad_a rfl (wAd_ae))))))))))))))))))))))))
theorem ad_W_M_4 {w : WO} {q1 q2 q3 q4 q5 q6 q7 q8 q9 q10 q11 q12 q13 q14 q15 q16 q17 q18 q19 q20 q21 q22 q23 q24 : Nat} : wAd (W_M w q1 q2 q3 q4 q5 q6 q7 q8 q9 q10 q11 q12 q13 q14 q15 q16 q17 q18 q19 q20 q21 q22 q23 q24) 4 = q2 := by
  unfold W_M
  exact ad_s (ad_a rfl (ad_a rfl (ad_a rfl (ad_a rfl (ad_a rfl (ad_a rfl (ad_a rfl (ad_a rfl (ad_a rfl (ad_a rfl (ad_a rfl (ad_a rfl (ad_a rfl (ad_a rfl (ad_a rfl (ad_a rfl (ad_a rfl (ad_a rfl (ad_a rfl (ad_a rfl (ad_a rfl (ad_a rfl (wAd_ae)))))))))))))))))))))))
theorem ad_W_M_5 {w : WO} {q1 q2 q3 q4 q5 q6 q7 q8 q9 q10 q11 q12 q13 q14 q15 q16 q17 q18 q19 q20 q21 q22 q23 q24 : Nat} : wAd (W_M w q1 q2 q3 q4 q5 q6 q7 q8 q9 q10 q11 q12 q13 q14 q15 q16 q17 q18 q19 q20 q21 q22 q23 q24) 5 = q3 := by
  unfold W_M
  exact ad_s (ad_a rfl (ad_a rfl (ad_a rfl (ad_a rfl (ad_a rfl (ad_a rfl (ad_a rfl (ad_a rfl (ad_a rfl (ad_a rfl (ad_a rfl (ad_a rfl (ad_a rfl (ad_a rfl (ad_a rfl (ad_a rfl (ad_a rfl (ad_a rfl (ad_a rfl (ad_a rfl (ad_a rfl (wAd_ae))))))))))))))))))))))
theorem ad_W_M_6 {w : WO} {q1 q2 q3 q4 q5 q6 q7 q8 q9 q10 q11 q12 q13 q14 q15 q16 q17 q18 q19 q20 q21 q22 q23 q24 : Nat} : wAd (W_M w q1 q2 q3 q4 q5 q6 q7 q8 q9 q10 q11 q12 q13 q14 q15 q16 q17 q18 q19 q20 q21 q22 q23 q24) 6 = q4 := by
  unfold W_M
  exact ad_s (ad_a rfl (ad_a rfl (ad_a rfl (ad_a rfl (ad_a rfl (ad_a rfl (ad_a rfl (ad_a rfl (ad_a rfl (ad_a rfl (ad_a rfl (ad_a rfl (ad_a rfl (ad_a rfl (ad_a rfl (ad_a rfl (ad_a rfl (ad_a rfl (ad_a rfl (ad_a rfl (wAd_ae)))))))))))))))))))))
theorem ad_W_M_8 {w : WO} {q1 q2 q3 q4 q5 q6 q7 q8 q9 q10 q11 q12 q13 q14 q15 q16 q17 q18 q19 q20 q21 q22 q23 q24 : Nat} : wAd (W_M w q1 q2 q3 q4 q5 q6 q7 q8 q9 q10 q11 q12 q13 q14 q15 q16 q17 q18 q19 q20 q21 q22 q23 q24) 8 = q5 := by
  unfold W_M
  exact ad_s (ad_a rfl (ad_a rfl (ad_a rfl (ad_a rfl (ad_a rfl (ad_a rfl (ad_a rfl (ad_a rfl (ad_a rfl (ad_a rfl (ad_a rfl (ad_a rfl (ad_a rfl (ad_a rfl (ad_a rfl (ad_a rfl (ad_a rfl (ad_a rfl (ad_a rfl (wAd_ae))))))))))))))))))))
theorem ad_W_M_12 {w : WO} {q1 q2 q3 q4 q5 q6 q7 q8 q9 q10 q11 q12 q13 q14 q15 q16 q17 q18 q19 q20 q21 q22 q23 q24 : Nat} : wAd (W_M w q1 q2 q3 q4 q5 q6 q7 q8 q9 q10 q11 q12 q13 q14 q15 q16 q17 q18 q19 q20 q21 q22 q23 q24) 12 = q6 := by
  unfold W_M
  exact ad_s (ad_a rfl (ad_a rfl (ad_a rfl (ad_a rfl (ad_a rfl (ad_a rfl (ad_a rfl (ad_a rfl (ad_a rfl (ad_a rfl (ad_a rfl (ad_a rfl (ad_a rfl (ad_a rfl (ad_a rfl (ad_a rfl (ad_a rfl (ad_a rfl (wAd_ae)))))))))))))))))))
theorem ad_W_M_13 {w : WO} {q1 q2 q3 q4 q5 q6 q7 q8 q9 q10 q11 q12 q13 q14 q15 q16 q17 q18 q19 q20 q21 q22 q23 q24 : Nat} : wAd (W_M w q1 q2 q3 q4 q5 q6 q7 q8 q9 q10 q11 q12 q13 q14 q15 q16 q17 q18 q19 q20 q21 q22 q23 q24) 13 = q7 := by
  unfold W_M
  exact ad_s (ad_a rfl (ad_a rfl (ad_a rfl (ad_a rfl (ad_a rfl (ad_a rfl (ad_a rfl (ad_a rfl (ad_a rfl (ad_a rfl (ad_a rfl (ad_a rfl (ad_a rfl (ad_a rfl (ad_a rfl (ad_a rfl (ad_a rfl (wAd_ae))))))))))))))))))
theorem ad_W_M_16 {w : WO} {q1 q2 q3 q4 q5 q6 q7 q8 q9 q10 q11 q12 q13 q14 q15 q16 q17 q18 q19 q20 q21 q22 q23 q24 : Nat} : wAd (W_M w q1 q2 q3 q4 q5 q6 q7 q8 q9 q10 q11 q12 q13 q14 q15 q16 q17 q18 q19 q20 q21 q22 q23 q24) 16 = q8 := by
  unfold W_M
  exact ad_s (ad_a rfl (ad_a rfl (ad_a rfl (ad_a rfl (ad_a rfl (ad_a rfl (ad_a rfl (ad_a rfl (ad_a rfl (ad_a rfl (ad_a rfl (ad_a rfl (ad_a rfl (ad_a rfl (ad_a rfl (ad_a rfl (wAd_ae)))))))))))))))))
theorem ad_W_M_17 {w : WO} {q1 q2 q3 q4 q5 q6 q7 q8 q9 q10 q11 q12 q13 q14 q15 q16 q17 q18 q19 q20 q21 q22 q23 q24 : Nat} : wAd (W_M w q1 q2 q3 q4 q5 q6 q7 q8 q9 q10 q11 q12 q13 q14 q15 q16 q17 q18 q19 q20 q21 q22 q23 q24) 17 = q9 := by
  unfold W_M
  exact ad_s (ad_a rfl (ad_a rfl (ad_a rfl (ad_a rfl (ad_a rfl (ad_a rfl (ad_a rfl (ad_a rfl (ad_a rfl (ad_a rfl (ad_a rfl (ad_a rfl (ad_a rfl (ad_a rfl (ad_a rfl (wAd_ae))))))))))))))))
theorem ad_W_M_18 {w : WO} {q1 q2 q3 q4 q5 q6 q7 q8 q9 q10 q11 q12 q13 q14 q15 q16 q17 q18 q19 q20 q21 q22 q23 q24 : Nat} : wAd (W_M w q1 q2 q3 q4 q5 q6 q7 q8 q9 q10 q11 q12 q13 q14 q15 q16 q17 q18 q19 q20 q21 q22 q23 q24) 18 = q10 := by
  unfold W_M
  exact ad_s (ad_a rfl (ad_a rfl (ad_a rfl (ad_a rfl (ad_a rfl (ad_a rfl (ad_a rfl (ad_a rfl (ad_a rfl (ad_a rfl (ad_a rfl (ad_a rfl (ad_a rfl (ad_a rfl (wAd_ae)))))))))))))))
theorem ad_W_M_26 {w : WO} {q1 q2 q3 q4 q5 q6 q7 q8 q9 q10 q11 q12 q13 q14 q15 q16 q17 q18 q19 q20 q21 q22 q23 q24 : Nat} : wAd (W_M w q1 q2 q3 q4 q5 q6 q7 q8 q9 q10 q11 q12 q13 q14 q15 q16 q17 q18 q19 q20 q21 q22 q23 q24) 26 = q11 := by
  unfold W_M
  exact ad_s (ad_a rfl (ad_a rfl (ad_a rfl (ad_a rfl (ad_a rfl (ad_a rfl (ad_a rfl (ad_a rfl (ad_a rfl (ad_a rfl (ad_a rfl (ad_a rfl (ad_a rfl (wAd_ae))))))))))))))
theorem ad_W_M_27 {w : WO} {q1 q2 q3 q4 q5 q6 q7 q8 q9 q10 q11 q12 q13 q14 q15 q16 q17 q18 q19 q20 q21 q22 q23 q24 : Nat} : wAd (W_M w q1 q2 q3 q4 q5 q6 q7 q8 q9 q10 q11 q12 q13 q14 q15 q16 q17 q18 q19 q20 q21 q22 q23 q24) 27 = q12 := by
  unfold W_M
  exact ad_s (ad_a rfl (ad_a rfl (ad_a rfl (ad_a rfl (ad_a rfl (ad_a rfl (ad_a rfl (ad_a rfl (ad_a rfl (ad_a rfl (ad_a rfl (ad_a rfl (wAd_ae)))))))))))))
theorem ad_W_M_28 {w : WO} {q1 q2 q3 q4 q5 q6 q7 q8 q9 q10 q11 q12 q13 q14 q15 q16 q17 q18 q19 q20 q21 q22 q23 q24 : Nat} : wAd (W_M w q1 q2 q3 q4 q5 q6 q7 q8 q9 q10 q11 q12 q13 q14 q15 q16 q17 q18 q19 q20 q21 q22 q23 q24) 28 = q13 := by
  unfold W_M
  exact ad_s (ad_a rfl (ad_a rfl (ad_a rfl (ad_a rfl (ad_a rfl (ad_a rfl (ad_a rfl (ad_a rfl (ad_a rfl (ad_a rfl (ad_a rfl (wAd_ae))))))))))))
theorem ad_W_M_29 {w : WO} {q1 q2 q3 q4 q5 q6 q7 q8 q9 q10 q11 q12 q13 q14 q15 q16 q17 q18 q19 q20 q21 q22 q23 q24 : Nat} : wAd (W_M w q1 q2 q3 q4 q5 q6 q7 q8 q9 q10 q11 q12 q13 q14 q15 q16 q17 q18 q19 q20 q21 q22 q23 q24) 29 = q14 := by
  unfold W_M
  exact ad_s (ad_a rfl (ad_a rfl (ad_a rfl (ad_a rfl (ad_a rfl (ad_a rfl (ad_a rfl (ad_a rfl (ad_a rfl (ad_a rfl (wAd_ae)))))))))))
theorem ad_W_M_31 {w : WO} {q1 q2 q3 q4 q5 q6 q7 q8 q9 q10 q11 q12 q13 q14 q15 q16 q17 q18 q19 q20 q21 q22 q23 q24 : Nat} : wAd (W_M w q1 q2 q3 q4 q5 q6 q7 q8 q9 q10 q11 q12 q13 q14 q15 q16 q17 q18 q19 q20 q21 q22 q23 q24) 31 = q15 := by
  unfold W_M
  exact ad_s (ad_a rfl (ad_a rfl (ad_a rfl (ad_a rfl (ad_a rfl (ad_a rfl (ad_a rfl (ad_a rfl (ad_a rfl (wAd_ae))))))))))
theorem ad_W_M_32 {w : WO} {q1 q2 q3 q4 q5 q6 q7 q8 q9 q10 q11 q12 q13 q14 q15 q16 q17 q18 q19 q20 q21 q22 q23 q24 : Nat} : wAd (W_M w q1 q2 q3 q4 q5 q6 q7 q8 q9 q10 q11 q12 q13 q14 q15 q16 q17 q18 q19 q20 q21 q22 q23 q24) 32 = q16 := by
  unfold W_M
  exact ad_s (ad_a rfl (ad_a rfl (ad_a rfl (ad_a rfl (ad_a rfl (ad_a rfl (ad_a rfl (ad_a rfl (wAd_ae)))))))))
theorem ad_W_M_39 {w : WO} {q1 q2 q3 q4 q5 q6 q7 q8 q9 q10 q11 q12 q13 q14 q15 q16 q17 q18 q19 q20 q21 q22 q23 q24 : Nat} : wAd (W_M w q1 q2 q3 q4 q5 q6 q7 q8 q9 q10 q11 q12 q13 q14 q15 q16 q17 q18 q19 q20 q21 q22 q23 q24) 39 = q17 := by
  unfold W_M
  exact ad_s (ad_a rfl (ad_a rfl (ad_a rfl (ad_a rfl (ad_a rfl (ad_a rfl (ad_a rfl (wAd_ae))))))))
theorem ad_W_M_40 {w : WO} {q1 q2 q3 q4 q5 q6 q7 q8 q9 q10 q11 q12 q13 q14 q15 q16 q17 q18 q19 q20 q21 q22 q23 q24 : Nat} : wAd (W_M w q1 q2 q3 q4 q5 q6 q7 q8 q9 q10 q11 q12 q13 q14 q15 q16 q17 q18 q19 q20 q21 q22 q23 q24) 40 = q18 := by
  unfold W_M
  exact ad_s (ad_a rfl (ad_a rfl (ad_a rfl (ad_a rfl (ad_a rfl (ad_a rfl (wAd_ae)))))))
theorem ad_W_M_42 {w : WO} {q1 q2 q3 q4 q5 q6 q7 q8 q9 q10 q11 q12 q13 q14 q15 q16 q17 q18 q19 q20 q21 q22 q23 q24 : Nat} : wAd (W_M w q1 q2 q3 q4 q5 q6 q7 q8 q9 q10 q11 q12 q13 q14 q15 q16 q17 q18 q19 q20 q21 q22 q23 q24) 42 = q19 := by
  unfold W_M
  exact ad_s (ad_a rfl (ad_a rfl (ad_a rfl (ad_a rfl (ad_a rfl (wAd_ae))))))
theorem ad_W_M_43 {w : WO} {q1 q2 q3 q4 q5 q6 q7 q8 q9 q10 q11 q12 q13 q14 q15 q16 q17 q18 q19 q20 q21 q22 q23 q24 : Nat} : wAd (W_M w q1 q2 q3 q4 q5 q6 q7 q8 q9 q10 q11 q12 q13 q14 q15 q16 q17 q18 q19 q20 q21 q22 q23 q24) 43 = q20 := by
  unfold W_M
  exact ad_s (ad_a rfl (ad_a rfl (ad_a rfl (ad_a rfl (wAd_ae)))))
theorem ad_W_M_44 {w : WO} {q1 q2 q3 q4 q5 q6 q7 q8 q9 q10 q11 q12 q13 q14 q15 q16 q17 q18 q19 q20 q21 q22 q23 q24 : Nat} : wAd (W_M w q1 q2 q3 q4 q5 q6 q7 q8 q9 q10 q11 q12 q13 q14 q15 q16 q17 q18 q19 q20 q21 q22 q23 q24) 44 = q21 := by
  unfold W_M
  exact ad_s (ad_a rfl (ad_a rfl (ad_a rfl (wAd_ae))))
theorem ad_W_M_53 {w : WO} {q1 q2 q3 q4 q5 q6 q7 q8 q9 q10 q11 q12 q13 q14 q15 q16 q17 q18 q19 q20 q21 q22 q23 q24 : Nat} : wAd (W_M w q1 q2 q3 q4 q5 q6 q7 q8 q9 q10 q11 q12 q13 q14 q15 q16 q17 q18 q19 q20 q21 q22 q23 q24) 53 = q22 := by
  unfold W_M
  exact ad_s (ad_a rfl (ad_a rfl (wAd_ae)))
theorem ad_W_M_54 {w : WO} {q1 q2 q3 q4 q5 q6 q7 q8 q9 q10 q11 q12 q13 q14 q15 q16 q17 q18 q19 q20 q21 q22 q23 q24 : Nat} : wAd (W_M w q1 q2 q3 q4 q5 q6 q7 q8 q9 q10 q11 q12 q13 q14 q15 q16 q17 q18 q19 q20 q21 q22 q23 q24) 54 = q23 := by
  unfold W_M
  exact ad_s (ad_a rfl (wAd_ae))
theorem ad_W_M_55 {w : WO} {q1 q2 q3 q4 q5 q6 q7 q8 q9 q10 q11 q12 q13 q14 q15 q16 q17 q18 q19 q20 q21 q22 q23 q24 : Nat} : wAd (W_M w q1 q2 q3 q4 q5 q6 q7 q8 q9 q10 q11 q12 q13 q14 q15 q16 q17 q18 q19 q20 q21 q22 q23 q24) 55 = q24 := by
  unfold W_M
  exact ad_s (wAd_ae)
theorem ad_W_M_0 {w : WO} {q1 q2 q3 q4 q5 q6 q7 q8 q9 q10 q11 q12 q13 q14 q15 q16 q17 q18 q19 q20 q21 q22 q23 q24 : Nat} : wAd (W_M w q1 q2 q3 q4 q5 q6 q7 q8 q9 q10 q11 q12 q13 q14 q15 q16 q17 q18 q19 q20 q21 q22 q23 q24) 0 = wAd w 0 := by
  unfold W_M
  exact ad_s (ad_a rfl (ad_a rfl (ad_a rfl (ad_a rfl (ad_a rfl (ad_a rfl (ad_a rfl (ad_a rfl (ad_a rfl (ad_a rfl (ad_a rfl (ad_a rfl (ad_a rfl (ad_a rfl (ad_a rfl (ad_a rfl (ad_a rfl (ad_a rfl (ad_a rfl (ad_a rfl (ad_a rfl (ad_a rfl (ad_a rfl (ad_a rfl (rfl)))))))))))))))))))))))))
theorem ly_W_M_0 {w : WO} {q1 q2 q3 q4 q5 q6 q7 q8 q9 q10 q11 q12 q13 q14 q15 q16 q17 q18 q19 q20 q21 q22 q23 q24 : Nat} : wLy (W_M w q1 q2 q3 q4 q5 q6 q7 q8 q9 q10 q11 q12 q13 q14 q15 q16 q17 q18 q19 q20 q21 q22 q23 q24) 0 = some (lR 11 [.int 0, .int 0, .ref (wAd (W_M w q1 q2 q3 q4 q5 q6 q7 q8 q9 q10 q11 q12 q13 q14 q15 q16 q17 q18 q19 q20 q21 q22 q23 q24) 3), .ref (wAd (W_M w q1 q2 q3 q4 q5 q6 q7 q8 q9 q10 q11 q12 q13 q14 q15 q16 q17 q18 q19 q20 q21 q22 q23 q24) 4), .ref (wAd (W_M w q1 q2 q3 q4 q5 q6 q7 q8 q9 q10 q11 q12 q13 q14 q15 q16 q17 q18 q19 q20 q21 q22 q23 q24) 5), .ref (wAd (W_M w q1 q2 q3 q4 q5 q6 q7 q8 q9 q10 q11 q12 q13 q14 q15 q16 q17 q18 q19 q20 q21 q22 q23 q24) 6), .int 0, .ref (wAd (W_M w q1 q2 q3 q4 q5 q6 q7 q8 q9 q10 q11 q12 q13 q14 q15 q16 q17 q18 q19 q20 q21 q22 q23 q24) 8), .int 0, .int 0, .int 0, .ref (wAd (W_M w q1 q2 q3 q4 q5 q6 q7 q8 q9 q10 q11 q12 q13 q14 q15 q16 q17 q18 q19 q20 q21 q22 q23 q24) 12), .ref (wAd (W_M w q1 q2 q3 q4 q5 q6 q7 q8 q9 q10 q11 q12 q13 q14 q15 q16 q17 q18 q19 q20 q21 q22 q23 q24) 13), .int 0, .int (-1), .ref (wAd (W_M w q1 q2 q3 q4 q5 q6 q7 q8 q9 q10 q11 q12 q13 q14 q15 q16 q17 q18 q19 q20 q21 q22 q23 q24) 16), .ref (wAd (W_M w q1 q2 q3 q4 q5 q6 q7 q8 q9 q10 q11 q12 q13 q14 q15 q16 q17 q18 q19 q20 q21 q22 q23 q24) 17), .ref (wAd (W_M w q1 q2 q3 q4 q5 q6 q7 q8 q9 q10 q11 q12 q13 q14 q15 q16 q17 q18 q19 q20 q21 q22 q23 q24) 18), .int 0, .int 0, .int 0, .int 0, .int 0, .int 0, .int 0, .ref (wAd (W_M w q1 q2 q3 q4 q5 q6 q7 q8 q9 q10 q11 q12 q13 q14 q15 q16 q17 q18 q19 q20 q21 q22 q23 q24) 26), .ref (wAd (W_M w q1 q2 q3 q4 q5 q6 q7 q8 q9 q10 q11 q12 q13 q14 q15 q16 q17 q18 q19 q20 q21 q22 q23 q24) 27), .ref (wAd (W_M w q1 q2 q3 q4 q5 q6 q7 q8 q9 q10 q11 q12 q13 q14 q15 q16 q17 q18 q19 q20 q21 q22 q23 q24) 28), .ref (wAd (W_M w q1 q2 q3 q4 q5 q6 q7 q8 q9 q10 q11 q12 q13 q14 q15 q16 q17 q18 q19 q20 q21 q22 q23 q24) 29), .int (-1), .ref (wAd (W_M w q1 q2 q3 q4 q5 q6 q7 q8 q9 q10 q11 q12 q13 q14 q15 q16 q17 q18 q19 q20 q21 q22 q23 q24) 31), .ref (wAd (W_M w q1 q2 q3 q4 q5 q6 q7 q8 q9 q10 q11 q12 q13 q14 q15 q16 q17 q18 q19 q20 q21 q22 q23 q24) 32), .int 0, .int 0, .int 0, .int 0, .int 0, .int 0, .ref (wAd (W_M w q1 q2 q3 q4 q5 q6 q7 q8 q9 q10 q11 q12 q13 q14 q15 q16 q17 q18 q19 q20 q21 q22 q23 q24) 39), .ref (wAd (W_M w q1 q2 q3 q4 q5 q6 q7 q8 q9 q10 q11 q12 q13 q14 q15 q16 q17 q18 q19 q20 q21 q22 q23 q24) 40), .int 0, .ref (wAd (W_M w q1 q2 q3 q4 q5 q6 q7 q8 q9 q10 q11 q12 q13 q14 q15 q16 q17 q18 q19 q20 q21 q22 q23 q24) 42), .ref (wAd (W_M w q1 q2 q3 q4 q5 q6 q7 q8 q9 q10 q11 q12 q13 q14 q15 q16 q17 q18 q19 q20 q21 q22 q23 q24) 43), .ref (wAd (W_M w q1 q2 q3 q4 q5 q6 q7 q8 q9 q10 q11 q12 q13 q14 q15 q16 q17 q18 q19 q20 q21 q22 q23 q24) 44), .int (-1), .int 0, .int 0, .int 0, .int 0, .int 0, .int 0, .int 0, .ref (wAd (W_M w q1 q2 q3 q4 q5 q6 q7 q8 q9 q10 q11 q12 q13 q14 q15 q16 q17 q18 q19 q20 q21 q22 q23 q24) 53), .ref (wAd (W_M w q1 q2 q3 q4 q5 q6 q7 q8 q9 q10 q11 q12 q13 q14 q15 q16 q17 q18 q19 q20 q21 q22 q23 q24) 54), .ref (wAd (W_M w q1 q2 q3 q4 q5 q6 q7 q8 q9 q10 q11 q12 q13 q14 q15 q16 q17 q18 q19 q20 q21 q22 q23 q24) 55), .int 0, .int 0]) := by rw [ad_W_M_3, ad_W_M_4, ad_W_M_5, ad_W_M_6, ad_W_M_8, ad_W_M_12, ad_W_M_13, ad_W_M_16, ad_W_M_17, ad_W_M_18, ad_W_M_26, ad_W_M_27, ad_W_M_28, ad_W_M_29, ad_W_M_31, ad_W_M_32, ad_W_M_39, ad_W_M_40, ad_W_M_42, ad_W_M_43, ad_W_M_44, ad_W_M_53, ad_W_M_54, ad_W_M_55]; unfold W_M; exact wLy_se
theorem ly_W_M_3 {w : WO} {q1 q2 q3 q4 q5 q6 q7 q8 q9 q10 q11 q12 q13 q14 q15 q16 q17 q18 q19 q20 q21 q22 q23 q24 : Nat} : wLy (W_M w q1 q2 q3 q4 q5 q6 q7 q8 q9 q10 q11 q12 q13 q14 q15 q16 q17 q18 q19 q20 q21 q22 q23 q24) 3 = some (lI 0 7) := by unfold W_M; exact ly_s rfl (ly_a rfl (ly_a rfl (ly_a rfl (ly_a rfl (ly_a rfl (ly_a rfl (ly_a rfl (ly_a rfl (ly_a rfl (ly_a rfl (ly_a rfl (ly_a rfl (ly_a rfl (ly_a rfl (ly_a rfl (ly_a rfl (ly_a rfl (ly_a rfl (ly_a rfl (ly_a rfl (ly_a rfl (ly_a rfl (ly_a rfl (wLy_ae))))))))))))))))))))))))
theorem ly_W_M_4 {w : WO} {q1 q2 q3 q4 q5 q6 q7 q8 q9 q10 q11 q12 q13 q14 q15 q16 q17 q18 q19 q20 q21 q22 q23 q24 : Nat} : wLy (W_M w q1 q2 q3 q4 q5 q6 q7 q8 q9 q10 q11 q12 q13 q14 q15 q16 q17 q18 q19 q20 q21 q22 q23 q24) 4 = some (lI 0 6012) := by unfold W_M; exact ly_s rfl (ly_a rfl (ly_a rfl (ly_a rfl (ly_a rfl (ly_a rfl (ly_a rfl (ly_a rfl (ly_a rfl (ly_a rfl (ly_a rfl (ly_a rfl (ly_a rfl (ly_a rfl (ly_a rfl (ly_a rfl (ly_a rfl (ly_a rfl (ly_a rfl (ly_a rfl (ly_a rfl (ly_a rfl (ly_a rfl (wLy_ae)))))))))))))))))))))))
theorem ly_W_M_5 {w : WO} {q1 q2 q3 q4 q5 q6 q7 q8 q9 q10 q11 q12 q13 q14 q15 q16 q17 q18 q19 q20 q21 q22 q23 q24 : Nat} : wLy (W_M w q1 q2 q3 q4 q5 q6 q7 q8 q9 q10 q11 q12 q13 q14 q15 q16 q17 q18 q19 q20 q21 q22 q23 q24) 5 = some (lI 0 12024) := by unfold W_M; exact ly_s rfl (ly_a rfl (ly_a rfl (ly_a rfl (ly_a rfl (ly_a rfl (ly_a rfl (ly_a rfl (ly_a rfl (ly_a rfl (ly_a rfl (ly_a rfl (ly_a rfl (ly_a rfl (ly_a rfl (ly_a rfl (ly_a rfl (ly_a rfl (ly_a rfl (ly_a rfl (ly_a rfl (ly_a rfl (wLy_ae))))))))))))))))))))))
theorem ly_W_M_6 {w : WO} {q1 q2 q3 q4 q5 q6 q7 q8 q9 q10 q11 q12 q13 q14 q15 q16 q17 q18 q19 q20 q21 q22 q23 q24 : Nat} : wLy (W_M w q1 q2 q3 q4 q5 q6 q7 q8 q9 q10 q11 q12 q13 q14 q15 q16 q17 q18 q19 q20 q21 q22 q23 q24) 6 = some (lI 2 2) := by unfold W_M; exact ly_s rfl (ly_a rfl (ly_a rfl (ly_a rfl (ly_a rfl (ly_a rfl (ly_a rfl (ly_a rfl (ly_a rfl (ly_a rfl (ly_a rfl (ly_a rfl (ly_a rfl (ly_a rfl (ly_a rfl (ly_a rfl (ly_a rfl (ly_a rfl (ly_a rfl (ly_a rfl (ly_a rfl (wLy_ae)))))))))))))))))))))
theorem ly_W_M_8 {w : WO} {q1 q2 q3 q4 q5 q6 q7 q8 q9 q10 q11 q12 q13 q14 q15 q16 q17 q18 q19 q20 q21 q22 q23 q24 : Nat} : wLy (W_M w q1 q2 q3 q4 q5 q6 q7 q8 q9 q10 q11 q12 q13 q14 q15 q16 q17 q18 q19 q20 q21 q22 q23 q24) 8 = some (lI 1 129) := by unfold W_M; exact ly_s rfl (ly_a rfl (ly_a rfl (ly_a rfl (ly_a rfl (ly_a rfl (ly_a rfl (ly_a rfl (ly_a rfl (ly_a rfl (ly_a rfl (ly_a rfl (ly_a rfl (ly_a rfl (ly_a rfl (ly_a rfl (ly_a rfl (ly_a rfl (ly_a rfl (ly_a rfl (wLy_ae))))))))))))))))))))
theorem ly_W_M_12 {w : WO} {q1 q2 q3 q4 q5 q6 q7 q8 q9 q10 q11 q12 q13 q14 q15 q16 q17 q18 q19 q20 q21 q22 q23 q24 : Nat} : wLy (W_M w q1 q2 q3 q4 q5 q6 q7 q8 q9 q10 q11 q12 q13 q14 q15 q16 q17 q18 q19 q20 q21 q22 q23 q24) 12 = some (lI 1 400) := by unfold W_M; exact ly_s rfl (ly_a rfl (ly_a rfl (ly_a rfl (ly_a rfl (ly_a rfl (ly_a rfl (ly_a rfl (ly_a rfl (ly_a rfl (ly_a rfl (ly_a rfl (ly_a rfl (ly_a rfl (ly_a rfl (ly_a rfl (ly_a rfl (ly_a rfl (ly_a rfl (wLy_ae)))))))))))))))))))
theorem ly_W_M_13 {w : WO} {q1 q2 q3 q4 q5 q6 q7 q8 q9 q10 q11 q12 q13 q14 q15 q16 q17 q18 q19 q20 q21 q22 q23 q24 : Nat} : wLy (W_M w q1 q2 q3 q4 q5 q6 q7 q8 q9 q10 q11 q12 q13 q14 q15 q16 q17 q18 q19 q20 q21 q22 q23 q24) 13 = some (lI 0 5) := by unfold W_M; exact ly_s rfl (ly_a rfl (ly_a rfl (ly_a rfl (ly_a rfl (ly_a rfl (ly_a rfl (ly_a rfl (ly_a rfl (ly_a rfl (ly_a rfl (ly_a rfl (ly_a rfl (ly_a rfl (ly_a rfl (ly_a rfl (ly_a rfl (ly_a rfl (wLy_ae))))))))))))))))))
theorem ly_W_M_16 {w : WO} {q1 q2 q3 q4 q5 q6 q7 q8 q9 q10 q11 q12 q13 q14 q15 q16 q17 q18 q19 q20 q21 q22 q23 q24 : Nat} : wLy (W_M w q1 q2 q3 q4 q5 q6 q7 q8 q9 q10 q11 q12 q13 q14 q15 q16 q17 q18 q19 q20 q21 q22 q23 q24) 16 = some (lI 0 401) := by unfold W_M; exact ly_s rfl (ly_a rfl (ly_a rfl (ly_a rfl (ly_a rfl (ly_a rfl (ly_a rfl (ly_a rfl (ly_a rfl (ly_a rfl (ly_a rfl (ly_a rfl (ly_a rfl (ly_a rfl (ly_a rfl (ly_a rfl (ly_a rfl (wLy_ae)))))))))))))))))
theorem ly_W_M_17 {w : WO} {q1 q2 q3 q4 q5 q6 q7 q8 q9 q10 q11 q12 q13 q14 q15 q16 q17 q18 q19 q20 q21 q22 q23 q24 : Nat} : wLy (W_M w q1 q2 q3 q4 q5 q6 q7 q8 q9 q10 q11 q12 q13 q14 q15 q16 q17 q18 q19 q20 q21 q22 q23 q24) 17 = some (lI 0 401) := by unfold W_M; exact ly_s rfl (ly_a rfl (ly_a rfl (ly_a rfl (ly_a rfl (ly_a rfl (ly_a rfl (ly_a rfl (ly_a rfl (ly_a rfl (ly_a rfl (ly_a rfl (ly_a rfl (ly_a rfl (ly_a rfl (ly_a rfl (wLy_ae))))))))))))))))
theorem ly_W_M_18 {w : WO} {q1 q2 q3 q4 q5 q6 q7 q8 q9 q10 q11 q12 q13 q14 q15 q16 q17 q18 q19 q20 q21 q22 q23 q24 : Nat} : wLy (W_M w q1 q2 q3 q4 q5 q6 q7 q8 q9 q10 q11 q12 q13 q14 q15 q16 q17 q18 q19 q20 q21 q22 q23 q24) 18 = some (lI 0 401) := by unfold W_M; exact ly_s rfl (ly_a rfl (ly_a rfl (ly_a rfl (ly_a rfl (ly_a rfl (ly_a rfl (ly_a rfl (ly_a rfl (ly_a rfl (ly_a rfl (ly_a rfl (ly_a rfl (ly_a rfl (ly_a rfl (wLy_ae)))))))))))))))
theorem ly_W_M_26 {w : WO} {q1 q2 q3 q4 q5 q6 q7 q8 q9 q10 q11 q12 q13 q14 q15 q16 q17 q18 q19 q20 q21 q22 q23 q24 : Nat} : wLy (W_M w q1 q2 q3 q4 q5 q6 q7 q8 q9 q10 q11 q12 q13 q14 q15 q16 q17 q18 q19 q20 q21 q22 q23 q24) 26 = some (lI 0 8) := by unfold W_M; exact ly_s rfl (ly_a rfl (ly_a rfl (ly_a rfl (ly_a rfl (ly_a rfl (ly_a rfl (ly_a rfl (ly_a rfl (ly_a rfl (ly_a rfl (ly_a rfl (ly_a rfl (ly_a rfl (wLy_ae))))))))))))))
theorem ly_W_M_27 {w : WO} {q1 q2 q3 q4 q5 q6 q7 q8 q9 q10 q11 q12 q13 q14 q15 q16 q17 q18 q19 q20 q21 q22 q23 q24 : Nat} : wLy (W_M w q1 q2 q3 q4 q5 q6 q7 q8 q9 q10 q11 q12 q13 q14 q15 q16 q17 q18 q19 q20 q21 q22 q23 q24) 27 = some (lI 0 8) := by unfold W_M; exact ly_s rfl (ly_a rfl (ly_a rfl (ly_a rfl (ly_a rfl (ly_a rfl (ly_a rfl (ly_a rfl (ly_a rfl (ly_a rfl (ly_a rfl (ly_a rfl (ly_a rfl (wLy_ae)))))))))))))
theorem ly_W_M_28 {w : WO} {q1 q2 q3 q4 q5 q6 q7 q8 q9 q10 q11 q12 q13 q14 q15 q16 q17 q18 q19 q20 q21 q22 q23 q24 : Nat} : wLy (W_M w q1 q2 q3 q4 q5 q6 q7 q8 q9 q10 q11 q12 q13 q14 q15 q16 q17 q18 q19 q20 q21 q22 q23 q24) 28 = some (lI 0 4) := by unfold W_M; exact ly_s rfl (ly_a rfl (ly_a rfl (ly_a rfl (ly_a rfl (ly_a rfl (ly_a rfl (ly_a rfl (ly_a rfl (ly_a rfl (ly_a rfl (ly_a rfl (wLy_ae))))))))))))
theorem ly_W_M_29 {w : WO} {q1 q2 q3 q4 q5 q6 q7 q8 q9 q10 q11 q12 q13 q14 q15 q16 q17 q18 q19 q20 q21 q22 q23 q24 : Nat} : wLy (W_M w q1 q2 q3 q4 q5 q6 q7 q8 q9 q10 q11 q12 q13 q14 q15 q16 q17 q18 q19 q20 q21 q22 q23 q24) 29 = some (lI 1 672) := by unfold W_M; exact ly_s rfl (ly_a rfl (ly_a rfl (ly_a rfl (ly_a rfl (ly_a rfl (ly_a rfl (ly_a rfl (ly_a rfl (ly_a rfl (ly_a rfl (wLy_ae)))))))))))
theorem ly_W_M_31 {w : WO} {q1 q2 q3 q4 q5 q6 q7 q8 q9 q10 q11 q12 q13 q14 q15 q16 q17 q18 q19 q20 q21 q22 q23 q24 : Nat} : wLy (W_M w q1 q2 q3 q4 q5 q6 q7 q8 q9 q10 q11 q12 q13 q14 q15 q16 q17 q18 q19 q20 q21 q22 q23 q24) 31 = some (lI 0 5) := by unfold W_M; exact ly_s rfl (ly_a rfl (ly_a rfl (ly_a rfl (ly_a rfl (ly_a rfl (ly_a rfl (ly_a rfl (ly_a rfl (ly_a rfl (wLy_ae))))))))))
theorem ly_W_M_32 {w : WO} {q1 q2 q3 q4 q5 q6 q7 q8 q9 q10 q11 q12 q13 q14 q15 q16 q17 q18 q19 q20 q21 q22 q23 q24 : Nat} : wLy (W_M w q1 q2 q3 q4 q5 q6 q7 q8 q9 q10 q11 q12 q13 q14 q15 q16 q17 q18 q19 q20 q21 q22 q23 q24) 32 = some (lI 0 5) := by unfold W_M; exact ly_s rfl (ly_a rfl (ly_a rfl (ly_a rfl (ly_a rfl (ly_a rfl (ly_a rfl (ly_a rfl (ly_a rfl (wLy_ae)))))))))
theorem ly_W_M_39 {w : WO} {q1 q2 q3 q4 q5 q6 q7 q8 q9 q10 q11 q12 q13 q14 q15 q16 q17 q18 q19 q20 q21 q22 q23 q24 : Nat} : wLy (W_M w q1 q2 q3 q4 q5 q6 q7 q8 q9 q10 q11 q12 q13 q14 q15 q16 q17 q18 q19 q20 q21 q22 q23 q24) 39 = some (lI 0 8) := by unfold W_M; exact ly_s rfl (ly_a rfl (ly_a rfl (ly_a rfl (ly_a rfl (ly_a rfl (ly_a rfl (ly_a rfl (wLy_ae))))))))
theorem ly_W_M_40 {w : WO} {q1 q2 q3 q4 q5 q6 q7 q8 q9 q10 q11 q12 q13 q14 q15 q16 q17 q18 q19 q20 q21 q22 q23 q24 : Nat} : wLy (W_M w q1 q2 q3 q4 q5 q6 q7 q8 q9 q10 q11 q12 q13 q14 q15 q16 q17 q18 q19 q20 q21 q22 q23 q24) 40 = some (lI 0 4) := by unfold W_M; exact ly_s rfl (ly_a rfl (ly_a rfl (ly_a rfl (ly_a rfl (ly_a rfl (ly_a rfl (wLy_ae)))))))
theorem ly_W_M_42 {w : WO} {q1 q2 q3 q4 q5 q6 q7 q8 q9 q10 q11 q12 q13 q14 q15 q16 q17 q18 q19 q20 q21 q22 q23 q24 : Nat} : wLy (W_M w q1 q2 q3 q4 q5 q6 q7 q8 q9 q10 q11 q12 q13 q14 q15 q16 q17 q18 q19 q20 q21 q22 q23 q24) 42 = some (lI 0 8) := by unfold W_M; exact ly_s rfl (ly_a rfl (ly_a rfl (ly_a rfl (ly_a rfl (ly_a rfl (wLy_ae))))))
theorem ly_W_M_43 {w : WO} {q1 q2 q3 q4 q5 q6 q7 q8 q9 q10 q11 q12 q13 q14 q15 q16 q17 q18 q19 q20 q21 q22 q23 q24 : Nat} : wLy (W_M w q1 q2 q3 q4 q5 q6 q7 q8 q9 q10 q11 q12 q13 q14 q15 q16 q17 q18 q19 q20 q21 q22 q23 q24) 43 = some (lJ 100) := by unfold W_M; exact ly_s rfl (ly_a rfl (ly_a rfl (ly_a rfl (ly_a rfl (wLy_ae)))))
theorem ly_W_M_44 {w : WO} {q1 q2 q3 q4 q5 q6 q7 q8 q9 q10 q11 q12 q13 q14 q15 q16 q17 q18 q19 q20 q21 q22 q23 q24 : Nat} : wLy (W_M w q1 q2 q3 q4 q5 q6 q7 q8 q9 q10 q11 q12 q13 q14 q15 q16 q17 q18 q19 q20 q21 q22 q23 q24) 44 = some (lJ 100) := by unfold W_M; exact ly_s rfl (ly_a rfl (ly_a rfl (ly_a rfl (wLy_ae))))
theorem ly_W_M_53 {w : WO} {q1 q2 q3 q4 q5 q6 q7 q8 q9 q10 q11 q12 q13 q14 q15 q16 q17 q18 q19 q20 q21 q22 q23 q24 : Nat} : wLy (W_M w q1 q2 q3 q4 q5 q6 q7 q8 q9 q10 q11 q12 q13 q14 q15 q16 q17 q18 q19 q20 q21 q22 q23 q24) 53 = some (lJ 2) := by unfold W_M; exact ly_s rfl (ly_a rfl (ly_a rfl (wLy_ae)))
theorem ly_W_M_54 {w : WO} {q1 q2 q3 q4 q5 q6 q7 q8 q9 q10 q11 q12 q13 q14 q15 q16 q17 q18 q19 q20 q21 q22 q23 q24 : Nat} : wLy (W_M w q1 q2 q3 q4 q5 q6 q7 q8 q9 q10 q11 q12 q13 q14 q15 q16 q17 q18 q19 q20 q21 q22 q23 q24) 54 = some (lI 0 8) := by unfold W_M; exact ly_s rfl (ly_a rfl (wLy_ae))
theorem ly_W_M_55 {w : WO} {q1 q2 q3 q4 q5 q6 q7 q8 q9 q10 q11 q12 q13 q14 q15 q16 q17 q18 q19 q20 q21 q22 q23 q24 : Nat} : wLy (W_M w q1 q2 q3 q4 q5 q6 q7 q8 q9 q10 q11 q12 q13 q14 q15 q16 q17 q18 q19 q20 q21 q22 q23 q24) 55 = some (lI 0 8) := by unfold W_M; exact ly_s rfl (wLy_ae)
def MW0 (u : WO) : Prop := wLy u 0 = some (lR 11 [.int 0, .int 0, .ref (wAd u 3), .ref (wAd u 4), .ref (wAd u 5), .ref (wAd u 6), .int 0, .ref (wAd u 8), .int 0, .int 0, .int 0, .ref (wAd u 12), .ref (wAd u 13), .int 0, .int (-1), .ref (wAd u 16), .ref (wAd u 17), .ref (wAd u 18), .int 0, .int 0, .int 0, .int 0, .int 0, .int 0, .int 0, .ref (wAd u 26), .ref (wAd u 27), .ref (wAd u 28), .ref (wAd u 29), .int (-1), .ref (wAd u 31), .ref (wAd u 32), .int 0, .int 0, .int 0, .int 0, .int 0, .int 0, .ref (wAd u 39), .ref (wAd u 40), .int 0, .ref (wAd u 42), .ref (wAd u 43), .ref (wAd u 44), .int (-1), .int 0, .int 0, .int 0, .int 0, .int 0, .int 0, .int 0, .ref (wAd u 53), .ref (wAd u 54), .ref (wAd u 55), .int 0, .int 0]) ∧ wLy u 3 = some (lI 0 7) ∧ wLy u 4 = some (lI 0 6012) ∧ wLy u 5 = some (lI 0 12024) ∧ wLy u 6 = some (lI 2 2) ∧ wLy u 8 = some (lI 1 129) ∧ wLy u 12 = some (lI 1 400) ∧ wLy u 13 = some (lI 0 5) ∧ wLy u 16 = some (lI 0 401) ∧ wLy u 17 = some (lI 0 401) ∧ wLy u 18 = some (lI 0 401) ∧ wLy u 26 = some (lI 0 8) ∧ wLy u 27 = some (lI 0 8) ∧ wLy u 28 = some (lI 0 4) ∧ wLy u 29 = some (lI 1 672) ∧ wLy u 31 = some (lI 0 5) ∧ wLy u 32 = some (lI 0 5) ∧ wLy u 39 = some (lI 0 8) ∧ wLy u 40 = some (lI 0 4) ∧ wLy u 42 = some (lI 0 8) ∧ wLy u 43 = some (lJ 100) ∧ wLy u 44 = some (lJ 100) ∧ wLy u 53 = some (lJ 2) ∧ wLy u 54 = some (lI 0 8) ∧ wLy u 55 = some (lI 0 8)
theorem MW0_ok {w : WO} {q1 q2 q3 q4 q5 q6 q7 q8 q9 q10 q11 q12 q13 q14 q15 q16 q17 q18 q19 q20 q21 q22 q23 q24 : Nat} : MW0 (W_M w q1 q2 q3 q4 q5 q6 q7 q8 q9 q10 q11 q12 q13 q14 q15 q16 q17 q18 q19 q20 q21 q22 q23 q24) := ⟨ly_W_M_0, ly_W_M_3, ly_W_M_4, ly_W_M_5, ly_W_M_6, ly_W_M_8, ly_W_M_12, ly_W_M_13, ly_W_M_16, ly_W_M_17, ly_W_M_18, ly_W_M_26, ly_W_M_27, ly_W_M_28, ly_W_M_29, ly_W_M_31, ly_W_M_32, ly_W_M_39, ly_W_M_40, ly_W_M_42, ly_W_M_43, ly_W_M_44, ly_W_M_53, ly_W_M_54, ly_W_M_55⟩
/-! the data -/
def Zr (σ : DD) : Prop := ∀ o k, gI σ o k = 0 ∧ gL σ o k = 0 ∧ gR σ o k = none
theorem gI_cle {σ : DD} {a o k : Nat} : gI (cle σ a) o k = if o = a then 0 else gI σ o k := rfl
theorem gL_cle {σ : DD} {a o k : Nat} : gL (cle σ a) o k = if o = a then 0 else gL σ o k := rfl
theorem gR_cle {σ : DD} {a o k : Nat} : gR (cle σ a) o k = if o = a then none else gR σ o k := rfl
def zL (σ : DD) : Prop := ∀ o k, gL σ o k = 0 ∧ gR σ o k = none
theorem zL.c {σ : DD} {a : Nat} (h : zL σ) : zL (cle σ a) := fun o k => by
  refine ⟨?_, ?_⟩
  · rw [gL_cle]; by_cases e : o = a
    · rw [if_pos e]
    · rw [if_neg e]; exact (h o k).1
  · rw [gR_cle]; by_cases e : o = a
    · rw [if_pos e]
    · rw [if_neg e]; exact (h o k).2
theorem zL.s {σ : DD} {a c : Nat} {y : Int32} (h : zL σ) : zL (sI σ a c y) := fun o k => h o k
def zI (S : Nat → Prop) (σ : DD) : Prop := ∀ o k, ¬ S o → gI σ o k = 0
theorem zI.c {S : Nat → Prop} {σ : DD} {a : Nat} (h : zI S σ) : zI S (cle σ a) := fun o k hS => by
  rw [gI_cle]; by_cases e : o = a
  · rw [if_pos e]
  · rw [if_neg e]; exact h o k hS
theorem zI.s {S : Nat → Prop} {σ : DD} {a c : Nat} {y : Int32} (h : zI S σ) (ha : S a) : zI S (sI σ a c y) := fun o k hS => by
  rw [gI_sI, if_neg (fun z => hS (by rw [z.1]; exact ha))]; exact h o k hS
theorem Zr.zl {σ : DD} (h : Zr σ) : zL σ := fun o k => (h o k).2
theorem Zr.zi {S : Nat → Prop} {σ : DD} (h : Zr σ) : zI S σ := fun o k _ => (h o k).1
theorem cel_I {u : WO} {L : Nat → Option LY} {σ τ : DD} {o a t n : Nat} {H : Heap} (h : gI σ o = gI τ o) (k : va_at u.1 cls12 (a, celV u σ o (lI t n)) H) : va_at (toL u L).1 cls12 (a, celV (toL u L) τ o (lI t n)) H := by
  show va_at u.1 cls12 (a, .inl (wCa u t, n, .inl (gI τ o))) H
  rw [← h]; exact k
theorem cel_J {u : WO} {L : Nat → Option LY} {σ τ : DD} {o a n : Nat} {H : Heap} (h : gL σ o = gL τ o) (k : va_at u.1 cls12 (a, celV u σ o (lJ n)) H) : va_at (toL u L).1 cls12 (a, celV (toL u L) τ o (lJ n)) H := by
  show va_at u.1 cls12 (a, .inl (wCa u 3, n, .inr (.inl (gL τ o)))) H
  rw [← h]; exact k
theorem cel_Q {u : WO} {L : Nat → Option LY} {σ τ : DD} {o a t n : Nat} {H : Heap} (h : ∀ k, gR σ o k = gR τ o k) (k : va_at u.1 cls12 (a, celV u σ o (lQ t n)) H) : va_at (toL u L).1 cls12 (a, celV (toL u L) τ o (lQ t n)) H := by
  show va_at u.1 cls12 (a, .inl (wCa u t, n, .inr (.inr (.inr (.inr (fun k => (gR τ o k).map (wAd u))))))) H
  rw [show (fun k => (gR τ o k).map (wAd u)) = (fun k => (gR σ o k).map (wAd u)) from funext (fun k => by rw [h])]
  exact k
theorem cel_O {u : WO} {L : Nat → Option LY} {σ τ : DD} {o a ci N : Nat} {rf : Nat → Option Nat} {fs : List Value} {H : Heap} (h : (List.range N).map (fun k => fldV (toL u L) τ o (rf k) k) = fs) (k : va_at u.1 cls12 (a, celV u σ o (lR ci fs)) H) : va_at (toL u L).1 cls12 (a, celV (toL u L) τ o (lO ci rf N)) H := by
  show va_at u.1 cls12 (a, .inr (ci, (List.range N).map (fun k => fldV (toL u L) τ o (rf k) k))) H
  rw [h]; exact k
theorem D_FaceZ {σ : DD} (hz : Zr σ) : zL (D_Face σ) := by
  unfold D_Face D_Year D_Outl D_Shar D_Morn D_Ord D_Court D_Pars D_Tape D_Real fil7
  exact (((((((((((((((((((((((((((((((((((((((((((((((((((((((((hz.zl).c).c).c).c).c).c).c).c).c).c).c).c).c).c).c).s).s).s).s).s).s).s).s).s).c).c).c).c).c).c).c).c).c).c).c).c).c).c).c).c).c).c).c).c).c).c).c).c).c).c).c).c).c).c).c).c).c
theorem D_FaceL {σ : DD} {o k : Nat} (hz : Zr σ) : gL (D_Face σ) o k = 0 := (D_FaceZ hz o k).1
theorem D_FaceR {σ : DD} {o k : Nat} (hz : Zr σ) : gR (D_Face σ) o k = none := (D_FaceZ hz o k).2
theorem D_FaceI {σ : DD} (hz : Zr σ) : zI (fun o => o = 207 ∨ o = 208) (D_Face σ) := by
  unfold D_Face D_Year D_Outl D_Shar D_Morn D_Ord D_Court D_Pars D_Tape D_Real fil7
  exact (((((((((((((((((((((((((((((((((((((((((((((((((((((((((hz.zi).c).c).c).c).c).c).c).c).c).c).c).c).c).c).c).s (Or.inl rfl)).s (Or.inl rfl)).s (Or.inl rfl)).s (Or.inl rfl)).s (Or.inl rfl)).s (Or.inl rfl)).s (Or.inl rfl)).s (Or.inr rfl)).s (Or.inr rfl)).c).c).c).c).c).c).c).c).c).c).c).c).c).c).c).c).c).c).c).c).c).c).c).c).c).c).c).c).c).c).c).c).c
theorem D_Face_z {σ : DD} {o k : Nat} (hz : Zr σ) (h1 : ¬ o = 207) (h2 : ¬ o = 208) : gI (D_Face σ) o k = 0 := D_FaceI hz o k (fun z => by rcases z with z | z; exact h1 z; exact h2 z)
def XI0 (o k : Nat) : Int32 := match o with
  | 30 => (match k with | 8 => -1 | _ => 0)
  | 50 => (match k with | 5 => 1 | _ => 0)
  | 60 => (match k with | 6 => -1 | _ => 0)
  | 200 => (match k with | 19 => -1 | _ => 0)
  | 207 => if k < 7 then 63 else 0
  | 208 => if k = 2 then 20 else if k = 1 then 3 else 0
  | _ => 0
def x0D : DD := (XI0, fun _ _ => 0, fun _ _ => none)
theorem D_Face_207 {σ : DD} {k : Nat} (hz : Zr σ) : gI (D_Face σ) 207 k = if k < 7 then 63 else 0 := by
  simp only [D_Face, D_Year, D_Outl, D_Shar, D_Morn, D_Ord, D_Court, D_Pars, D_Tape, D_Real, fil7, gI_cle, gI_sI, (hz 207 k).1]
  by_cases h : k < 7
  · rw [if_pos h]
    rcases (show k = 0 ∨ k = 1 ∨ k = 2 ∨ k = 3 ∨ k = 4 ∨ k = 5 ∨ k = 6 by omega) with e | e | e | e | e | e | e <;> subst e <;> rfl
  · rw [if_neg h]
    simp (disch := omega) only [if_neg]
    simp
theorem D_Face_208 {σ : DD} {k : Nat} (hz : Zr σ) : gI (D_Face σ) 208 k = if k = 2 then 20 else if k = 1 then 3 else 0 := by
  simp only [D_Face, D_Year, D_Outl, D_Shar, D_Morn, D_Ord, D_Court, D_Pars, D_Tape, D_Real, fil7, gI_cle, gI_sI, (hz 208 k).1]
  simp
set_option maxRecDepth 20000 in
theorem FW0_wd {u : WO} {H : Heap} {σ : DD} (hz : Zr σ) (h : FW0 u) (hW : Wd u (D_Face σ) H) : Wd (toL u LX) x0D H := by
  obtain ⟨h0, h2, h11, h20, h21, h30, h32, h33, h50, h52, h53, h54, h55, h60, h63, h64, h70, h73, h74, h75, h76, h77, h90, h93, h94, h95, h96, h100, h103, h104, h105, h110, h114, h115, h200, h202, h203, h205, h206, h207, h208, h210, h211, h212, h214, h215, h216, h217, h219⟩ := h
  refine hW.to (fun q y1 hq => ⟨rfl, ?_⟩)
  have hq1 : LX q = some y1 := hq
  unfold LX at hq1
  split at hq1
  · cases hq1; exact ⟨_, h0, cel_O rfl⟩
  · cases hq1; exact ⟨_, h2, cel_Q (fun k => (D_FaceR hz).trans rfl)⟩
  · cases hq1; exact ⟨_, h11, cel_I (funext (fun k => (D_Face_z hz (by decide) (by decide)).trans rfl))⟩
  · cases hq1; exact ⟨_, h20, cel_O rfl⟩
  · cases hq1; exact ⟨_, h21, cel_I (funext (fun k => (D_Face_z hz (by decide) (by decide)).trans rfl))⟩
  · cases hq1; exact ⟨_, h30, cel_O rfl⟩
  · cases hq1; exact ⟨_, h32, cel_I (funext (fun k => (D_Face_z hz (by decide) (by decide)).trans rfl))⟩
  · cases hq1; exact ⟨_, h33, cel_I (funext (fun k => (D_Face_z hz (by decide) (by decide)).trans rfl))⟩
  · cases hq1; exact ⟨_, h50, cel_O rfl⟩
  · cases hq1; exact ⟨_, h52, cel_I (funext (fun k => (D_Face_z hz (by decide) (by decide)).trans rfl))⟩
  · cases hq1; exact ⟨_, h53, cel_J (funext (fun k => (D_FaceL hz).trans rfl))⟩
  · cases hq1; exact ⟨_, h54, cel_I (funext (fun k => (D_Face_z hz (by decide) (by decide)).trans rfl))⟩
  · cases hq1; exact ⟨_, h55, cel_I (funext (fun k => (D_Face_z hz (by decide) (by decide)).trans rfl))⟩
  · cases hq1; exact ⟨_, h60, cel_O rfl⟩
  · cases hq1; exact ⟨_, h63, cel_I (funext (fun k => (D_Face_z hz (by decide) (by decide)).trans rfl))⟩
  · cases hq1; exact ⟨_, h64, cel_J (funext (fun k => (D_FaceL hz).trans rfl))⟩
  · cases hq1; exact ⟨_, h70, cel_O rfl⟩
  · cases hq1; exact ⟨_, h73, cel_I (funext (fun k => (D_Face_z hz (by decide) (by decide)).trans rfl))⟩
  · cases hq1; exact ⟨_, h74, cel_I (funext (fun k => (D_Face_z hz (by decide) (by decide)).trans rfl))⟩
  · cases hq1; exact ⟨_, h75, cel_I (funext (fun k => (D_Face_z hz (by decide) (by decide)).trans rfl))⟩
  · cases hq1; exact ⟨_, h76, cel_I (funext (fun k => (D_Face_z hz (by decide) (by decide)).trans rfl))⟩
  · cases hq1; exact ⟨_, h77, cel_I (funext (fun k => (D_Face_z hz (by decide) (by decide)).trans rfl))⟩
  · cases hq1; exact ⟨_, h90, cel_O rfl⟩
  · cases hq1; exact ⟨_, h93, cel_I (funext (fun k => (D_Face_z hz (by decide) (by decide)).trans rfl))⟩
  · cases hq1; exact ⟨_, h94, cel_I (funext (fun k => (D_Face_z hz (by decide) (by decide)).trans rfl))⟩
  · cases hq1; exact ⟨_, h95, cel_I (funext (fun k => (D_Face_z hz (by decide) (by decide)).trans rfl))⟩
  · cases hq1; exact ⟨_, h96, cel_I (funext (fun k => (D_Face_z hz (by decide) (by decide)).trans rfl))⟩
  · cases hq1; exact ⟨_, h100, cel_O rfl⟩
  · cases hq1; exact ⟨_, h103, cel_J (funext (fun k => (D_FaceL hz).trans rfl))⟩
  · cases hq1; exact ⟨_, h104, cel_I (funext (fun k => (D_Face_z hz (by decide) (by decide)).trans rfl))⟩
  · cases hq1; exact ⟨_, h105, cel_I (funext (fun k => (D_Face_z hz (by decide) (by decide)).trans rfl))⟩
  · cases hq1; exact ⟨_, h110, cel_O rfl⟩
  · cases hq1; exact ⟨_, h114, cel_I (funext (fun k => (D_Face_z hz (by decide) (by decide)).trans rfl))⟩
  · cases hq1; exact ⟨_, h115, cel_I (funext (fun k => (D_Face_z hz (by decide) (by decide)).trans rfl))⟩
  · cases hq1; exact ⟨_, h200, cel_O rfl⟩
  · cases hq1; exact ⟨_, h202, cel_I (funext (fun k => (D_Face_z hz (by decide) (by decide)).trans rfl))⟩
  · cases hq1; exact ⟨_, h203, cel_I (funext (fun k => (D_Face_z hz (by decide) (by decide)).trans rfl))⟩
  · cases hq1; exact ⟨_, h205, cel_I (funext (fun k => (D_Face_z hz (by decide) (by decide)).trans rfl))⟩
  · cases hq1; exact ⟨_, h206, cel_I (funext (fun k => (D_Face_z hz (by decide) (by decide)).trans rfl))⟩
  · cases hq1; exact ⟨_, h207, cel_I (funext (fun k => (D_Face_207 hz).trans rfl))⟩
  · cases hq1; exact ⟨_, h208, cel_I (funext (fun k => (D_Face_208 hz).trans rfl))⟩
  · cases hq1; exact ⟨_, h210, cel_I (funext (fun k => (D_Face_z hz (by decide) (by decide)).trans rfl))⟩
  · cases hq1; exact ⟨_, h211, cel_I (funext (fun k => (D_Face_z hz (by decide) (by decide)).trans rfl))⟩
  · cases hq1; exact ⟨_, h212, cel_I (funext (fun k => (D_Face_z hz (by decide) (by decide)).trans rfl))⟩
  · cases hq1; exact ⟨_, h214, cel_I (funext (fun k => (D_Face_z hz (by decide) (by decide)).trans rfl))⟩
  · cases hq1; exact ⟨_, h215, cel_I (funext (fun k => (D_Face_z hz (by decide) (by decide)).trans rfl))⟩
  · cases hq1; exact ⟨_, h216, cel_I (funext (fun k => (D_Face_z hz (by decide) (by decide)).trans rfl))⟩
  · cases hq1; exact ⟨_, h217, cel_I (funext (fun k => (D_Face_z hz (by decide) (by decide)).trans rfl))⟩
  · cases hq1; exact ⟨_, h219, cel_Q (fun k => (D_FaceR hz).trans rfl)⟩
  · cases hq1
theorem FW0_live {u : WO} (h : FW0 u) : ∀ o y, LX o = some y → wLy u o ≠ none := by
  obtain ⟨h0, h2, h11, h20, h21, h30, h32, h33, h50, h52, h53, h54, h55, h60, h63, h64, h70, h73, h74, h75, h76, h77, h90, h93, h94, h95, h96, h100, h103, h104, h105, h110, h114, h115, h200, h202, h203, h205, h206, h207, h208, h210, h211, h212, h214, h215, h216, h217, h219⟩ := h
  intro o y hq1
  unfold LX at hq1
  split at hq1
  · exact ne_s h0
  · exact ne_s h2
  · exact ne_s h11
  · exact ne_s h20
  · exact ne_s h21
  · exact ne_s h30
  · exact ne_s h32
  · exact ne_s h33
  · exact ne_s h50
  · exact ne_s h52
  · exact ne_s h53
  · exact ne_s h54
  · exact ne_s h55
  · exact ne_s h60
  · exact ne_s h63
  · exact ne_s h64
  · exact ne_s h70
  · exact ne_s h73
  · exact ne_s h74
  · exact ne_s h75
  · exact ne_s h76
  · exact ne_s h77
  · exact ne_s h90
  · exact ne_s h93
  · exact ne_s h94
  · exact ne_s h95
  · exact ne_s h96
  · exact ne_s h100
  · exact ne_s h103
  · exact ne_s h104
  · exact ne_s h105
  · exact ne_s h110
  · exact ne_s h114
  · exact ne_s h115
  · exact ne_s h200
  · exact ne_s h202
  · exact ne_s h203
  · exact ne_s h205
  · exact ne_s h206
  · exact ne_s h207
  · exact ne_s h208
  · exact ne_s h210
  · exact ne_s h211
  · exact ne_s h212
  · exact ne_s h214
  · exact ne_s h215
  · exact ne_s h216
  · exact ne_s h217
  · exact ne_s h219
  · cases hq1
theorem zL.w {σ : DD} {n : Nat} (h : zL σ) : zL (wS n σ) := fun o k => h o k
theorem zI.w {S : Nat → Prop} {σ : DD} {n : Nat} (h : zI S σ) (ha : S 8) : zI S (wS n σ) := fun o k hS => by
  show (if o = 8 ∧ k < n then _ else σ.1 o k) = 0
  rw [if_neg (fun z => hS (by rw [z.1]; exact ha))]; exact h o k hS
theorem gI_wS {σ : DD} {n o k : Nat} : gI (wS n σ) o k = if o = 8 ∧ k < n then nI (wL.getD k 0) else gI σ o k := rfl
theorem D_MZ {σ : DD} (hz : Zr σ) : zL (D_M σ) := by
  unfold D_M
  exact (((((((((((((((((((((((((((((((((((hz.zl).c).c).c).c).c).w).c).c).c).c).c).c).c).c).c).c).c).c).c).c).c).c).c).c).c).s).s).s).s).s).s).s).s).s).s
theorem D_ML {σ : DD} {o k : Nat} (hz : Zr σ) : gL (D_M σ) o k = 0 := (D_MZ hz o k).1
theorem D_MI {σ : DD} (hz : Zr σ) : zI (fun o => o = 4 ∨ o = 8) (D_M σ) := by
  unfold D_M
  exact (((((((((((((((((((((((((((((((((((hz.zi).c).c).c).c).c).w (Or.inr rfl)).c).c).c).c).c).c).c).c).c).c).c).c).c).c).c).c).c).c).c).s (Or.inl rfl)).s (Or.inl rfl)).s (Or.inl rfl)).s (Or.inl rfl)).s (Or.inl rfl)).s (Or.inl rfl)).s (Or.inl rfl)).s (Or.inl rfl)).s (Or.inl rfl)).s (Or.inl rfl)
theorem D_M_z {σ : DD} {o k : Nat} (hz : Zr σ) (h1 : ¬ o = 4) (h2 : ¬ o = 8) : gI (D_M σ) o k = 0 := D_MI hz o k (fun z => by rcases z with z | z; exact h1 z; exact h2 z)
def K0 (k : Nat) : Int32 := if k = 404 then -1 else if k = 397 then 20 else if k = 396 then 3 else if 104 ≤ k ∧ k ≤ 110 then 63 else 0
def MI0 (o k : Nat) : Int32 := match o with
  | 0 => (match k with | 14 => -1 | 29 => -1 | 44 => -1 | _ => 0)
  | 4 => K0 k
  | 8 => if k < 129 then nI (wL.getD k 0) else 0
  | _ => 0
def m0D : DD := (MI0, fun _ _ => 0, fun _ _ => none)
theorem D_M_4 {σ : DD} {k : Nat} (hz : Zr σ) : gI (D_M σ) 4 k = K0 k := by
  unfold K0
  simp only [D_M, gI_cle, gI_sI, gI_wS, (hz 4 k).1]
  by_cases h : 104 ≤ k ∧ k ≤ 110
  · rw [if_pos h]
    rcases (show k = 104 ∨ k = 105 ∨ k = 106 ∨ k = 107 ∨ k = 108 ∨ k = 109 ∨ k = 110 by omega) with e | e | e | e | e | e | e <;> subst e <;> rfl
  · rw [if_neg h]
    by_cases h1 : k = 404
    · subst h1; rfl
    · by_cases h2 : k = 397
      · subst h2; rfl
      · by_cases h3 : k = 396
        · subst h3; rfl
        · simp (disch := omega) only [if_neg]
          simp
theorem D_M_8 {σ : DD} {k : Nat} (hz : Zr σ) : gI (D_M σ) 8 k = if k < 129 then nI (wL.getD k 0) else 0 := by
  simp only [D_M, gI_cle, gI_sI, gI_wS, (hz 8 k).1]
  simp
set_option maxRecDepth 20000 in
theorem MW0_wd {u : WO} {H : Heap} {σ : DD} (hz : Zr σ) (h : MW0 u) (hW : Wd u (D_M σ) H) : Wd (toL u LM) m0D H := by
  obtain ⟨h0, h3, h4, h5, h6, h8, h12, h13, h16, h17, h18, h26, h27, h28, h29, h31, h32, h39, h40, h42, h43, h44, h53, h54, h55⟩ := h
  refine hW.to (fun q y1 hq => ⟨rfl, ?_⟩)
  have hq1 : LM q = some y1 := hq
  unfold LM at hq1
  split at hq1
  · cases hq1; exact ⟨_, h0, cel_O rfl⟩
  · cases hq1; exact ⟨_, h3, cel_I (funext (fun k => (D_M_z hz (by decide) (by decide)).trans rfl))⟩
  · cases hq1; exact ⟨_, h4, cel_I (funext (fun k => (D_M_4 hz).trans rfl))⟩
  · cases hq1; exact ⟨_, h5, cel_I (funext (fun k => (D_M_z hz (by decide) (by decide)).trans rfl))⟩
  · cases hq1; exact ⟨_, h6, cel_I (funext (fun k => (D_M_z hz (by decide) (by decide)).trans rfl))⟩
  · cases hq1; exact ⟨_, h8, cel_I (funext (fun k => (D_M_8 hz).trans rfl))⟩
  · cases hq1; exact ⟨_, h12, cel_I (funext (fun k => (D_M_z hz (by decide) (by decide)).trans rfl))⟩
  · cases hq1; exact ⟨_, h13, cel_I (funext (fun k => (D_M_z hz (by decide) (by decide)).trans rfl))⟩
  · cases hq1; exact ⟨_, h16, cel_I (funext (fun k => (D_M_z hz (by decide) (by decide)).trans rfl))⟩
  · cases hq1; exact ⟨_, h17, cel_I (funext (fun k => (D_M_z hz (by decide) (by decide)).trans rfl))⟩
  · cases hq1; exact ⟨_, h18, cel_I (funext (fun k => (D_M_z hz (by decide) (by decide)).trans rfl))⟩
  · cases hq1; exact ⟨_, h26, cel_I (funext (fun k => (D_M_z hz (by decide) (by decide)).trans rfl))⟩
  · cases hq1; exact ⟨_, h27, cel_I (funext (fun k => (D_M_z hz (by decide) (by decide)).trans rfl))⟩
  · cases hq1; exact ⟨_, h28, cel_I (funext (fun k => (D_M_z hz (by decide) (by decide)).trans rfl))⟩
  · cases hq1; exact ⟨_, h29, cel_I (funext (fun k => (D_M_z hz (by decide) (by decide)).trans rfl))⟩
  · cases hq1; exact ⟨_, h31, cel_I (funext (fun k => (D_M_z hz (by decide) (by decide)).trans rfl))⟩
  · cases hq1; exact ⟨_, h32, cel_I (funext (fun k => (D_M_z hz (by decide) (by decide)).trans rfl))⟩
  · cases hq1; exact ⟨_, h39, cel_I (funext (fun k => (D_M_z hz (by decide) (by decide)).trans rfl))⟩
  · cases hq1; exact ⟨_, h40, cel_I (funext (fun k => (D_M_z hz (by decide) (by decide)).trans rfl))⟩
  · cases hq1; exact ⟨_, h42, cel_I (funext (fun k => (D_M_z hz (by decide) (by decide)).trans rfl))⟩
  · cases hq1; exact ⟨_, h43, cel_J (funext (fun k => (D_ML hz).trans rfl))⟩
  · cases hq1; exact ⟨_, h44, cel_J (funext (fun k => (D_ML hz).trans rfl))⟩
  · cases hq1; exact ⟨_, h53, cel_J (funext (fun k => (D_ML hz).trans rfl))⟩
  · cases hq1; exact ⟨_, h54, cel_I (funext (fun k => (D_M_z hz (by decide) (by decide)).trans rfl))⟩
  · cases hq1; exact ⟨_, h55, cel_I (funext (fun k => (D_M_z hz (by decide) (by decide)).trans rfl))⟩
  · cases hq1
theorem MW0_live {u : WO} (h : MW0 u) : ∀ o y, LM o = some y → wLy u o ≠ none := by
  obtain ⟨h0, h3, h4, h5, h6, h8, h12, h13, h16, h17, h18, h26, h27, h28, h29, h31, h32, h39, h40, h42, h43, h44, h53, h54, h55⟩ := h
  intro o y hq1
  unfold LM at hq1
  split at hq1
  · exact ne_s h0
  · exact ne_s h3
  · exact ne_s h4
  · exact ne_s h5
  · exact ne_s h6
  · exact ne_s h8
  · exact ne_s h12
  · exact ne_s h13
  · exact ne_s h16
  · exact ne_s h17
  · exact ne_s h18
  · exact ne_s h26
  · exact ne_s h27
  · exact ne_s h28
  · exact ne_s h29
  · exact ne_s h31
  · exact ne_s h32
  · exact ne_s h39
  · exact ne_s h40
  · exact ne_s h42
  · exact ne_s h43
  · exact ne_s h44
  · exact ne_s h53
  · exact ne_s h54
  · exact ne_s h55
  · cases hq1
