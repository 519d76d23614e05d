/-! ===== the law, case by case (by program: wip/whole/mkw.py) ===== -/
section LCS
variable {X : CT} {w v : WO} {A : Nat → Prop} {b : BZ} {z : EXa} {b0 N c0 s0 n p : Nat} {xs : Nat → Int32} {T : TXT} {x m : DD} {Q : State → Prop}
theorem cs_act (F : FX X v b z A b0 N xs) (C : CLw X w (A, c0, s0) b) (G : GW b T w v x m n) (hp : p + 7 ≤ N) (hn : n < 2 ^ 20) (hc : c0 + 15 ≤ 600000 ∧ s0 + 804 ≤ 7302250) (k : KT X v b A c0 s0 Q b0 p n) : gV X w v (A, c0, s0) Q x m 208 [(0, .ref b0), (1, .ref (wAd w 0)), (2, .ref (wAd v 0)), (3, .int (nI p))] [] := by
  refine v_aload_n C 1 rfl (dk_at dk_Law_0 22 rfl) ?_
  refine v_aload_n C 0 rfl (dk_at dk_Law_0 23 rfl) ?_
  refine v_iload_n C 3 rfl (dk_at dk_Law_0 24 rfl) ?_
  refine v_iconst C 1 (dk_at dk_Law_0 25 rfl) ?_
  refine v_iadd C (dk_at dk_Law_0 26 rfl) ?_
  refine v_sld C F.sc (in_1 hp F.n3) (dk_at dk_Law_0 27 rfl) ?_
  refine v_aload_n C 0 rfl (dk_at dk_Law_0 28 rfl) ?_
  refine v_iload_n C 3 rfl (dk_at dk_Law_0 29 rfl) ?_
  refine v_iconst C 2 (dk_at dk_Law_0 30 rfl) ?_
  refine v_iadd C (dk_at dk_Law_0 31 rfl) ?_
  refine v_sld C F.sc (in_2 hp F.n3) (dk_at dk_Law_0 32 rfl) ?_
  refine v_aload_n C 0 rfl (dk_at dk_Law_0 33 rfl) ?_
  refine v_iload_n C 3 rfl (dk_at dk_Law_0 34 rfl) ?_
  refine v_iconst C 3 (dk_at dk_Law_0 35 rfl) ?_
  refine v_iadd C (dk_at dk_Law_0 36 rfl) ?_
  refine v_sld C F.sc (in_3 hp F.n3) (dk_at dk_Law_0 37 rfl) ?_
  refine v_cXI C G.fl G.dj G.y2 G.y0 cl_Law_13 [.int (xs (nI p + 1).toNatClampNeg), .int (xs (nI p + 2).toNatClampNeg), .int (xs (nI p + 3).toNatClampNeg)] (m_Face_act (G.lyF F) (p_act G.inv hn)) ⟨Nat.le_of_ble_eq_true rfl, Nat.le_of_ble_eq_true rfl, rfl, rfl⟩ rfl rfl (Nat.le_of_ble_eq_true rfl) (dk_at dk_Law_0 38 rfl) (fun r x1 h im => ?_)
  refine v_aload_n C 2 rfl (dk_at dk_Law_0 39 rfl) ?_
  refine v_aload_n C 0 rfl (dk_at dk_Law_1 0 rfl) ?_
  refine v_iload_n C 3 rfl (dk_at dk_Law_1 1 rfl) ?_
  refine v_iconst C 1 (dk_at dk_Law_1 2 rfl) ?_
  refine v_iadd C (dk_at dk_Law_1 3 rfl) ?_
  refine v_sld C F.sc (in_1 hp F.n3) (dk_at dk_Law_1 4 rfl) ?_
  refine v_aload_n C 0 rfl (dk_at dk_Law_1 5 rfl) ?_
  refine v_iload_n C 3 rfl (dk_at dk_Law_1 6 rfl) ?_
  refine v_iconst C 2 (dk_at dk_Law_1 7 rfl) ?_
  refine v_iadd C (dk_at dk_Law_1 8 rfl) ?_
  refine v_sld C F.sc (in_2 hp F.n3) (dk_at dk_Law_1 9 rfl) ?_
  refine v_aload_n C 0 rfl (dk_at dk_Law_1 10 rfl) ?_
  refine v_iload_n C 3 rfl (dk_at dk_Law_1 11 rfl) ?_
  refine v_iconst C 3 (dk_at dk_Law_1 12 rfl) ?_
  refine v_iadd C (dk_at dk_Law_1 13 rfl) ?_
  refine v_sld C F.sc (in_3 hp F.n3) (dk_at dk_Law_1 14 rfl) ?_
  refine v_cMI C F.up F.km G.dj cl_Law_17 [.int (xs (nI p + 1).toNatClampNeg), .int (xs (nI p + 2).toNatClampNeg), .int (xs (nI p + 3).toNatClampNeg)] (m_M_act F.km.2.2.1 h) ⟨Nat.le_of_ble_eq_true rfl, Nat.le_of_ble_eq_true rfl, rfl, rfl⟩ rfl rfl (Nat.le_of_ble_eq_true rfl) (dk_at dk_Law_1 15 rfl) (fun r1 m1 h1 => ?_)
  obtain ⟨rfl, hi⟩ := h1
  refine v_same C 1391 rfl (dk_at dk_Law_1 16 rfl) ?_
  exact k w T x1 m1 c0 s0 C (G.call hi im) (by omega) (by omega)
theorem cs_put (F : FX X v b z A b0 N xs) (C : CLw X w (A, c0, s0) b) (G : GW b T w v x m n) (hp : p + 7 ≤ N) (hn : n < 2 ^ 20) (hc : c0 + 15 ≤ 600000 ∧ s0 + 804 ≤ 7302250) (k : KT X v b A c0 s0 Q b0 p n) : gV X w v (A, c0, s0) Q x m 251 [(0, .ref b0), (1, .ref (wAd w 0)), (2, .ref (wAd v 0)), (3, .int (nI p))] [] := by
  refine v_aload_n C 1 rfl (dk_at dk_Law_1 19 rfl) ?_
  refine v_aload_n C 0 rfl (dk_at dk_Law_1 20 rfl) ?_
  refine v_iload_n C 3 rfl (dk_at dk_Law_1 21 rfl) ?_
  refine v_iconst C 1 (dk_at dk_Law_1 22 rfl) ?_
  refine v_iadd C (dk_at dk_Law_1 23 rfl) ?_
  refine v_sld C F.sc (in_1 hp F.n3) (dk_at dk_Law_1 24 rfl) ?_
  refine v_aload_n C 0 rfl (dk_at dk_Law_1 25 rfl) ?_
  refine v_iload_n C 3 rfl (dk_at dk_Law_1 26 rfl) ?_
  refine v_iconst C 2 (dk_at dk_Law_1 27 rfl) ?_
  refine v_iadd C (dk_at dk_Law_1 28 rfl) ?_
  refine v_sld C F.sc (in_2 hp F.n3) (dk_at dk_Law_1 29 rfl) ?_
  refine v_aload_n C 0 rfl (dk_at dk_Law_1 30 rfl) ?_
  refine v_iload_n C 3 rfl (dk_at dk_Law_1 31 rfl) ?_
  refine v_iconst C 3 (dk_at dk_Law_1 32 rfl) ?_
  refine v_iadd C (dk_at dk_Law_1 33 rfl) ?_
  refine v_sld C F.sc (in_3 hp F.n3) (dk_at dk_Law_1 34 rfl) ?_
  refine v_cXI C G.fl G.dj G.y2 G.y0 cl_Law_18 [.int (xs (nI p + 1).toNatClampNeg), .int (xs (nI p + 2).toNatClampNeg), .int (xs (nI p + 3).toNatClampNeg)] (m_Face_put (G.lyF F) (p_put G.inv hn)) ⟨Nat.le_of_ble_eq_true rfl, Nat.le_of_ble_eq_true rfl, rfl, rfl⟩ rfl rfl (Nat.le_of_ble_eq_true rfl) (dk_at dk_Law_1 35 rfl) (fun r x1 h im => ?_)
  refine v_aload_n C 2 rfl (dk_at dk_Law_1 36 rfl) ?_
  refine v_aload_n C 0 rfl (dk_at dk_Law_1 37 rfl) ?_
  refine v_iload_n C 3 rfl (dk_at dk_Law_1 38 rfl) ?_
  refine v_iconst C 1 (dk_at dk_Law_1 39 rfl) ?_
  refine v_iadd C (dk_at dk_Law_2 0 rfl) ?_
  refine v_sld C F.sc (in_1 hp F.n3) (dk_at dk_Law_2 1 rfl) ?_
  refine v_aload_n C 0 rfl (dk_at dk_Law_2 2 rfl) ?_
  refine v_iload_n C 3 rfl (dk_at dk_Law_2 3 rfl) ?_
  refine v_iconst C 2 (dk_at dk_Law_2 4 rfl) ?_
  refine v_iadd C (dk_at dk_Law_2 5 rfl) ?_
  refine v_sld C F.sc (in_2 hp F.n3) (dk_at dk_Law_2 6 rfl) ?_
  refine v_aload_n C 0 rfl (dk_at dk_Law_2 7 rfl) ?_
  refine v_iload_n C 3 rfl (dk_at dk_Law_2 8 rfl) ?_
  refine v_iconst C 3 (dk_at dk_Law_2 9 rfl) ?_
  refine v_iadd C (dk_at dk_Law_2 10 rfl) ?_
  refine v_sld C F.sc (in_3 hp F.n3) (dk_at dk_Law_2 11 rfl) ?_
  refine v_cMI C F.up F.km G.dj cl_Law_21 [.int (xs (nI p + 1).toNatClampNeg), .int (xs (nI p + 2).toNatClampNeg), .int (xs (nI p + 3).toNatClampNeg)] (m_M_put F.km.2.2.1 h) ⟨Nat.le_of_ble_eq_true rfl, Nat.le_of_ble_eq_true rfl, rfl, rfl⟩ rfl rfl (Nat.le_of_ble_eq_true rfl) (dk_at dk_Law_2 12 rfl) (fun r1 m1 h1 => ?_)
  obtain ⟨rfl, hi⟩ := h1
  refine v_same C 1391 rfl (dk_at dk_Law_2 13 rfl) ?_
  exact k w T x1 m1 c0 s0 C (G.call hi im) (by omega) (by omega)
theorem cs_of (F : FX X v b z A b0 N xs) (C : CLw X w (A, c0, s0) b) (G : GW b T w v x m n) (hp : p + 7 ≤ N) (hn : n < 2 ^ 20) (hc : c0 + 15 ≤ 600000 ∧ s0 + 804 ≤ 7302250) (k : KT X v b A c0 s0 Q b0 p n) : gV X w v (A, c0, s0) Q x m 294 [(0, .ref b0), (1, .ref (wAd w 0)), (2, .ref (wAd v 0)), (3, .int (nI p))] [] := by
  refine v_aload_n C 1 rfl (dk_at dk_Law_2 16 rfl) ?_
  refine v_aload_n C 0 rfl (dk_at dk_Law_2 17 rfl) ?_
  refine v_iload_n C 3 rfl (dk_at dk_Law_2 18 rfl) ?_
  refine v_iconst C 1 (dk_at dk_Law_2 19 rfl) ?_
  refine v_iadd C (dk_at dk_Law_2 20 rfl) ?_
  refine v_sld C F.sc (in_1 hp F.n3) (dk_at dk_Law_2 21 rfl) ?_
  refine v_aload_n C 0 rfl (dk_at dk_Law_2 22 rfl) ?_
  refine v_iload_n C 3 rfl (dk_at dk_Law_2 23 rfl) ?_
  refine v_iconst C 2 (dk_at dk_Law_2 24 rfl) ?_
  refine v_iadd C (dk_at dk_Law_2 25 rfl) ?_
  refine v_sld C F.sc (in_2 hp F.n3) (dk_at dk_Law_2 26 rfl) ?_
  refine v_cXI C G.fl G.dj G.y2 G.y0 cl_Law_22 [.int (xs (nI p + 1).toNatClampNeg), .int (xs (nI p + 2).toNatClampNeg)] (m_Face_of (G.lyF F) (p_of G.inv)) ⟨Nat.le_of_ble_eq_true rfl, Nat.le_of_ble_eq_true rfl, rfl, rfl⟩ rfl rfl (Nat.le_of_ble_eq_true rfl) (dk_at dk_Law_2 27 rfl) (fun r x1 h im => ?_)
  refine v_aload_n C 2 rfl (dk_at dk_Law_2 28 rfl) ?_
  refine v_aload_n C 0 rfl (dk_at dk_Law_2 29 rfl) ?_
  refine v_iload_n C 3 rfl (dk_at dk_Law_2 30 rfl) ?_
  refine v_iconst C 1 (dk_at dk_Law_2 31 rfl) ?_
  refine v_iadd C (dk_at dk_Law_2 32 rfl) ?_
  refine v_sld C F.sc (in_1 hp F.n3) (dk_at dk_Law_2 33 rfl) ?_
  refine v_aload_n C 0 rfl (dk_at dk_Law_2 34 rfl) ?_
  refine v_iload_n C 3 rfl (dk_at dk_Law_2 35 rfl) ?_
  refine v_iconst C 2 (dk_at dk_Law_2 36 rfl) ?_
  refine v_iadd C (dk_at dk_Law_2 37 rfl) ?_
  refine v_sld C F.sc (in_2 hp F.n3) (dk_at dk_Law_2 38 rfl) ?_
  refine v_cMI C F.up F.km G.dj cl_Law_26 [.int (xs (nI p + 1).toNatClampNeg), .int (xs (nI p + 2).toNatClampNeg)] (m_M_of F.km.2.2.1 h) ⟨Nat.le_of_ble_eq_true rfl, Nat.le_of_ble_eq_true rfl, rfl, rfl⟩ rfl rfl (Nat.le_of_ble_eq_true rfl) (dk_at dk_Law_2 39 rfl) (fun r1 m1 h1 => ?_)
  obtain ⟨rfl, hi⟩ := h1
  refine v_same C 1391 rfl (dk_at dk_Law_3 0 rfl) ?_
  exact k w T x1 m1 c0 s0 C (G.call hi.mono im) (by omega) (by omega)
theorem cs_gainsay (F : FX X v b z A b0 N xs) (C : CLw X w (A, c0, s0) b) (G : GW b T w v x m n) (hp : p + 7 ≤ N) (hn : n < 2 ^ 20) (hc : c0 + 15 ≤ 600000 ∧ s0 + 804 ≤ 7302250) (k : KT X v b A c0 s0 Q b0 p n) : gV X w v (A, c0, s0) Q x m 327 [(0, .ref b0), (1, .ref (wAd w 0)), (2, .ref (wAd v 0)), (3, .int (nI p))] [] := by
  refine v_aload_n C 1 rfl (dk_at dk_Law_3 3 rfl) ?_
  refine v_aload_n C 0 rfl (dk_at dk_Law_3 4 rfl) ?_
  refine v_iload_n C 3 rfl (dk_at dk_Law_3 5 rfl) ?_
  refine v_iconst C 1 (dk_at dk_Law_3 6 rfl) ?_
  refine v_iadd C (dk_at dk_Law_3 7 rfl) ?_
  refine v_sld C F.sc (in_1 hp F.n3) (dk_at dk_Law_3 8 rfl) ?_
  refine v_aload_n C 0 rfl (dk_at dk_Law_3 9 rfl) ?_
  refine v_iload_n C 3 rfl (dk_at dk_Law_3 10 rfl) ?_
  refine v_iconst C 2 (dk_at dk_Law_3 11 rfl) ?_
  refine v_iadd C (dk_at dk_Law_3 12 rfl) ?_
  refine v_sld C F.sc (in_2 hp F.n3) (dk_at dk_Law_3 13 rfl) ?_
  refine v_aload_n C 0 rfl (dk_at dk_Law_3 14 rfl) ?_
  refine v_iload_n C 3 rfl (dk_at dk_Law_3 15 rfl) ?_
  refine v_iconst C 3 (dk_at dk_Law_3 16 rfl) ?_
  refine v_iadd C (dk_at dk_Law_3 17 rfl) ?_
  refine v_sld C F.sc (in_3 hp F.n3) (dk_at dk_Law_3 18 rfl) ?_
  refine v_cXI C G.fl G.dj G.y2 G.y0 cl_Law_27 [.int (xs (nI p + 1).toNatClampNeg), .int (xs (nI p + 2).toNatClampNeg), .int (xs (nI p + 3).toNatClampNeg)] (m_Face_gainsay (G.lyF F) (p_gainsay G.inv hn)) ⟨Nat.le_of_ble_eq_true rfl, Nat.le_of_ble_eq_true rfl, rfl, rfl⟩ rfl rfl (Nat.le_of_ble_eq_true rfl) (dk_at dk_Law_3 19 rfl) (fun r x1 h im => ?_)
  refine v_aload_n C 2 rfl (dk_at dk_Law_3 20 rfl) ?_
  refine v_aload_n C 0 rfl (dk_at dk_Law_3 21 rfl) ?_
  refine v_iload_n C 3 rfl (dk_at dk_Law_3 22 rfl) ?_
  refine v_iconst C 1 (dk_at dk_Law_3 23 rfl) ?_
  refine v_iadd C (dk_at dk_Law_3 24 rfl) ?_
  refine v_sld C F.sc (in_1 hp F.n3) (dk_at dk_Law_3 25 rfl) ?_
  refine v_aload_n C 0 rfl (dk_at dk_Law_3 26 rfl) ?_
  refine v_iload_n C 3 rfl (dk_at dk_Law_3 27 rfl) ?_
  refine v_iconst C 2 (dk_at dk_Law_3 28 rfl) ?_
  refine v_iadd C (dk_at dk_Law_3 29 rfl) ?_
  refine v_sld C F.sc (in_2 hp F.n3) (dk_at dk_Law_3 30 rfl) ?_
  refine v_aload_n C 0 rfl (dk_at dk_Law_3 31 rfl) ?_
  refine v_iload_n C 3 rfl (dk_at dk_Law_3 32 rfl) ?_
  refine v_iconst C 3 (dk_at dk_Law_3 33 rfl) ?_
  refine v_iadd C (dk_at dk_Law_3 34 rfl) ?_
  refine v_sld C F.sc (in_3 hp F.n3) (dk_at dk_Law_3 35 rfl) ?_
  refine v_cMI C F.up F.km G.dj cl_Law_30 [.int (xs (nI p + 1).toNatClampNeg), .int (xs (nI p + 2).toNatClampNeg), .int (xs (nI p + 3).toNatClampNeg)] (m_M_gainsay F.km.2.2.1 h) ⟨Nat.le_of_ble_eq_true rfl, Nat.le_of_ble_eq_true rfl, rfl, rfl⟩ rfl rfl (Nat.le_of_ble_eq_true rfl) (dk_at dk_Law_3 36 rfl) (fun r1 m1 h1 => ?_)
  obtain ⟨rfl, hi⟩ := h1
  refine v_same C 1391 rfl (dk_at dk_Law_3 37 rfl) ?_
  exact k w T x1 m1 c0 s0 C (G.call hi im) (by omega) (by omega)
theorem cs_reader (F : FX X v b z A b0 N xs) (C : CLw X w (A, c0, s0) b) (G : GW b T w v x m n) (hp : p + 7 ≤ N) (hn : n < 2 ^ 20) (hc : c0 + 15 ≤ 600000 ∧ s0 + 804 ≤ 7302250) (k : KT X v b A c0 s0 Q b0 p n) : gV X w v (A, c0, s0) Q x m 370 [(0, .ref b0), (1, .ref (wAd w 0)), (2, .ref (wAd v 0)), (3, .int (nI p))] [] := by
  refine v_aload_n C 1 rfl (dk_at dk_Law_4 0 rfl) ?_
  refine v_aload_n C 0 rfl (dk_at dk_Law_4 1 rfl) ?_
  refine v_iload_n C 3 rfl (dk_at dk_Law_4 2 rfl) ?_
  refine v_iconst C 1 (dk_at dk_Law_4 3 rfl) ?_
  refine v_iadd C (dk_at dk_Law_4 4 rfl) ?_
  refine v_sld C F.sc (in_1 hp F.n3) (dk_at dk_Law_4 5 rfl) ?_
  refine v_aload_n C 0 rfl (dk_at dk_Law_4 6 rfl) ?_
  refine v_iload_n C 3 rfl (dk_at dk_Law_4 7 rfl) ?_
  refine v_iconst C 2 (dk_at dk_Law_4 8 rfl) ?_
  refine v_iadd C (dk_at dk_Law_4 9 rfl) ?_
  refine v_sld C F.sc (in_2 hp F.n3) (dk_at dk_Law_4 10 rfl) ?_
  refine v_cXI C G.fl G.dj G.y2 G.y0 cl_Law_31 [.int (xs (nI p + 1).toNatClampNeg), .int (xs (nI p + 2).toNatClampNeg)] (m_Face_reader (G.lyF F) (p_reader G.inv hn)) ⟨Nat.le_of_ble_eq_true rfl, Nat.le_of_ble_eq_true rfl, rfl, rfl⟩ rfl rfl (Nat.le_of_ble_eq_true rfl) (dk_at dk_Law_4 11 rfl) (fun r x1 h im => ?_)
  refine v_aload_n C 2 rfl (dk_at dk_Law_4 12 rfl) ?_
  refine v_aload_n C 0 rfl (dk_at dk_Law_4 13 rfl) ?_
  refine v_iload_n C 3 rfl (dk_at dk_Law_4 14 rfl) ?_
  refine v_iconst C 1 (dk_at dk_Law_4 15 rfl) ?_
  refine v_iadd C (dk_at dk_Law_4 16 rfl) ?_
  refine v_sld C F.sc (in_1 hp F.n3) (dk_at dk_Law_4 17 rfl) ?_
  refine v_aload_n C 0 rfl (dk_at dk_Law_4 18 rfl) ?_
  refine v_iload_n C 3 rfl (dk_at dk_Law_4 19 rfl) ?_
  refine v_iconst C 2 (dk_at dk_Law_4 20 rfl) ?_
  refine v_iadd C (dk_at dk_Law_4 21 rfl) ?_
  refine v_sld C F.sc (in_2 hp F.n3) (dk_at dk_Law_4 22 rfl) ?_
  refine v_cMI C F.up F.km G.dj cl_Law_34 [.int (xs (nI p + 1).toNatClampNeg), .int (xs (nI p + 2).toNatClampNeg)] (m_M_reader F.km.2.2.1 h) ⟨Nat.le_of_ble_eq_true rfl, Nat.le_of_ble_eq_true rfl, rfl, rfl⟩ rfl rfl (Nat.le_of_ble_eq_true rfl) (dk_at dk_Law_4 23 rfl) (fun r1 m1 h1 => ?_)
  obtain ⟨rfl, hi⟩ := h1
  refine v_same C 1391 rfl (dk_at dk_Law_4 24 rfl) ?_
  exact k w T x1 m1 c0 s0 C (G.call hi im) (by omega) (by omega)
theorem cs_throat (F : FX X v b z A b0 N xs) (C : CLw X w (A, c0, s0) b) (G : GW b T w v x m n) (hp : p + 7 ≤ N) (hn : n < 2 ^ 20) (hc : c0 + 15 ≤ 600000 ∧ s0 + 804 ≤ 7302250) (k : KT X v b A c0 s0 Q b0 p n) : gV X w v (A, c0, s0) Q x m 403 [(0, .ref b0), (1, .ref (wAd w 0)), (2, .ref (wAd v 0)), (3, .int (nI p))] [] := by
  refine v_aload_n C 1 rfl (dk_at dk_Law_4 27 rfl) ?_
  refine v_aload_n C 0 rfl (dk_at dk_Law_4 28 rfl) ?_
  refine v_iload_n C 3 rfl (dk_at dk_Law_4 29 rfl) ?_
  refine v_iconst C 1 (dk_at dk_Law_4 30 rfl) ?_
  refine v_iadd C (dk_at dk_Law_4 31 rfl) ?_
  refine v_sld C F.sc (in_1 hp F.n3) (dk_at dk_Law_4 32 rfl) ?_
  refine v_aload_n C 0 rfl (dk_at dk_Law_4 33 rfl) ?_
  refine v_iload_n C 3 rfl (dk_at dk_Law_4 34 rfl) ?_
  refine v_iconst C 2 (dk_at dk_Law_4 35 rfl) ?_
  refine v_iadd C (dk_at dk_Law_4 36 rfl) ?_
  refine v_sld C F.sc (in_2 hp F.n3) (dk_at dk_Law_4 37 rfl) ?_
  refine v_cXI C G.fl G.dj G.y2 G.y0 cl_Law_35 [.int (xs (nI p + 1).toNatClampNeg), .int (xs (nI p + 2).toNatClampNeg)] (m_Face_throat (G.lyF F) (p_throat G.inv)) ⟨Nat.le_of_ble_eq_true rfl, Nat.le_of_ble_eq_true rfl, rfl, rfl⟩ rfl rfl (Nat.le_of_ble_eq_true rfl) (dk_at dk_Law_4 38 rfl) (fun r x1 h im => ?_)
  refine v_aload_n C 2 rfl (dk_at dk_Law_4 39 rfl) ?_
  refine v_aload_n C 0 rfl (dk_at dk_Law_5 0 rfl) ?_
  refine v_iload_n C 3 rfl (dk_at dk_Law_5 1 rfl) ?_
  refine v_iconst C 1 (dk_at dk_Law_5 2 rfl) ?_
  refine v_iadd C (dk_at dk_Law_5 3 rfl) ?_
  refine v_sld C F.sc (in_1 hp F.n3) (dk_at dk_Law_5 4 rfl) ?_
  refine v_aload_n C 0 rfl (dk_at dk_Law_5 5 rfl) ?_
  refine v_iload_n C 3 rfl (dk_at dk_Law_5 6 rfl) ?_
  refine v_iconst C 2 (dk_at dk_Law_5 7 rfl) ?_
  refine v_iadd C (dk_at dk_Law_5 8 rfl) ?_
  refine v_sld C F.sc (in_2 hp F.n3) (dk_at dk_Law_5 9 rfl) ?_
  refine v_cMI C F.up F.km G.dj cl_Law_38 [.int (xs (nI p + 1).toNatClampNeg), .int (xs (nI p + 2).toNatClampNeg)] (m_M_throat F.km.2.2.1 h) ⟨Nat.le_of_ble_eq_true rfl, Nat.le_of_ble_eq_true rfl, rfl, rfl⟩ rfl rfl (Nat.le_of_ble_eq_true rfl) (dk_at dk_Law_5 10 rfl) (fun r1 m1 h1 => ?_)
  obtain ⟨rfl, hi⟩ := h1
  refine v_same C 1391 rfl (dk_at dk_Law_5 11 rfl) ?_
  exact k w T x1 m1 c0 s0 C (G.call hi.mono im) (by omega) (by omega)
theorem cs_listen (F : FX X v b z A b0 N xs) (C : CLw X w (A, c0, s0) b) (G : GW b T w v x m n) (hp : p + 7 ≤ N) (hn : n < 2 ^ 20) (hc : c0 + 15 ≤ 600000 ∧ s0 + 804 ≤ 7302250) (k : KT X v b A c0 s0 Q b0 p n) : gV X w v (A, c0, s0) Q x m 436 [(0, .ref b0), (1, .ref (wAd w 0)), (2, .ref (wAd v 0)), (3, .int (nI p))] [] := by
  refine v_aload_n C 1 rfl (dk_at dk_Law_5 14 rfl) ?_
  refine v_aload_n C 0 rfl (dk_at dk_Law_5 15 rfl) ?_
  refine v_iload_n C 3 rfl (dk_at dk_Law_5 16 rfl) ?_
  refine v_iconst C 1 (dk_at dk_Law_5 17 rfl) ?_
  refine v_iadd C (dk_at dk_Law_5 18 rfl) ?_
  refine v_sld C F.sc (in_1 hp F.n3) (dk_at dk_Law_5 19 rfl) ?_
  refine v_aload_n C 0 rfl (dk_at dk_Law_5 20 rfl) ?_
  refine v_iload_n C 3 rfl (dk_at dk_Law_5 21 rfl) ?_
  refine v_iconst C 2 (dk_at dk_Law_5 22 rfl) ?_
  refine v_iadd C (dk_at dk_Law_5 23 rfl) ?_
  refine v_sld C F.sc (in_2 hp F.n3) (dk_at dk_Law_5 24 rfl) ?_
  refine v_cXI C G.fl G.dj G.y2 G.y0 cl_Law_39 [.int (xs (nI p + 1).toNatClampNeg), .int (xs (nI p + 2).toNatClampNeg)] (m_Face_listen (G.lyF F) (p_listen G.inv hn)) ⟨Nat.le_of_ble_eq_true rfl, Nat.le_of_ble_eq_true rfl, rfl, rfl⟩ rfl rfl (Nat.le_of_ble_eq_true rfl) (dk_at dk_Law_5 25 rfl) (fun r x1 h im => ?_)
  refine v_aload_n C 2 rfl (dk_at dk_Law_5 26 rfl) ?_
  refine v_aload_n C 0 rfl (dk_at dk_Law_5 27 rfl) ?_
  refine v_iload_n C 3 rfl (dk_at dk_Law_5 28 rfl) ?_
  refine v_iconst C 1 (dk_at dk_Law_5 29 rfl) ?_
  refine v_iadd C (dk_at dk_Law_5 30 rfl) ?_
  refine v_sld C F.sc (in_1 hp F.n3) (dk_at dk_Law_5 31 rfl) ?_
  refine v_aload_n C 0 rfl (dk_at dk_Law_5 32 rfl) ?_
  refine v_iload_n C 3 rfl (dk_at dk_Law_5 33 rfl) ?_
  refine v_iconst C 2 (dk_at dk_Law_5 34 rfl) ?_
  refine v_iadd C (dk_at dk_Law_5 35 rfl) ?_
  refine v_sld C F.sc (in_2 hp F.n3) (dk_at dk_Law_5 36 rfl) ?_
  refine v_cMI C F.up F.km G.dj cl_Law_42 [.int (xs (nI p + 1).toNatClampNeg), .int (xs (nI p + 2).toNatClampNeg)] (m_M_listen F.km.2.2.1 h) ⟨Nat.le_of_ble_eq_true rfl, Nat.le_of_ble_eq_true rfl, rfl, rfl⟩ rfl rfl (Nat.le_of_ble_eq_true rfl) (dk_at dk_Law_5 37 rfl) (fun r1 m1 h1 => ?_)
  obtain ⟨rfl, hi⟩ := h1
  refine v_same C 1391 rfl (dk_at dk_Law_5 38 rfl) ?_
  exact k w T x1 m1 c0 s0 C (G.call hi im) (by omega) (by omega)
theorem cs_terms (F : FX X v b z A b0 N xs) (C : CLw X w (A, c0, s0) b) (G : GW b T w v x m n) (hp : p + 7 ≤ N) (hn : n < 2 ^ 20) (hc : c0 + 15 ≤ 600000 ∧ s0 + 804 ≤ 7302250) (k : KT X v b A c0 s0 Q b0 p n) : gV X w v (A, c0, s0) Q x m 469 [(0, .ref b0), (1, .ref (wAd w 0)), (2, .ref (wAd v 0)), (3, .int (nI p))] [] := by
  refine v_aload_n C 1 rfl (dk_at dk_Law_6 1 rfl) ?_
  refine v_aload_n C 0 rfl (dk_at dk_Law_6 2 rfl) ?_
  refine v_iload_n C 3 rfl (dk_at dk_Law_6 3 rfl) ?_
  refine v_iconst C 1 (dk_at dk_Law_6 4 rfl) ?_
  refine v_iadd C (dk_at dk_Law_6 5 rfl) ?_
  refine v_sld C F.sc (in_1 hp F.n3) (dk_at dk_Law_6 6 rfl) ?_
  refine v_aload_n C 0 rfl (dk_at dk_Law_6 7 rfl) ?_
  refine v_iload_n C 3 rfl (dk_at dk_Law_6 8 rfl) ?_
  refine v_iconst C 2 (dk_at dk_Law_6 9 rfl) ?_
  refine v_iadd C (dk_at dk_Law_6 10 rfl) ?_
  refine v_sld C F.sc (in_2 hp F.n3) (dk_at dk_Law_6 11 rfl) ?_
  refine v_cXI C G.fl G.dj G.y2 G.y0 cl_Law_43 [.int (xs (nI p + 1).toNatClampNeg), .int (xs (nI p + 2).toNatClampNeg)] (m_Face_terms (G.lyF F) (p_terms G.inv hn)) ⟨Nat.le_of_ble_eq_true rfl, Nat.le_of_ble_eq_true rfl, rfl, rfl⟩ rfl rfl (Nat.le_of_ble_eq_true rfl) (dk_at dk_Law_6 12 rfl) (fun r x1 h im => ?_)
  refine v_aload_n C 2 rfl (dk_at dk_Law_6 13 rfl) ?_
  refine v_aload_n C 0 rfl (dk_at dk_Law_6 14 rfl) ?_
  refine v_iload_n C 3 rfl (dk_at dk_Law_6 15 rfl) ?_
  refine v_iconst C 1 (dk_at dk_Law_6 16 rfl) ?_
  refine v_iadd C (dk_at dk_Law_6 17 rfl) ?_
  refine v_sld C F.sc (in_1 hp F.n3) (dk_at dk_Law_6 18 rfl) ?_
  refine v_aload_n C 0 rfl (dk_at dk_Law_6 19 rfl) ?_
  refine v_iload_n C 3 rfl (dk_at dk_Law_6 20 rfl) ?_
  refine v_iconst C 2 (dk_at dk_Law_6 21 rfl) ?_
  refine v_iadd C (dk_at dk_Law_6 22 rfl) ?_
  refine v_sld C F.sc (in_2 hp F.n3) (dk_at dk_Law_6 23 rfl) ?_
  refine v_cMI C F.up F.km G.dj cl_Law_46 [.int (xs (nI p + 1).toNatClampNeg), .int (xs (nI p + 2).toNatClampNeg)] (m_M_terms F.km.2.2.1 h) ⟨Nat.le_of_ble_eq_true rfl, Nat.le_of_ble_eq_true rfl, rfl, rfl⟩ rfl rfl (Nat.le_of_ble_eq_true rfl) (dk_at dk_Law_6 24 rfl) (fun r1 m1 h1 => ?_)
  obtain ⟨rfl, hi⟩ := h1
  refine v_same C 1391 rfl (dk_at dk_Law_6 25 rfl) ?_
  exact k w T x1 m1 c0 s0 C (G.call hi im) (by omega) (by omega)
theorem cs_feed (F : FX X v b z A b0 N xs) (C : CLw X w (A, c0, s0) b) (G : GW b T w v x m n) (hp : p + 7 ≤ N) (hn : n < 2 ^ 20) (hc : c0 + 15 ≤ 600000 ∧ s0 + 804 ≤ 7302250) (k : KT X v b A c0 s0 Q b0 p n) : gV X w v (A, c0, s0) Q x m 502 [(0, .ref b0), (1, .ref (wAd w 0)), (2, .ref (wAd v 0)), (3, .int (nI p))] [] := by
  refine v_aload_n C 1 rfl (dk_at dk_Law_6 28 rfl) ?_
  refine v_aload_n C 0 rfl (dk_at dk_Law_6 29 rfl) ?_
  refine v_iload_n C 3 rfl (dk_at dk_Law_6 30 rfl) ?_
  refine v_iconst C 1 (dk_at dk_Law_6 31 rfl) ?_
  refine v_iadd C (dk_at dk_Law_6 32 rfl) ?_
  refine v_sld C F.sc (in_1 hp F.n3) (dk_at dk_Law_6 33 rfl) ?_
  refine v_aload_n C 0 rfl (dk_at dk_Law_6 34 rfl) ?_
  refine v_iload_n C 3 rfl (dk_at dk_Law_6 35 rfl) ?_
  refine v_iconst C 2 (dk_at dk_Law_6 36 rfl) ?_
  refine v_iadd C (dk_at dk_Law_6 37 rfl) ?_
  refine v_sld C F.sc (in_2 hp F.n3) (dk_at dk_Law_6 38 rfl) ?_
  refine v_aload_n C 0 rfl (dk_at dk_Law_6 39 rfl) ?_
  refine v_iload_n C 3 rfl (dk_at dk_Law_7 0 rfl) ?_
  refine v_iconst C 3 (dk_at dk_Law_7 1 rfl) ?_
  refine v_iadd C (dk_at dk_Law_7 2 rfl) ?_
  refine v_sld C F.sc (in_3 hp F.n3) (dk_at dk_Law_7 3 rfl) ?_
  refine v_aload_n C 0 rfl (dk_at dk_Law_7 4 rfl) ?_
  refine v_iload_n C 3 rfl (dk_at dk_Law_7 5 rfl) ?_
  refine v_iconst C 4 (dk_at dk_Law_7 6 rfl) ?_
  refine v_iadd C (dk_at dk_Law_7 7 rfl) ?_
  refine v_sld C F.sc (in_4 hp F.n3) (dk_at dk_Law_7 8 rfl) ?_
  refine v_aload_n C 0 rfl (dk_at dk_Law_7 9 rfl) ?_
  refine v_iload_n C 3 rfl (dk_at dk_Law_7 10 rfl) ?_
  refine v_iconst C 5 (dk_at dk_Law_7 11 rfl) ?_
  refine v_iadd C (dk_at dk_Law_7 12 rfl) ?_
  refine v_sld C F.sc (in_5 hp F.n3) (dk_at dk_Law_7 13 rfl) ?_
  refine v_cXI C G.fl G.dj G.y2 G.y0 cl_Law_47 [.int (xs (nI p + 1).toNatClampNeg), .int (xs (nI p + 2).toNatClampNeg), .int (xs (nI p + 3).toNatClampNeg), .int (xs (nI p + 4).toNatClampNeg), .int (xs (nI p + 5).toNatClampNeg)] (m_Face_feed (G.lyF F) (p_feed G.inv)) ⟨Nat.le_of_ble_eq_true rfl, Nat.le_of_ble_eq_true rfl, rfl, rfl⟩ rfl rfl (Nat.le_of_ble_eq_true rfl) (dk_at dk_Law_7 14 rfl) (fun r x1 h im => ?_)
  refine v_aload_n C 2 rfl (dk_at dk_Law_7 15 rfl) ?_
  refine v_aload_n C 0 rfl (dk_at dk_Law_7 16 rfl) ?_
  refine v_iload_n C 3 rfl (dk_at dk_Law_7 17 rfl) ?_
  refine v_iconst C 1 (dk_at dk_Law_7 18 rfl) ?_
  refine v_iadd C (dk_at dk_Law_7 19 rfl) ?_
  refine v_sld C F.sc (in_1 hp F.n3) (dk_at dk_Law_7 20 rfl) ?_
  refine v_aload_n C 0 rfl (dk_at dk_Law_7 21 rfl) ?_
  refine v_iload_n C 3 rfl (dk_at dk_Law_7 22 rfl) ?_
  refine v_iconst C 2 (dk_at dk_Law_7 23 rfl) ?_
  refine v_iadd C (dk_at dk_Law_7 24 rfl) ?_
  refine v_sld C F.sc (in_2 hp F.n3) (dk_at dk_Law_7 25 rfl) ?_
  refine v_aload_n C 0 rfl (dk_at dk_Law_7 26 rfl) ?_
  refine v_iload_n C 3 rfl (dk_at dk_Law_7 27 rfl) ?_
  refine v_iconst C 3 (dk_at dk_Law_7 28 rfl) ?_
  refine v_iadd C (dk_at dk_Law_7 29 rfl) ?_
  refine v_sld C F.sc (in_3 hp F.n3) (dk_at dk_Law_7 30 rfl) ?_
  refine v_aload_n C 0 rfl (dk_at dk_Law_7 31 rfl) ?_
  refine v_iload_n C 3 rfl (dk_at dk_Law_7 32 rfl) ?_
  refine v_iconst C 4 (dk_at dk_Law_7 33 rfl) ?_
  refine v_iadd C (dk_at dk_Law_7 34 rfl) ?_
  refine v_sld C F.sc (in_4 hp F.n3) (dk_at dk_Law_7 35 rfl) ?_
  refine v_aload_n C 0 rfl (dk_at dk_Law_7 36 rfl) ?_
  refine v_iload_n C 3 rfl (dk_at dk_Law_7 37 rfl) ?_
  refine v_iconst C 5 (dk_at dk_Law_7 38 rfl) ?_
  refine v_iadd C (dk_at dk_Law_7 39 rfl) ?_
  refine v_sld C F.sc (in_5 hp F.n3) (dk_at dk_Law_8 0 rfl) ?_
  refine v_cMI C F.up F.km G.dj cl_Law_51 [.int (xs (nI p + 1).toNatClampNeg), .int (xs (nI p + 2).toNatClampNeg), .int (xs (nI p + 3).toNatClampNeg), .int (xs (nI p + 4).toNatClampNeg), .int (xs (nI p + 5).toNatClampNeg)] (m_M_feed F.km.2.2.1 h) ⟨Nat.le_of_ble_eq_true rfl, Nat.le_of_ble_eq_true rfl, rfl, rfl⟩ rfl rfl (Nat.le_of_ble_eq_true rfl) (dk_at dk_Law_8 1 rfl) (fun r1 m1 h1 => ?_)
  obtain ⟨rfl, hi⟩ := h1
  refine v_same C 1391 rfl (dk_at dk_Law_8 2 rfl) ?_
  exact k w T x1 m1 c0 s0 C (G.call hi.mono im) (by omega) (by omega)
theorem cs_end (F : FX X v b z A b0 N xs) (C : CLw X w (A, c0, s0) b) (G : GW b T w v x m n) (hp : p + 7 ≤ N) (hn : n < 2 ^ 20) (hc : c0 + 15 ≤ 600000 ∧ s0 + 804 ≤ 7302250) (k : KT X v b A c0 s0 Q b0 p n) : gV X w v (A, c0, s0) Q x m 565 [(0, .ref b0), (1, .ref (wAd w 0)), (2, .ref (wAd v 0)), (3, .int (nI p))] [] := by
  refine v_aload_n C 1 rfl (dk_at dk_Law_8 5 rfl) ?_
  refine v_aload_n C 0 rfl (dk_at dk_Law_8 6 rfl) ?_
  refine v_iload_n C 3 rfl (dk_at dk_Law_8 7 rfl) ?_
  refine v_iconst C 1 (dk_at dk_Law_8 8 rfl) ?_
  refine v_iadd C (dk_at dk_Law_8 9 rfl) ?_
  refine v_sld C F.sc (in_1 hp F.n3) (dk_at dk_Law_8 10 rfl) ?_
  refine v_cXI C G.fl G.dj G.y2 G.y0 cl_Law_52 [.int (xs (nI p + 1).toNatClampNeg)] (m_Face_end (G.lyF F) (p_end G.inv)) ⟨Nat.le_of_ble_eq_true rfl, Nat.le_of_ble_eq_true rfl, rfl, rfl⟩ rfl rfl (Nat.le_of_ble_eq_true rfl) (dk_at dk_Law_8 11 rfl) (fun r x1 h im => ?_)
  refine v_aload_n C 2 rfl (dk_at dk_Law_8 12 rfl) ?_
  refine v_aload_n C 0 rfl (dk_at dk_Law_8 13 rfl) ?_
  refine v_iload_n C 3 rfl (dk_at dk_Law_8 14 rfl) ?_
  refine v_iconst C 1 (dk_at dk_Law_8 15 rfl) ?_
  refine v_iadd C (dk_at dk_Law_8 16 rfl) ?_
  refine v_sld C F.sc (in_1 hp F.n3) (dk_at dk_Law_8 17 rfl) ?_
  refine v_cMI C F.up F.km G.dj cl_Law_56 [.int (xs (nI p + 1).toNatClampNeg)] (m_M_end F.km.2.2.1 h) ⟨Nat.le_of_ble_eq_true rfl, Nat.le_of_ble_eq_true rfl, rfl, rfl⟩ rfl rfl (Nat.le_of_ble_eq_true rfl) (dk_at dk_Law_8 18 rfl) (fun r1 m1 h1 => ?_)
  obtain ⟨rfl, hi⟩ := h1
  refine v_same C 1391 rfl (dk_at dk_Law_8 19 rfl) ?_
  exact k w T x1 m1 c0 s0 C (G.call hi.mono im) (by omega) (by omega)
theorem cs_row (F : FX X v b z A b0 N xs) (C : CLw X w (A, c0, s0) b) (G : GW b T w v x m n) (hp : p + 7 ≤ N) (hn : n < 2 ^ 20) (hc : c0 + 15 ≤ 600000 ∧ s0 + 804 ≤ 7302250) (k : KT X v b A c0 s0 Q b0 p n) : gV X w v (A, c0, s0) Q x m 588 [(0, .ref b0), (1, .ref (wAd w 0)), (2, .ref (wAd v 0)), (3, .int (nI p))] [] := by
  refine v_aload_n C 1 rfl (dk_at dk_Law_8 22 rfl) ?_
  refine v_cXI C G.fl G.dj G.y2 G.y0 cl_Law_57 [] (m_Face_row (G.lyF F) (p_row G.inv hn)) ⟨Nat.le_of_ble_eq_true rfl, Nat.le_of_ble_eq_true rfl, rfl, rfl⟩ rfl rfl (Nat.le_of_ble_eq_true rfl) (dk_at dk_Law_8 23 rfl) (fun r x1 h im => ?_)
  refine v_aload_n C 2 rfl (dk_at dk_Law_8 24 rfl) ?_
  refine v_cMI C F.up F.km G.dj cl_Law_61 [] (m_M_row F.km.2.2.1 h) ⟨Nat.le_of_ble_eq_true rfl, Nat.le_of_ble_eq_true rfl, rfl, rfl⟩ rfl rfl (Nat.le_of_ble_eq_true rfl) (dk_at dk_Law_8 25 rfl) (fun r1 m1 h1 => ?_)
  obtain ⟨rfl, hi⟩ := h1
  refine v_same C 1391 rfl (dk_at dk_Law_8 26 rfl) ?_
  exact k w T x1 m1 c0 s0 C (G.call hi im) (by omega) (by omega)
theorem cs_mud (F : FX X v b z A b0 N xs) (C : CLw X w (A, c0, s0) b) (G : GW b T w v x m n) (hp : p + 7 ≤ N) (hn : n < 2 ^ 20) (hc : c0 + 15 ≤ 600000 ∧ s0 + 804 ≤ 7302250) (k : KT X v b A c0 s0 Q b0 p n) : gV X w v (A, c0, s0) Q x m 601 [(0, .ref b0), (1, .ref (wAd w 0)), (2, .ref (wAd v 0)), (3, .int (nI p))] [] := by
  refine v_aload_n C 1 rfl (dk_at dk_Law_8 29 rfl) ?_
  refine v_cXI C G.fl G.dj G.y2 G.y0 cl_Law_62 [] (m_Face_mud (G.lyF F) (p_mud G.inv)) ⟨Nat.le_of_ble_eq_true rfl, Nat.le_of_ble_eq_true rfl, rfl, rfl⟩ rfl rfl (Nat.le_of_ble_eq_true rfl) (dk_at dk_Law_8 30 rfl) (fun r x1 h im => ?_)
  refine v_aload_n C 2 rfl (dk_at dk_Law_8 31 rfl) ?_
  refine v_cMI C F.up F.km G.dj cl_Law_65 [] (m_M_mud F.km.2.2.1 h) ⟨Nat.le_of_ble_eq_true rfl, Nat.le_of_ble_eq_true rfl, rfl, rfl⟩ rfl rfl (Nat.le_of_ble_eq_true rfl) (dk_at dk_Law_8 32 rfl) (fun r1 m1 h1 => ?_)
  obtain ⟨rfl, hi⟩ := h1
  refine v_same C 1391 rfl (dk_at dk_Law_8 33 rfl) ?_
  exact k w T x1 m1 c0 s0 C (G.call hi.mono im) (by omega) (by omega)
theorem cs_fault (F : FX X v b z A b0 N xs) (C : CLw X w (A, c0, s0) b) (G : GW b T w v x m n) (hp : p + 7 ≤ N) (hn : n < 2 ^ 20) (hc : c0 + 15 ≤ 600000 ∧ s0 + 804 ≤ 7302250) (k : KT X v b A c0 s0 Q b0 p n) : gV X w v (A, c0, s0) Q x m 640 [(0, .ref b0), (1, .ref (wAd w 0)), (2, .ref (wAd v 0)), (3, .int (nI p))] [] := by
  refine v_aload_n C 1 rfl (dk_at dk_Law_9 10 rfl) ?_
  refine v_cXI C G.fl G.dj G.y2 G.y0 cl_Law_74 [] (m_Face_fault (G.lyF F) (p_fault G.inv)) ⟨Nat.le_of_ble_eq_true rfl, Nat.le_of_ble_eq_true rfl, rfl, rfl⟩ rfl rfl (Nat.le_of_ble_eq_true rfl) (dk_at dk_Law_9 11 rfl) (fun r x1 h im => ?_)
  refine v_aload_n C 2 rfl (dk_at dk_Law_9 12 rfl) ?_
  refine v_cMI C F.up F.km G.dj cl_Law_77 [] (m_M_fault F.km.2.2.1 h) ⟨Nat.le_of_ble_eq_true rfl, Nat.le_of_ble_eq_true rfl, rfl, rfl⟩ rfl rfl (Nat.le_of_ble_eq_true rfl) (dk_at dk_Law_9 13 rfl) (fun r1 m1 h1 => ?_)
  obtain ⟨rfl, hi⟩ := h1
  refine v_same C 1391 rfl (dk_at dk_Law_9 14 rfl) ?_
  exact k w T x1 m1 c0 s0 C (G.call hi.mono im) (by omega) (by omega)
theorem cs_stopped (F : FX X v b z A b0 N xs) (C : CLw X w (A, c0, s0) b) (G : GW b T w v x m n) (hp : p + 7 ≤ N) (hn : n < 2 ^ 20) (hc : c0 + 15 ≤ 600000 ∧ s0 + 804 ≤ 7302250) (k : KT X v b A c0 s0 Q b0 p n) : gV X w v (A, c0, s0) Q x m 653 [(0, .ref b0), (1, .ref (wAd w 0)), (2, .ref (wAd v 0)), (3, .int (nI p))] [] := by
  refine v_aload_n C 1 rfl (dk_at dk_Law_9 17 rfl) ?_
  refine v_cXI C G.fl G.dj G.y2 G.y0 cl_Law_78 [] (m_Face_stopped (G.lyF F) (p_stopped G.inv)) ⟨Nat.le_of_ble_eq_true rfl, Nat.le_of_ble_eq_true rfl, rfl, rfl⟩ rfl rfl (Nat.le_of_ble_eq_true rfl) (dk_at dk_Law_9 18 rfl) (fun r x1 h im => ?_)
  refine v_aload_n C 2 rfl (dk_at dk_Law_9 19 rfl) ?_
  refine v_cMI C F.up F.km G.dj cl_Law_81 [] (m_M_stopped F.km.2.2.1 h) ⟨Nat.le_of_ble_eq_true rfl, Nat.le_of_ble_eq_true rfl, rfl, rfl⟩ rfl rfl (Nat.le_of_ble_eq_true rfl) (dk_at dk_Law_9 20 rfl) (fun r1 m1 h1 => ?_)
  obtain ⟨rfl, hi⟩ := h1
  refine v_same C 1391 rfl (dk_at dk_Law_9 21 rfl) ?_
  exact k w T x1 m1 c0 s0 C (G.call hi.mono im) (by omega) (by omega)
theorem cs_force (F : FX X v b z A b0 N xs) (C : CLw X w (A, c0, s0) b) (G : GW b T w v x m n) (hp : p + 7 ≤ N) (hn : n < 2 ^ 20) (hc : c0 + 15 ≤ 600000 ∧ s0 + 804 ≤ 7302250) (k : KT X v b A c0 s0 Q b0 p n) : gV X w v (A, c0, s0) Q x m 666 [(0, .ref b0), (1, .ref (wAd w 0)), (2, .ref (wAd v 0)), (3, .int (nI p))] [] := by
  refine v_aload_n C 1 rfl (dk_at dk_Law_9 24 rfl) ?_
  refine v_aload_n C 0 rfl (dk_at dk_Law_9 25 rfl) ?_
  refine v_iload_n C 3 rfl (dk_at dk_Law_9 26 rfl) ?_
  refine v_iconst C 1 (dk_at dk_Law_9 27 rfl) ?_
  refine v_iadd C (dk_at dk_Law_9 28 rfl) ?_
  refine v_sld C F.sc (in_1 hp F.n3) (dk_at dk_Law_9 29 rfl) ?_
  refine v_cXI C G.fl G.dj G.y2 G.y0 cl_Law_82 [.int (xs (nI p + 1).toNatClampNeg)] (m_Face_force (G.lyF F) (p_force G.inv hn)) ⟨Nat.le_of_ble_eq_true rfl, Nat.le_of_ble_eq_true rfl, rfl, rfl⟩ rfl rfl (Nat.le_of_ble_eq_true rfl) (dk_at dk_Law_9 30 rfl) (fun r x1 h im => ?_)
  refine v_aload_n C 2 rfl (dk_at dk_Law_9 31 rfl) ?_
  refine v_aload_n C 0 rfl (dk_at dk_Law_9 32 rfl) ?_
  refine v_iload_n C 3 rfl (dk_at dk_Law_9 33 rfl) ?_
  refine v_iconst C 1 (dk_at dk_Law_9 34 rfl) ?_
  refine v_iadd C (dk_at dk_Law_9 35 rfl) ?_
  refine v_sld C F.sc (in_1 hp F.n3) (dk_at dk_Law_9 36 rfl) ?_
  refine v_cMI C F.up F.km G.dj cl_Law_85 [.int (xs (nI p + 1).toNatClampNeg)] (m_M_force F.km.2.2.1 h) ⟨Nat.le_of_ble_eq_true rfl, Nat.le_of_ble_eq_true rfl, rfl, rfl⟩ rfl rfl (Nat.le_of_ble_eq_true rfl) (dk_at dk_Law_9 37 rfl) (fun r1 m1 h1 => ?_)
  obtain ⟨rfl, hi⟩ := h1
  refine v_same C 1391 rfl (dk_at dk_Law_9 38 rfl) ?_
  exact k w T x1 m1 c0 s0 C (G.call hi im) (by omega) (by omega)
theorem cs_asks (F : FX X v b z A b0 N xs) (C : CLw X w (A, c0, s0) b) (G : GW b T w v x m n) (hp : p + 7 ≤ N) (hn : n < 2 ^ 20) (hc : c0 + 15 ≤ 600000 ∧ s0 + 804 ≤ 7302250) (k : KT X v b A c0 s0 Q b0 p n) : gV X w v (A, c0, s0) Q x m 689 [(0, .ref b0), (1, .ref (wAd w 0)), (2, .ref (wAd v 0)), (3, .int (nI p))] [] := by
  refine v_aload_n C 1 rfl (dk_at dk_Law_10 1 rfl) ?_
  refine v_aload_n C 0 rfl (dk_at dk_Law_10 2 rfl) ?_
  refine v_iload_n C 3 rfl (dk_at dk_Law_10 3 rfl) ?_
  refine v_iconst C 1 (dk_at dk_Law_10 4 rfl) ?_
  refine v_iadd C (dk_at dk_Law_10 5 rfl) ?_
  refine v_sld C F.sc (in_1 hp F.n3) (dk_at dk_Law_10 6 rfl) ?_
  refine v_aload_n C 0 rfl (dk_at dk_Law_10 7 rfl) ?_
  refine v_iload_n C 3 rfl (dk_at dk_Law_10 8 rfl) ?_
  refine v_iconst C 2 (dk_at dk_Law_10 9 rfl) ?_
  refine v_iadd C (dk_at dk_Law_10 10 rfl) ?_
  refine v_sld C F.sc (in_2 hp F.n3) (dk_at dk_Law_10 11 rfl) ?_
  refine v_aload_n C 0 rfl (dk_at dk_Law_10 12 rfl) ?_
  refine v_iload_n C 3 rfl (dk_at dk_Law_10 13 rfl) ?_
  refine v_iconst C 3 (dk_at dk_Law_10 14 rfl) ?_
  refine v_iadd C (dk_at dk_Law_10 15 rfl) ?_
  refine v_sld C F.sc (in_3 hp F.n3) (dk_at dk_Law_10 16 rfl) ?_
  refine v_cXI C G.fl G.dj G.y2 G.y0 cl_Law_86 [.int (xs (nI p + 1).toNatClampNeg), .int (xs (nI p + 2).toNatClampNeg), .int (xs (nI p + 3).toNatClampNeg)] (m_Face_asks (G.lyF F) (p_asks G.inv)) ⟨Nat.le_of_ble_eq_true rfl, Nat.le_of_ble_eq_true rfl, rfl, rfl⟩ rfl rfl (Nat.le_of_ble_eq_true rfl) (dk_at dk_Law_10 17 rfl) (fun r x1 h im => ?_)
  refine v_aload_n C 2 rfl (dk_at dk_Law_10 18 rfl) ?_
  refine v_aload_n C 0 rfl (dk_at dk_Law_10 19 rfl) ?_
  refine v_iload_n C 3 rfl (dk_at dk_Law_10 20 rfl) ?_
  refine v_iconst C 1 (dk_at dk_Law_10 21 rfl) ?_
  refine v_iadd C (dk_at dk_Law_10 22 rfl) ?_
  refine v_sld C F.sc (in_1 hp F.n3) (dk_at dk_Law_10 23 rfl) ?_
  refine v_aload_n C 0 rfl (dk_at dk_Law_10 24 rfl) ?_
  refine v_iload_n C 3 rfl (dk_at dk_Law_10 25 rfl) ?_
  refine v_iconst C 2 (dk_at dk_Law_10 26 rfl) ?_
  refine v_iadd C (dk_at dk_Law_10 27 rfl) ?_
  refine v_sld C F.sc (in_2 hp F.n3) (dk_at dk_Law_10 28 rfl) ?_
  refine v_aload_n C 0 rfl (dk_at dk_Law_10 29 rfl) ?_
  refine v_iload_n C 3 rfl (dk_at dk_Law_10 30 rfl) ?_
  refine v_iconst C 3 (dk_at dk_Law_10 31 rfl) ?_
  refine v_iadd C (dk_at dk_Law_10 32 rfl) ?_
  refine v_sld C F.sc (in_3 hp F.n3) (dk_at dk_Law_10 33 rfl) ?_
  refine v_cMI C F.up F.km G.dj cl_Law_89 [.int (xs (nI p + 1).toNatClampNeg), .int (xs (nI p + 2).toNatClampNeg), .int (xs (nI p + 3).toNatClampNeg)] (m_M_asks F.km.2.2.1 h) ⟨Nat.le_of_ble_eq_true rfl, Nat.le_of_ble_eq_true rfl, rfl, rfl⟩ rfl rfl (Nat.le_of_ble_eq_true rfl) (dk_at dk_Law_10 34 rfl) (fun r1 m1 h1 => ?_)
  obtain ⟨rfl, hi⟩ := h1
  refine v_same C 1391 rfl (dk_at dk_Law_10 35 rfl) ?_
  exact k w T x1 m1 c0 s0 C (G.call hi.mono im) (by omega) (by omega)
theorem cs_read (F : FX X v b z A b0 N xs) (C : CLw X w (A, c0, s0) b) (G : GW b T w v x m n) (hp : p + 7 ≤ N) (hn : n < 2 ^ 20) (hc : c0 + 15 ≤ 600000 ∧ s0 + 804 ≤ 7302250) (k : KT X v b A c0 s0 Q b0 p n) : gV X w v (A, c0, s0) Q x m 732 [(0, .ref b0), (1, .ref (wAd w 0)), (2, .ref (wAd v 0)), (3, .int (nI p))] [] := by
  refine v_aload_n C 1 rfl (dk_at dk_Law_10 38 rfl) ?_
  refine v_aload_n C 0 rfl (dk_at dk_Law_10 39 rfl) ?_
  refine v_iload_n C 3 rfl (dk_at dk_Law_11 0 rfl) ?_
  refine v_iconst C 1 (dk_at dk_Law_11 1 rfl) ?_
  refine v_iadd C (dk_at dk_Law_11 2 rfl) ?_
  refine v_sld C F.sc (in_1 hp F.n3) (dk_at dk_Law_11 3 rfl) ?_
  refine v_aload_n C 0 rfl (dk_at dk_Law_11 4 rfl) ?_
  refine v_iload_n C 3 rfl (dk_at dk_Law_11 5 rfl) ?_
  refine v_iconst C 2 (dk_at dk_Law_11 6 rfl) ?_
  refine v_iadd C (dk_at dk_Law_11 7 rfl) ?_
  refine v_sld C F.sc (in_2 hp F.n3) (dk_at dk_Law_11 8 rfl) ?_
  refine v_cXI C G.fl G.dj G.y2 G.y0 cl_Law_90 [.int (xs (nI p + 1).toNatClampNeg), .int (xs (nI p + 2).toNatClampNeg)] (m_Face_read (G.lyF F) (p_read G.inv hn)) ⟨Nat.le_of_ble_eq_true rfl, Nat.le_of_ble_eq_true rfl, rfl, rfl⟩ rfl rfl (Nat.le_of_ble_eq_true rfl) (dk_at dk_Law_11 9 rfl) (fun r x1 h im => ?_)
  refine v_aload_n C 2 rfl (dk_at dk_Law_11 10 rfl) ?_
  refine v_aload_n C 0 rfl (dk_at dk_Law_11 11 rfl) ?_
  refine v_iload_n C 3 rfl (dk_at dk_Law_11 12 rfl) ?_
  refine v_iconst C 1 (dk_at dk_Law_11 13 rfl) ?_
  refine v_iadd C (dk_at dk_Law_11 14 rfl) ?_
  refine v_sld C F.sc (in_1 hp F.n3) (dk_at dk_Law_11 15 rfl) ?_
  refine v_aload_n C 0 rfl (dk_at dk_Law_11 16 rfl) ?_
  refine v_iload_n C 3 rfl (dk_at dk_Law_11 17 rfl) ?_
  refine v_iconst C 2 (dk_at dk_Law_11 18 rfl) ?_
  refine v_iadd C (dk_at dk_Law_11 19 rfl) ?_
  refine v_sld C F.sc (in_2 hp F.n3) (dk_at dk_Law_11 20 rfl) ?_
  refine v_cMI C F.up F.km G.dj cl_Law_93 [.int (xs (nI p + 1).toNatClampNeg), .int (xs (nI p + 2).toNatClampNeg)] (m_M_read F.km.2.2.1 h) ⟨Nat.le_of_ble_eq_true rfl, Nat.le_of_ble_eq_true rfl, rfl, rfl⟩ rfl rfl (Nat.le_of_ble_eq_true rfl) (dk_at dk_Law_11 21 rfl) (fun r1 m1 h1 => ?_)
  obtain ⟨rfl, hi⟩ := h1
  refine v_same C 1391 rfl (dk_at dk_Law_11 22 rfl) ?_
  exact k w T x1 m1 c0 s0 C (G.call hi im) (by omega) (by omega)
theorem cs_undo (F : FX X v b z A b0 N xs) (C : CLw X w (A, c0, s0) b) (G : GW b T w v x m n) (hp : p + 7 ≤ N) (hn : n < 2 ^ 20) (hc : c0 + 15 ≤ 600000 ∧ s0 + 804 ≤ 7302250) (k : KT X v b A c0 s0 Q b0 p n) : gV X w v (A, c0, s0) Q x m 765 [(0, .ref b0), (1, .ref (wAd w 0)), (2, .ref (wAd v 0)), (3, .int (nI p))] [] := by
  refine v_aload_n C 1 rfl (dk_at dk_Law_11 25 rfl) ?_
  refine v_cXI C G.fl G.dj G.y2 G.y0 cl_Law_94 [] (m_Face_undo (G.lyF F) (p_undo G.inv hn)) ⟨Nat.le_of_ble_eq_true rfl, Nat.le_of_ble_eq_true rfl, rfl, rfl⟩ rfl rfl (Nat.le_of_ble_eq_true rfl) (dk_at dk_Law_11 26 rfl) (fun r x1 h im => ?_)
  refine v_aload_n C 2 rfl (dk_at dk_Law_11 27 rfl) ?_
  refine v_cMI C F.up F.km G.dj cl_Law_97 [] (m_M_undo F.km.2.2.1 h) ⟨Nat.le_of_ble_eq_true rfl, Nat.le_of_ble_eq_true rfl, rfl, rfl⟩ rfl rfl (Nat.le_of_ble_eq_true rfl) (dk_at dk_Law_11 28 rfl) (fun r1 m1 h1 => ?_)
  obtain ⟨rfl, hi⟩ := h1
  refine v_same C 1391 rfl (dk_at dk_Law_11 29 rfl) ?_
  exact k w T x1 m1 c0 s0 C (G.call hi im) (by omega) (by omega)
end LCS
