/-! ===== the law, case by case (by program: wip/whole/mkw.py) ===== -/
section LCS
variable {X : CT} {w v : WO} {A : Nat → Prop} {b : BZ} {z : EXa} {b0 N c0 s0 n p : Nat} {xs : Nat → Int32} {T : TXT} {x m : DD} {Q : State → Prop}
theorem cs_log (F : FX X v b z A b0 N xs) (C : CLw X w (A, c0, s0) b) (G : GW b T w v x m n) (hp : p + 7 ≤ N) (hn : n < 2 ^ 20) (hc : c0 + 15 ≤ 600000 ∧ s0 + 804 ≤ 7302250) (k : KT X v b A c0 s0 Q b0 p n) : gV X w v (A, c0, s0) Q x m 778 [(0, .ref b0), (1, .ref (wAd w 0)), (2, .ref (wAd v 0)), (3, .int (nI p))] [] := by
  refine v_aload_n C 1 rfl (dk_at dk_Law_11 32 rfl) ?_
  refine v_aload_n C 0 rfl (dk_at dk_Law_11 33 rfl) ?_
  refine v_iload_n C 3 rfl (dk_at dk_Law_11 34 rfl) ?_
  refine v_iconst C 1 (dk_at dk_Law_11 35 rfl) ?_
  refine v_iadd C (dk_at dk_Law_11 36 rfl) ?_
  refine v_sld C F.sc (in_1 hp F.n3) (dk_at dk_Law_11 37 rfl) ?_
  refine v_aload_n C 0 rfl (dk_at dk_Law_11 38 rfl) ?_
  refine v_iload_n C 3 rfl (dk_at dk_Law_11 39 rfl) ?_
  refine v_iconst C 2 (dk_at dk_Law_12 0 rfl) ?_
  refine v_iadd C (dk_at dk_Law_12 1 rfl) ?_
  refine v_sld C F.sc (in_2 hp F.n3) (dk_at dk_Law_12 2 rfl) ?_
  refine v_cXI C G.fl G.dj G.y2 G.y0 cl_Law_98 [.int (xs (nI p + 1).toNatClampNeg), .int (xs (nI p + 2).toNatClampNeg)] (m_Face_log (G.lyF F) (p_log G.inv)) ⟨Nat.le_of_ble_eq_true rfl, Nat.le_of_ble_eq_true rfl, rfl, rfl⟩ rfl rfl (Nat.le_of_ble_eq_true rfl) (dk_at dk_Law_12 3 rfl) (fun r x1 h im => ?_)
  refine v_aload_n C 2 rfl (dk_at dk_Law_12 4 rfl) ?_
  refine v_aload_n C 0 rfl (dk_at dk_Law_12 5 rfl) ?_
  refine v_iload_n C 3 rfl (dk_at dk_Law_12 6 rfl) ?_
  refine v_iconst C 1 (dk_at dk_Law_12 7 rfl) ?_
  refine v_iadd C (dk_at dk_Law_12 8 rfl) ?_
  refine v_sld C F.sc (in_1 hp F.n3) (dk_at dk_Law_12 9 rfl) ?_
  refine v_aload_n C 0 rfl (dk_at dk_Law_12 10 rfl) ?_
  refine v_iload_n C 3 rfl (dk_at dk_Law_12 11 rfl) ?_
  refine v_iconst C 2 (dk_at dk_Law_12 12 rfl) ?_
  refine v_iadd C (dk_at dk_Law_12 13 rfl) ?_
  refine v_sld C F.sc (in_2 hp F.n3) (dk_at dk_Law_12 14 rfl) ?_
  refine v_cMI C F.up F.km G.dj cl_Law_101 [.int (xs (nI p + 1).toNatClampNeg), .int (xs (nI p + 2).toNatClampNeg)] (m_M_log F.km.2.2.1 h) ⟨Nat.le_of_ble_eq_true rfl, Nat.le_of_ble_eq_true rfl, rfl, rfl⟩ rfl rfl (Nat.le_of_ble_eq_true rfl) (dk_at dk_Law_12 15 rfl) (fun r1 m1 h1 => ?_)
  obtain ⟨rfl, hi⟩ := h1
  refine v_same C 1391 rfl (dk_at dk_Law_12 16 rfl) ?_
  exact k w T x1 m1 c0 s0 C (G.call hi.mono im) (by omega) (by omega)
theorem cs_await (F : FX X v b z A b0 N xs) (C : CLw X w (A, c0, s0) b) (G : GW b T w v x m n) (hp : p + 7 ≤ N) (hn : n < 2 ^ 20) (hc : c0 + 15 ≤ 600000 ∧ s0 + 804 ≤ 7302250) (k : KT X v b A c0 s0 Q b0 p n) : gV X w v (A, c0, s0) Q x m 811 [(0, .ref b0), (1, .ref (wAd w 0)), (2, .ref (wAd v 0)), (3, .int (nI p))] [] := by
  refine v_aload_n C 1 rfl (dk_at dk_Law_12 19 rfl) ?_
  refine v_cXI C G.fl G.dj G.y2 G.y0 cl_Law_102 [] (m_Face_await (G.lyF F) (p_await G.inv hn)) ⟨Nat.le_of_ble_eq_true rfl, Nat.le_of_ble_eq_true rfl, rfl, rfl⟩ rfl rfl (Nat.le_of_ble_eq_true rfl) (dk_at dk_Law_12 20 rfl) (fun r x1 h im => ?_)
  refine v_aload_n C 2 rfl (dk_at dk_Law_12 21 rfl) ?_
  refine v_cMI C F.up F.km G.dj cl_Law_105 [] (m_M_await F.km.2.2.1 h) ⟨Nat.le_of_ble_eq_true rfl, Nat.le_of_ble_eq_true rfl, rfl, rfl⟩ rfl rfl (Nat.le_of_ble_eq_true rfl) (dk_at dk_Law_12 22 rfl) (fun r1 m1 h1 => ?_)
  obtain ⟨rfl, hi⟩ := h1
  refine v_same C 1391 rfl (dk_at dk_Law_12 23 rfl) ?_
  exact k w T x1 m1 c0 s0 C (G.call hi im) (by omega) (by omega)
theorem cs_held (F : FX X v b z A b0 N xs) (C : CLw X w (A, c0, s0) b) (G : GW b T w v x m n) (hp : p + 7 ≤ N) (hn : n < 2 ^ 20) (hc : c0 + 15 ≤ 600000 ∧ s0 + 804 ≤ 7302250) (k : KT X v b A c0 s0 Q b0 p n) : gV X w v (A, c0, s0) Q x m 824 [(0, .ref b0), (1, .ref (wAd w 0)), (2, .ref (wAd v 0)), (3, .int (nI p))] [] := by
  refine v_aload_n C 1 rfl (dk_at dk_Law_12 26 rfl) ?_
  refine v_aload_n C 0 rfl (dk_at dk_Law_12 27 rfl) ?_
  refine v_iload_n C 3 rfl (dk_at dk_Law_12 28 rfl) ?_
  refine v_iconst C 1 (dk_at dk_Law_12 29 rfl) ?_
  refine v_iadd C (dk_at dk_Law_12 30 rfl) ?_
  refine v_sld C F.sc (in_1 hp F.n3) (dk_at dk_Law_12 31 rfl) ?_
  refine v_cXI C G.fl G.dj G.y2 G.y0 cl_Law_106 [.int (xs (nI p + 1).toNatClampNeg)] (m_Face_held (G.lyF F) (p_held G.inv)) ⟨Nat.le_of_ble_eq_true rfl, Nat.le_of_ble_eq_true rfl, rfl, rfl⟩ rfl rfl (Nat.le_of_ble_eq_true rfl) (dk_at dk_Law_12 32 rfl) (fun r x1 h im => ?_)
  refine v_aload_n C 2 rfl (dk_at dk_Law_12 33 rfl) ?_
  refine v_aload_n C 0 rfl (dk_at dk_Law_12 34 rfl) ?_
  refine v_iload_n C 3 rfl (dk_at dk_Law_12 35 rfl) ?_
  refine v_iconst C 1 (dk_at dk_Law_12 36 rfl) ?_
  refine v_iadd C (dk_at dk_Law_12 37 rfl) ?_
  refine v_sld C F.sc (in_1 hp F.n3) (dk_at dk_Law_12 38 rfl) ?_
  refine v_cMI C F.up F.km G.dj cl_Law_109 [.int (xs (nI p + 1).toNatClampNeg)] (m_M_held F.km.2.2.1 h) ⟨Nat.le_of_ble_eq_true rfl, Nat.le_of_ble_eq_true rfl, rfl, rfl⟩ rfl rfl (Nat.le_of_ble_eq_true rfl) (dk_at dk_Law_12 39 rfl) (fun r1 m1 h1 => ?_)
  obtain ⟨rfl, hi⟩ := h1
  refine v_same C 1391 rfl (dk_at dk_Law_13 0 rfl) ?_
  exact k w T x1 m1 c0 s0 C (G.call hi.mono im) (by omega) (by omega)
theorem cs_bound (F : FX X v b z A b0 N xs) (C : CLw X w (A, c0, s0) b) (G : GW b T w v x m n) (hp : p + 7 ≤ N) (hn : n < 2 ^ 20) (hc : c0 + 15 ≤ 600000 ∧ s0 + 804 ≤ 7302250) (k : KT X v b A c0 s0 Q b0 p n) : gV X w v (A, c0, s0) Q x m 847 [(0, .ref b0), (1, .ref (wAd w 0)), (2, .ref (wAd v 0)), (3, .int (nI p))] [] := by
  refine v_aload_n C 1 rfl (dk_at dk_Law_13 3 rfl) ?_
  refine v_aload_n C 0 rfl (dk_at dk_Law_13 4 rfl) ?_
  refine v_iload_n C 3 rfl (dk_at dk_Law_13 5 rfl) ?_
  refine v_iconst C 1 (dk_at dk_Law_13 6 rfl) ?_
  refine v_iadd C (dk_at dk_Law_13 7 rfl) ?_
  refine v_sld C F.sc (in_1 hp F.n3) (dk_at dk_Law_13 8 rfl) ?_
  refine v_aload_n C 0 rfl (dk_at dk_Law_13 9 rfl) ?_
  refine v_iload_n C 3 rfl (dk_at dk_Law_13 10 rfl) ?_
  refine v_iconst C 2 (dk_at dk_Law_13 11 rfl) ?_
  refine v_iadd C (dk_at dk_Law_13 12 rfl) ?_
  refine v_sld C F.sc (in_2 hp F.n3) (dk_at dk_Law_13 13 rfl) ?_
  refine v_cXI C G.fl G.dj G.y2 G.y0 cl_Law_110 [.int (xs (nI p + 1).toNatClampNeg), .int (xs (nI p + 2).toNatClampNeg)] (m_Face_bound (G.lyF F) (p_bound G.inv)) ⟨Nat.le_of_ble_eq_true rfl, Nat.le_of_ble_eq_true rfl, rfl, rfl⟩ rfl rfl (Nat.le_of_ble_eq_true rfl) (dk_at dk_Law_13 14 rfl) (fun r x1 h im => ?_)
  refine v_aload_n C 2 rfl (dk_at dk_Law_13 15 rfl) ?_
  refine v_aload_n C 0 rfl (dk_at dk_Law_13 16 rfl) ?_
  refine v_iload_n C 3 rfl (dk_at dk_Law_13 17 rfl) ?_
  refine v_iconst C 1 (dk_at dk_Law_13 18 rfl) ?_
  refine v_iadd C (dk_at dk_Law_13 19 rfl) ?_
  refine v_sld C F.sc (in_1 hp F.n3) (dk_at dk_Law_13 20 rfl) ?_
  refine v_aload_n C 0 rfl (dk_at dk_Law_13 21 rfl) ?_
  refine v_iload_n C 3 rfl (dk_at dk_Law_13 22 rfl) ?_
  refine v_iconst C 2 (dk_at dk_Law_13 23 rfl) ?_
  refine v_iadd C (dk_at dk_Law_13 24 rfl) ?_
  refine v_sld C F.sc (in_2 hp F.n3) (dk_at dk_Law_13 25 rfl) ?_
  refine v_cMI C F.up F.km G.dj cl_Law_113 [.int (xs (nI p + 1).toNatClampNeg), .int (xs (nI p + 2).toNatClampNeg)] (m_M_bound F.km.2.2.1 h) ⟨Nat.le_of_ble_eq_true rfl, Nat.le_of_ble_eq_true rfl, rfl, rfl⟩ rfl rfl (Nat.le_of_ble_eq_true rfl) (dk_at dk_Law_13 26 rfl) (fun r1 m1 h1 => ?_)
  obtain ⟨rfl, hi⟩ := h1
  refine v_same C 1391 rfl (dk_at dk_Law_13 27 rfl) ?_
  exact k w T x1 m1 c0 s0 C (G.call hi.mono im) (by omega) (by omega)
theorem cs_mornings (F : FX X v b z A b0 N xs) (C : CLw X w (A, c0, s0) b) (G : GW b T w v x m n) (hp : p + 7 ≤ N) (hn : n < 2 ^ 20) (hc : c0 + 15 ≤ 600000 ∧ s0 + 804 ≤ 7302250) (k : KT X v b A c0 s0 Q b0 p n) : gV X w v (A, c0, s0) Q x m 880 [(0, .ref b0), (1, .ref (wAd w 0)), (2, .ref (wAd v 0)), (3, .int (nI p))] [] := by
  refine v_aload_n C 1 rfl (dk_at dk_Law_13 30 rfl) ?_
  refine v_aload_n C 0 rfl (dk_at dk_Law_13 31 rfl) ?_
  refine v_iload_n C 3 rfl (dk_at dk_Law_13 32 rfl) ?_
  refine v_iconst C 1 (dk_at dk_Law_13 33 rfl) ?_
  refine v_iadd C (dk_at dk_Law_13 34 rfl) ?_
  refine v_sld C F.sc (in_1 hp F.n3) (dk_at dk_Law_13 35 rfl) ?_
  refine v_aload_n C 0 rfl (dk_at dk_Law_13 36 rfl) ?_
  refine v_iload_n C 3 rfl (dk_at dk_Law_13 37 rfl) ?_
  refine v_iconst C 2 (dk_at dk_Law_13 38 rfl) ?_
  refine v_iadd C (dk_at dk_Law_13 39 rfl) ?_
  refine v_sld C F.sc (in_2 hp F.n3) (dk_at dk_Law_14 0 rfl) ?_
  refine v_aload_n C 0 rfl (dk_at dk_Law_14 1 rfl) ?_
  refine v_iload_n C 3 rfl (dk_at dk_Law_14 2 rfl) ?_
  refine v_iconst C 3 (dk_at dk_Law_14 3 rfl) ?_
  refine v_iadd C (dk_at dk_Law_14 4 rfl) ?_
  refine v_sld C F.sc (in_3 hp F.n3) (dk_at dk_Law_14 5 rfl) ?_
  refine v_aload_n C 0 rfl (dk_at dk_Law_14 6 rfl) ?_
  refine v_iload_n C 3 rfl (dk_at dk_Law_14 7 rfl) ?_
  refine v_iconst C 4 (dk_at dk_Law_14 8 rfl) ?_
  refine v_iadd C (dk_at dk_Law_14 9 rfl) ?_
  refine v_sld C F.sc (in_4 hp F.n3) (dk_at dk_Law_14 10 rfl) ?_
  refine v_aload_n C 0 rfl (dk_at dk_Law_14 11 rfl) ?_
  refine v_iload_n C 3 rfl (dk_at dk_Law_14 12 rfl) ?_
  refine v_iconst C 5 (dk_at dk_Law_14 13 rfl) ?_
  refine v_iadd C (dk_at dk_Law_14 14 rfl) ?_
  refine v_sld C F.sc (in_5 hp F.n3) (dk_at dk_Law_14 15 rfl) ?_
  refine v_cXI C G.fl G.dj G.y2 G.y0 cl_Law_114 [.int (xs (nI p + 1).toNatClampNeg), .int (xs (nI p + 2).toNatClampNeg), .int (xs (nI p + 3).toNatClampNeg), .int (xs (nI p + 4).toNatClampNeg), .int (xs (nI p + 5).toNatClampNeg)] (m_Face_mornings (G.lyF F) (p_mornings G.inv)) ⟨Nat.le_of_ble_eq_true rfl, Nat.le_of_ble_eq_true rfl, rfl, rfl⟩ rfl rfl (Nat.le_of_ble_eq_true rfl) (dk_at dk_Law_14 16 rfl) (fun r x1 h im => ?_)
  refine v_aload_n C 2 rfl (dk_at dk_Law_14 17 rfl) ?_
  refine v_aload_n C 0 rfl (dk_at dk_Law_14 18 rfl) ?_
  refine v_iload_n C 3 rfl (dk_at dk_Law_14 19 rfl) ?_
  refine v_iconst C 1 (dk_at dk_Law_14 20 rfl) ?_
  refine v_iadd C (dk_at dk_Law_14 21 rfl) ?_
  refine v_sld C F.sc (in_1 hp F.n3) (dk_at dk_Law_14 22 rfl) ?_
  refine v_aload_n C 0 rfl (dk_at dk_Law_14 23 rfl) ?_
  refine v_iload_n C 3 rfl (dk_at dk_Law_14 24 rfl) ?_
  refine v_iconst C 2 (dk_at dk_Law_14 25 rfl) ?_
  refine v_iadd C (dk_at dk_Law_14 26 rfl) ?_
  refine v_sld C F.sc (in_2 hp F.n3) (dk_at dk_Law_14 27 rfl) ?_
  refine v_aload_n C 0 rfl (dk_at dk_Law_14 28 rfl) ?_
  refine v_iload_n C 3 rfl (dk_at dk_Law_14 29 rfl) ?_
  refine v_iconst C 3 (dk_at dk_Law_14 30 rfl) ?_
  refine v_iadd C (dk_at dk_Law_14 31 rfl) ?_
  refine v_sld C F.sc (in_3 hp F.n3) (dk_at dk_Law_14 32 rfl) ?_
  refine v_aload_n C 0 rfl (dk_at dk_Law_14 33 rfl) ?_
  refine v_iload_n C 3 rfl (dk_at dk_Law_14 34 rfl) ?_
  refine v_iconst C 4 (dk_at dk_Law_14 35 rfl) ?_
  refine v_iadd C (dk_at dk_Law_14 36 rfl) ?_
  refine v_sld C F.sc (in_4 hp F.n3) (dk_at dk_Law_14 37 rfl) ?_
  refine v_aload_n C 0 rfl (dk_at dk_Law_14 38 rfl) ?_
  refine v_iload_n C 3 rfl (dk_at dk_Law_14 39 rfl) ?_
  refine v_iconst C 5 (dk_at dk_Law_15 0 rfl) ?_
  refine v_iadd C (dk_at dk_Law_15 1 rfl) ?_
  refine v_sld C F.sc (in_5 hp F.n3) (dk_at dk_Law_15 2 rfl) ?_
  refine v_cMI C F.up F.km G.dj cl_Law_117 [.int (xs (nI p + 1).toNatClampNeg), .int (xs (nI p + 2).toNatClampNeg), .int (xs (nI p + 3).toNatClampNeg), .int (xs (nI p + 4).toNatClampNeg), .int (xs (nI p + 5).toNatClampNeg)] (m_M_mornings F.km.2.2.1 h) ⟨Nat.le_of_ble_eq_true rfl, Nat.le_of_ble_eq_true rfl, rfl, rfl⟩ rfl rfl (Nat.le_of_ble_eq_true rfl) (dk_at dk_Law_15 3 rfl) (fun r1 m1 h1 => ?_)
  obtain ⟨rfl, hi⟩ := h1
  refine v_same C 1391 rfl (dk_at dk_Law_15 4 rfl) ?_
  exact k w T x1 m1 c0 s0 C (G.call hi.mono im) (by omega) (by omega)
theorem cs_game (F : FX X v b z A b0 N xs) (C : CLw X w (A, c0, s0) b) (G : GW b T w v x m n) (hp : p + 7 ≤ N) (hn : n < 2 ^ 20) (hc : c0 + 15 ≤ 600000 ∧ s0 + 804 ≤ 7302250) (k : KT X v b A c0 s0 Q b0 p n) : gV X w v (A, c0, s0) Q x m 943 [(0, .ref b0), (1, .ref (wAd w 0)), (2, .ref (wAd v 0)), (3, .int (nI p))] [] := by
  refine v_aload_n C 1 rfl (dk_at dk_Law_15 7 rfl) ?_
  refine v_aload_n C 0 rfl (dk_at dk_Law_15 8 rfl) ?_
  refine v_iload_n C 3 rfl (dk_at dk_Law_15 9 rfl) ?_
  refine v_iconst C 1 (dk_at dk_Law_15 10 rfl) ?_
  refine v_iadd C (dk_at dk_Law_15 11 rfl) ?_
  refine v_sld C F.sc (in_1 hp F.n3) (dk_at dk_Law_15 12 rfl) ?_
  refine v_aload_n C 0 rfl (dk_at dk_Law_15 13 rfl) ?_
  refine v_iload_n C 3 rfl (dk_at dk_Law_15 14 rfl) ?_
  refine v_iconst C 2 (dk_at dk_Law_15 15 rfl) ?_
  refine v_iadd C (dk_at dk_Law_15 16 rfl) ?_
  refine v_sld C F.sc (in_2 hp F.n3) (dk_at dk_Law_15 17 rfl) ?_
  refine v_aload_n C 0 rfl (dk_at dk_Law_15 18 rfl) ?_
  refine v_iload_n C 3 rfl (dk_at dk_Law_15 19 rfl) ?_
  refine v_iconst C 3 (dk_at dk_Law_15 20 rfl) ?_
  refine v_iadd C (dk_at dk_Law_15 21 rfl) ?_
  refine v_sld C F.sc (in_3 hp F.n3) (dk_at dk_Law_15 22 rfl) ?_
  refine v_aload_n C 0 rfl (dk_at dk_Law_15 23 rfl) ?_
  refine v_iload_n C 3 rfl (dk_at dk_Law_15 24 rfl) ?_
  refine v_iconst C 4 (dk_at dk_Law_15 25 rfl) ?_
  refine v_iadd C (dk_at dk_Law_15 26 rfl) ?_
  refine v_sld C F.sc (in_4 hp F.n3) (dk_at dk_Law_15 27 rfl) ?_
  refine v_aload_n C 0 rfl (dk_at dk_Law_15 28 rfl) ?_
  refine v_iload_n C 3 rfl (dk_at dk_Law_15 29 rfl) ?_
  refine v_iconst C 5 (dk_at dk_Law_15 30 rfl) ?_
  refine v_iadd C (dk_at dk_Law_15 31 rfl) ?_
  refine v_sld C F.sc (in_5 hp F.n3) (dk_at dk_Law_15 32 rfl) ?_
  refine v_aload_n C 0 rfl (dk_at dk_Law_15 33 rfl) ?_
  refine v_iload_n C 3 rfl (dk_at dk_Law_15 34 rfl) ?_
  refine v_bipush C 6 (dk_at dk_Law_15 35 rfl) ?_
  refine v_iadd C (dk_at dk_Law_15 36 rfl) ?_
  refine v_sld C F.sc (in_6 hp F.n3) (dk_at dk_Law_15 37 rfl) ?_
  refine v_cXI C G.fl G.dj G.y2 G.y0 cl_Law_118 [.int (xs (nI p + 1).toNatClampNeg), .int (xs (nI p + 2).toNatClampNeg), .int (xs (nI p + 3).toNatClampNeg), .int (xs (nI p + 4).toNatClampNeg), .int (xs (nI p + 5).toNatClampNeg), .int (xs (nI p + 6).toNatClampNeg)] (m_Face_game (G.lyF F) (p_game G.inv)) ⟨Nat.le_of_ble_eq_true rfl, Nat.le_of_ble_eq_true rfl, rfl, rfl⟩ rfl rfl (Nat.le_of_ble_eq_true rfl) (dk_at dk_Law_15 38 rfl) (fun r x1 h im => ?_)
  refine v_aload_n C 2 rfl (dk_at dk_Law_15 39 rfl) ?_
  refine v_aload_n C 0 rfl (dk_at dk_Law_16 0 rfl) ?_
  refine v_iload_n C 3 rfl (dk_at dk_Law_16 1 rfl) ?_
  refine v_iconst C 1 (dk_at dk_Law_16 2 rfl) ?_
  refine v_iadd C (dk_at dk_Law_16 3 rfl) ?_
  refine v_sld C F.sc (in_1 hp F.n3) (dk_at dk_Law_16 4 rfl) ?_
  refine v_aload_n C 0 rfl (dk_at dk_Law_16 5 rfl) ?_
  refine v_iload_n C 3 rfl (dk_at dk_Law_16 6 rfl) ?_
  refine v_iconst C 2 (dk_at dk_Law_16 7 rfl) ?_
  refine v_iadd C (dk_at dk_Law_16 8 rfl) ?_
  refine v_sld C F.sc (in_2 hp F.n3) (dk_at dk_Law_16 9 rfl) ?_
  refine v_aload_n C 0 rfl (dk_at dk_Law_16 10 rfl) ?_
  refine v_iload_n C 3 rfl (dk_at dk_Law_16 11 rfl) ?_
  refine v_iconst C 3 (dk_at dk_Law_16 12 rfl) ?_
  refine v_iadd C (dk_at dk_Law_16 13 rfl) ?_
  refine v_sld C F.sc (in_3 hp F.n3) (dk_at dk_Law_16 14 rfl) ?_
  refine v_aload_n C 0 rfl (dk_at dk_Law_16 15 rfl) ?_
  refine v_iload_n C 3 rfl (dk_at dk_Law_16 16 rfl) ?_
  refine v_iconst C 4 (dk_at dk_Law_16 17 rfl) ?_
  refine v_iadd C (dk_at dk_Law_16 18 rfl) ?_
  refine v_sld C F.sc (in_4 hp F.n3) (dk_at dk_Law_16 19 rfl) ?_
  refine v_aload_n C 0 rfl (dk_at dk_Law_16 20 rfl) ?_
  refine v_iload_n C 3 rfl (dk_at dk_Law_16 21 rfl) ?_
  refine v_iconst C 5 (dk_at dk_Law_16 22 rfl) ?_
  refine v_iadd C (dk_at dk_Law_16 23 rfl) ?_
  refine v_sld C F.sc (in_5 hp F.n3) (dk_at dk_Law_16 24 rfl) ?_
  refine v_aload_n C 0 rfl (dk_at dk_Law_16 25 rfl) ?_
  refine v_iload_n C 3 rfl (dk_at dk_Law_16 26 rfl) ?_
  refine v_bipush C 6 (dk_at dk_Law_16 27 rfl) ?_
  refine v_iadd C (dk_at dk_Law_16 28 rfl) ?_
  refine v_sld C F.sc (in_6 hp F.n3) (dk_at dk_Law_16 29 rfl) ?_
  refine v_cMI C F.up F.km G.dj cl_Law_122 [.int (xs (nI p + 1).toNatClampNeg), .int (xs (nI p + 2).toNatClampNeg), .int (xs (nI p + 3).toNatClampNeg), .int (xs (nI p + 4).toNatClampNeg), .int (xs (nI p + 5).toNatClampNeg), .int (xs (nI p + 6).toNatClampNeg)] (m_M_game F.km.2.2.1 h) ⟨Nat.le_of_ble_eq_true rfl, Nat.le_of_ble_eq_true rfl, rfl, rfl⟩ rfl rfl (Nat.le_of_ble_eq_true rfl) (dk_at dk_Law_16 30 rfl) (fun r1 m1 h1 => ?_)
  obtain ⟨rfl, hi⟩ := h1
  refine v_same C 1391 rfl (dk_at dk_Law_16 31 rfl) ?_
  exact k w T x1 m1 c0 s0 C (G.call hi.mono im) (by omega) (by omega)
theorem cs_dead (F : FX X v b z A b0 N xs) (C : CLw X w (A, c0, s0) b) (G : GW b T w v x m n) (hp : p + 7 ≤ N) (hn : n < 2 ^ 20) (hc : c0 + 15 ≤ 600000 ∧ s0 + 804 ≤ 7302250) (k : KT X v b A c0 s0 Q b0 p n) : gV X w v (A, c0, s0) Q x m 1018 [(0, .ref b0), (1, .ref (wAd w 0)), (2, .ref (wAd v 0)), (3, .int (nI p))] [] := by
  refine v_aload_n C 1 rfl (dk_at dk_Law_16 34 rfl) ?_
  refine v_cXI C G.fl G.dj G.y2 G.y0 cl_Law_123 [] (m_Face_dead (G.lyF F) (p_dead G.inv)) ⟨Nat.le_of_ble_eq_true rfl, Nat.le_of_ble_eq_true rfl, rfl, rfl⟩ rfl rfl (Nat.le_of_ble_eq_true rfl) (dk_at dk_Law_16 35 rfl) (fun r x1 h im => ?_)
  refine v_aload_n C 2 rfl (dk_at dk_Law_16 36 rfl) ?_
  refine v_cMI C F.up F.km G.dj cl_Law_126 [] (m_M_dead F.km.2.2.1 h) ⟨Nat.le_of_ble_eq_true rfl, Nat.le_of_ble_eq_true rfl, rfl, rfl⟩ rfl rfl (Nat.le_of_ble_eq_true rfl) (dk_at dk_Law_16 37 rfl) (fun r1 m1 h1 => ?_)
  obtain ⟨rfl, hi⟩ := h1
  refine v_same C 1391 rfl (dk_at dk_Law_16 38 rfl) ?_
  exact k w T x1 m1 c0 s0 C (G.call hi.mono im) (by omega) (by omega)
theorem cs_throats (F : FX X v b z A b0 N xs) (C : CLw X w (A, c0, s0) b) (G : GW b T w v x m n) (hp : p + 7 ≤ N) (hn : n < 2 ^ 20) (hc : c0 + 15 ≤ 600000 ∧ s0 + 804 ≤ 7302250) (k : KT X v b A c0 s0 Q b0 p n) : gV X w v (A, c0, s0) Q x m 1031 [(0, .ref b0), (1, .ref (wAd w 0)), (2, .ref (wAd v 0)), (3, .int (nI p))] [] := by
  refine v_aload_n C 1 rfl (dk_at dk_Law_17 1 rfl) ?_
  refine v_aload_n C 0 rfl (dk_at dk_Law_17 2 rfl) ?_
  refine v_iload_n C 3 rfl (dk_at dk_Law_17 3 rfl) ?_
  refine v_iconst C 1 (dk_at dk_Law_17 4 rfl) ?_
  refine v_iadd C (dk_at dk_Law_17 5 rfl) ?_
  refine v_sld C F.sc (in_1 hp F.n3) (dk_at dk_Law_17 6 rfl) ?_
  refine v_aload_n C 0 rfl (dk_at dk_Law_17 7 rfl) ?_
  refine v_iload_n C 3 rfl (dk_at dk_Law_17 8 rfl) ?_
  refine v_iconst C 2 (dk_at dk_Law_17 9 rfl) ?_
  refine v_iadd C (dk_at dk_Law_17 10 rfl) ?_
  refine v_sld C F.sc (in_2 hp F.n3) (dk_at dk_Law_17 11 rfl) ?_
  refine v_cXI C G.fl G.dj G.y2 G.y0 cl_Law_127 [.int (xs (nI p + 1).toNatClampNeg), .int (xs (nI p + 2).toNatClampNeg)] (m_Face_throats (G.lyF F) (p_throats G.inv)) ⟨Nat.le_of_ble_eq_true rfl, Nat.le_of_ble_eq_true rfl, rfl, rfl⟩ rfl rfl (Nat.le_of_ble_eq_true rfl) (dk_at dk_Law_17 12 rfl) (fun r x1 h im => ?_)
  refine v_aload_n C 2 rfl (dk_at dk_Law_17 13 rfl) ?_
  refine v_aload_n C 0 rfl (dk_at dk_Law_17 14 rfl) ?_
  refine v_iload_n C 3 rfl (dk_at dk_Law_17 15 rfl) ?_
  refine v_iconst C 1 (dk_at dk_Law_17 16 rfl) ?_
  refine v_iadd C (dk_at dk_Law_17 17 rfl) ?_
  refine v_sld C F.sc (in_1 hp F.n3) (dk_at dk_Law_17 18 rfl) ?_
  refine v_aload_n C 0 rfl (dk_at dk_Law_17 19 rfl) ?_
  refine v_iload_n C 3 rfl (dk_at dk_Law_17 20 rfl) ?_
  refine v_iconst C 2 (dk_at dk_Law_17 21 rfl) ?_
  refine v_iadd C (dk_at dk_Law_17 22 rfl) ?_
  refine v_sld C F.sc (in_2 hp F.n3) (dk_at dk_Law_17 23 rfl) ?_
  refine v_cMI C F.up F.km G.dj cl_Law_130 [.int (xs (nI p + 1).toNatClampNeg), .int (xs (nI p + 2).toNatClampNeg)] (m_M_throats F.km.2.2.1 h) ⟨Nat.le_of_ble_eq_true rfl, Nat.le_of_ble_eq_true rfl, rfl, rfl⟩ rfl rfl (Nat.le_of_ble_eq_true rfl) (dk_at dk_Law_17 24 rfl) (fun r1 m1 h1 => ?_)
  obtain ⟨rfl, hi⟩ := h1
  refine v_same C 1391 rfl (dk_at dk_Law_17 25 rfl) ?_
  exact k w T x1 m1 c0 s0 C (G.call hi.mono im) (by omega) (by omega)
theorem cs_days (F : FX X v b z A b0 N xs) (C : CLw X w (A, c0, s0) b) (G : GW b T w v x m n) (hp : p + 7 ≤ N) (hn : n < 2 ^ 20) (hc : c0 + 15 ≤ 600000 ∧ s0 + 804 ≤ 7302250) (k : KT X v b A c0 s0 Q b0 p n) : gV X w v (A, c0, s0) Q x m 1064 [(0, .ref b0), (1, .ref (wAd w 0)), (2, .ref (wAd v 0)), (3, .int (nI p))] [] := by
  refine v_aload_n C 1 rfl (dk_at dk_Law_17 28 rfl) ?_
  refine v_aload_n C 0 rfl (dk_at dk_Law_17 29 rfl) ?_
  refine v_iload_n C 3 rfl (dk_at dk_Law_17 30 rfl) ?_
  refine v_iconst C 1 (dk_at dk_Law_17 31 rfl) ?_
  refine v_iadd C (dk_at dk_Law_17 32 rfl) ?_
  refine v_sld C F.sc (in_1 hp F.n3) (dk_at dk_Law_17 33 rfl) ?_
  refine v_aload_n C 0 rfl (dk_at dk_Law_17 34 rfl) ?_
  refine v_iload_n C 3 rfl (dk_at dk_Law_17 35 rfl) ?_
  refine v_iconst C 2 (dk_at dk_Law_17 36 rfl) ?_
  refine v_iadd C (dk_at dk_Law_17 37 rfl) ?_
  refine v_sld C F.sc (in_2 hp F.n3) (dk_at dk_Law_17 38 rfl) ?_
  refine v_cXI C G.fl G.dj G.y2 G.y0 cl_Law_131 [.int (xs (nI p + 1).toNatClampNeg), .int (xs (nI p + 2).toNatClampNeg)] (m_Face_days (G.lyF F) (p_days G.inv)) ⟨Nat.le_of_ble_eq_true rfl, Nat.le_of_ble_eq_true rfl, rfl, rfl⟩ rfl rfl (Nat.le_of_ble_eq_true rfl) (dk_at dk_Law_17 39 rfl) (fun r x1 h im => ?_)
  refine v_aload_n C 2 rfl (dk_at dk_Law_18 0 rfl) ?_
  refine v_aload_n C 0 rfl (dk_at dk_Law_18 1 rfl) ?_
  refine v_iload_n C 3 rfl (dk_at dk_Law_18 2 rfl) ?_
  refine v_iconst C 1 (dk_at dk_Law_18 3 rfl) ?_
  refine v_iadd C (dk_at dk_Law_18 4 rfl) ?_
  refine v_sld C F.sc (in_1 hp F.n3) (dk_at dk_Law_18 5 rfl) ?_
  refine v_aload_n C 0 rfl (dk_at dk_Law_18 6 rfl) ?_
  refine v_iload_n C 3 rfl (dk_at dk_Law_18 7 rfl) ?_
  refine v_iconst C 2 (dk_at dk_Law_18 8 rfl) ?_
  refine v_iadd C (dk_at dk_Law_18 9 rfl) ?_
  refine v_sld C F.sc (in_2 hp F.n3) (dk_at dk_Law_18 10 rfl) ?_
  refine v_cMI C F.up F.km G.dj cl_Law_134 [.int (xs (nI p + 1).toNatClampNeg), .int (xs (nI p + 2).toNatClampNeg)] (m_M_days F.km.2.2.1 h) ⟨Nat.le_of_ble_eq_true rfl, Nat.le_of_ble_eq_true rfl, rfl, rfl⟩ rfl rfl (Nat.le_of_ble_eq_true rfl) (dk_at dk_Law_18 11 rfl) (fun r1 m1 h1 => ?_)
  obtain ⟨rfl, hi⟩ := h1
  refine v_same C 1391 rfl (dk_at dk_Law_18 12 rfl) ?_
  exact k w T x1 m1 c0 s0 C (G.call hi.mono im) (by omega) (by omega)
theorem cs_likely (F : FX X v b z A b0 N xs) (C : CLw X w (A, c0, s0) b) (G : GW b T w v x m n) (hp : p + 7 ≤ N) (hn : n < 2 ^ 20) (hc : c0 + 15 ≤ 600000 ∧ s0 + 804 ≤ 7302250) (k : KT X v b A c0 s0 Q b0 p n) : gV X w v (A, c0, s0) Q x m 1097 [(0, .ref b0), (1, .ref (wAd w 0)), (2, .ref (wAd v 0)), (3, .int (nI p))] [] := by
  refine v_aload_n C 1 rfl (dk_at dk_Law_18 15 rfl) ?_
  refine v_aload_n C 0 rfl (dk_at dk_Law_18 16 rfl) ?_
  refine v_iload_n C 3 rfl (dk_at dk_Law_18 17 rfl) ?_
  refine v_iconst C 1 (dk_at dk_Law_18 18 rfl) ?_
  refine v_iadd C (dk_at dk_Law_18 19 rfl) ?_
  refine v_sld C F.sc (in_1 hp F.n3) (dk_at dk_Law_18 20 rfl) ?_
  refine v_aload_n C 0 rfl (dk_at dk_Law_18 21 rfl) ?_
  refine v_iload_n C 3 rfl (dk_at dk_Law_18 22 rfl) ?_
  refine v_iconst C 2 (dk_at dk_Law_18 23 rfl) ?_
  refine v_iadd C (dk_at dk_Law_18 24 rfl) ?_
  refine v_sld C F.sc (in_2 hp F.n3) (dk_at dk_Law_18 25 rfl) ?_
  refine v_aload_n C 0 rfl (dk_at dk_Law_18 26 rfl) ?_
  refine v_iload_n C 3 rfl (dk_at dk_Law_18 27 rfl) ?_
  refine v_iconst C 3 (dk_at dk_Law_18 28 rfl) ?_
  refine v_iadd C (dk_at dk_Law_18 29 rfl) ?_
  refine v_sld C F.sc (in_3 hp F.n3) (dk_at dk_Law_18 30 rfl) ?_
  refine v_cXL C G.fl G.dj G.y2 G.y0 cl_Law_135 [.int (xs (nI p + 1).toNatClampNeg), .int (xs (nI p + 2).toNatClampNeg), .int (xs (nI p + 3).toNatClampNeg)] (m_Face_likely (G.lyF F) (p_likely G.inv)) ⟨Nat.le_of_ble_eq_true rfl, Nat.le_of_ble_eq_true rfl, rfl, rfl⟩ rfl rfl (Nat.le_of_ble_eq_true rfl) (dk_at dk_Law_18 31 rfl) (fun r x1 h im => ?_)
  refine v_aload_n C 2 rfl (dk_at dk_Law_18 32 rfl) ?_
  refine v_aload_n C 0 rfl (dk_at dk_Law_18 33 rfl) ?_
  refine v_iload_n C 3 rfl (dk_at dk_Law_18 34 rfl) ?_
  refine v_iconst C 1 (dk_at dk_Law_18 35 rfl) ?_
  refine v_iadd C (dk_at dk_Law_18 36 rfl) ?_
  refine v_sld C F.sc (in_1 hp F.n3) (dk_at dk_Law_18 37 rfl) ?_
  refine v_aload_n C 0 rfl (dk_at dk_Law_18 38 rfl) ?_
  refine v_iload_n C 3 rfl (dk_at dk_Law_18 39 rfl) ?_
  refine v_iconst C 2 (dk_at dk_Law_19 0 rfl) ?_
  refine v_iadd C (dk_at dk_Law_19 1 rfl) ?_
  refine v_sld C F.sc (in_2 hp F.n3) (dk_at dk_Law_19 2 rfl) ?_
  refine v_aload_n C 0 rfl (dk_at dk_Law_19 3 rfl) ?_
  refine v_iload_n C 3 rfl (dk_at dk_Law_19 4 rfl) ?_
  refine v_iconst C 3 (dk_at dk_Law_19 5 rfl) ?_
  refine v_iadd C (dk_at dk_Law_19 6 rfl) ?_
  refine v_sld C F.sc (in_3 hp F.n3) (dk_at dk_Law_19 7 rfl) ?_
  refine v_cML C F.up F.km G.dj cl_Law_139 [.int (xs (nI p + 1).toNatClampNeg), .int (xs (nI p + 2).toNatClampNeg), .int (xs (nI p + 3).toNatClampNeg)] (m_M_likely F.km.2.2.1 h) ⟨Nat.le_of_ble_eq_true rfl, Nat.le_of_ble_eq_true rfl, rfl, rfl⟩ rfl rfl (Nat.le_of_ble_eq_true rfl) (dk_at dk_Law_19 8 rfl) (fun r1 m1 h1 => ?_)
  obtain ⟨rfl, hi⟩ := h1
  refine v_lcmp C (dk_at dk_Law_19 9 rfl) ?_
  rw [lg_cmp_self]
  refine v_ifz C 1391 rfl (dk_at dk_Law_19 10 rfl) ?_
  exact k w T x1 m1 c0 s0 C (G.call hi.mono im) (by omega) (by omega)
theorem cs_fine (F : FX X v b z A b0 N xs) (C : CLw X w (A, c0, s0) b) (G : GW b T w v x m n) (hp : p + 7 ≤ N) (hn : n < 2 ^ 20) (hc : c0 + 15 ≤ 600000 ∧ s0 + 804 ≤ 7302250) (k : KT X v b A c0 s0 Q b0 p n) : gV X w v (A, c0, s0) Q x m 1141 [(0, .ref b0), (1, .ref (wAd w 0)), (2, .ref (wAd v 0)), (3, .int (nI p))] [] := by
  refine v_aload_n C 1 rfl (dk_at dk_Law_19 13 rfl) ?_
  refine v_aload_n C 0 rfl (dk_at dk_Law_19 14 rfl) ?_
  refine v_iload_n C 3 rfl (dk_at dk_Law_19 15 rfl) ?_
  refine v_iconst C 1 (dk_at dk_Law_19 16 rfl) ?_
  refine v_iadd C (dk_at dk_Law_19 17 rfl) ?_
  refine v_sld C F.sc (in_1 hp F.n3) (dk_at dk_Law_19 18 rfl) ?_
  refine v_aload_n C 0 rfl (dk_at dk_Law_19 19 rfl) ?_
  refine v_iload_n C 3 rfl (dk_at dk_Law_19 20 rfl) ?_
  refine v_iconst C 2 (dk_at dk_Law_19 21 rfl) ?_
  refine v_iadd C (dk_at dk_Law_19 22 rfl) ?_
  refine v_sld C F.sc (in_2 hp F.n3) (dk_at dk_Law_19 23 rfl) ?_
  refine v_aload_n C 0 rfl (dk_at dk_Law_19 24 rfl) ?_
  refine v_iload_n C 3 rfl (dk_at dk_Law_19 25 rfl) ?_
  refine v_iconst C 3 (dk_at dk_Law_19 26 rfl) ?_
  refine v_iadd C (dk_at dk_Law_19 27 rfl) ?_
  refine v_sld C F.sc (in_3 hp F.n3) (dk_at dk_Law_19 28 rfl) ?_
  refine v_aload_n C 0 rfl (dk_at dk_Law_19 29 rfl) ?_
  refine v_iload_n C 3 rfl (dk_at dk_Law_19 30 rfl) ?_
  refine v_iconst C 4 (dk_at dk_Law_19 31 rfl) ?_
  refine v_iadd C (dk_at dk_Law_19 32 rfl) ?_
  refine v_sld C F.sc (in_4 hp F.n3) (dk_at dk_Law_19 33 rfl) ?_
  refine v_cXI C G.fl G.dj G.y2 G.y0 cl_Law_140 [.int (xs (nI p + 1).toNatClampNeg), .int (xs (nI p + 2).toNatClampNeg), .int (xs (nI p + 3).toNatClampNeg), .int (xs (nI p + 4).toNatClampNeg)] (m_Face_fine (G.lyF F) (p_fine G.inv hn)) ⟨Nat.le_of_ble_eq_true rfl, Nat.le_of_ble_eq_true rfl, rfl, rfl⟩ rfl rfl (Nat.le_of_ble_eq_true rfl) (dk_at dk_Law_19 34 rfl) (fun r x1 h im => ?_)
  refine v_aload_n C 2 rfl (dk_at dk_Law_19 35 rfl) ?_
  refine v_aload_n C 0 rfl (dk_at dk_Law_19 36 rfl) ?_
  refine v_iload_n C 3 rfl (dk_at dk_Law_19 37 rfl) ?_
  refine v_iconst C 1 (dk_at dk_Law_19 38 rfl) ?_
  refine v_iadd C (dk_at dk_Law_19 39 rfl) ?_
  refine v_sld C F.sc (in_1 hp F.n3) (dk_at dk_Law_20 0 rfl) ?_
  refine v_aload_n C 0 rfl (dk_at dk_Law_20 1 rfl) ?_
  refine v_iload_n C 3 rfl (dk_at dk_Law_20 2 rfl) ?_
  refine v_iconst C 2 (dk_at dk_Law_20 3 rfl) ?_
  refine v_iadd C (dk_at dk_Law_20 4 rfl) ?_
  refine v_sld C F.sc (in_2 hp F.n3) (dk_at dk_Law_20 5 rfl) ?_
  refine v_aload_n C 0 rfl (dk_at dk_Law_20 6 rfl) ?_
  refine v_iload_n C 3 rfl (dk_at dk_Law_20 7 rfl) ?_
  refine v_iconst C 3 (dk_at dk_Law_20 8 rfl) ?_
  refine v_iadd C (dk_at dk_Law_20 9 rfl) ?_
  refine v_sld C F.sc (in_3 hp F.n3) (dk_at dk_Law_20 10 rfl) ?_
  refine v_aload_n C 0 rfl (dk_at dk_Law_20 11 rfl) ?_
  refine v_iload_n C 3 rfl (dk_at dk_Law_20 12 rfl) ?_
  refine v_iconst C 4 (dk_at dk_Law_20 13 rfl) ?_
  refine v_iadd C (dk_at dk_Law_20 14 rfl) ?_
  refine v_sld C F.sc (in_4 hp F.n3) (dk_at dk_Law_20 15 rfl) ?_
  refine v_cMI C F.up F.km G.dj cl_Law_144 [.int (xs (nI p + 1).toNatClampNeg), .int (xs (nI p + 2).toNatClampNeg), .int (xs (nI p + 3).toNatClampNeg), .int (xs (nI p + 4).toNatClampNeg)] (m_M_fine F.km.2.2.1 h) ⟨Nat.le_of_ble_eq_true rfl, Nat.le_of_ble_eq_true rfl, rfl, rfl⟩ rfl rfl (Nat.le_of_ble_eq_true rfl) (dk_at dk_Law_20 16 rfl) (fun r1 m1 h1 => ?_)
  obtain ⟨rfl, hi⟩ := h1
  refine v_same C 1391 rfl (dk_at dk_Law_20 17 rfl) ?_
  exact k w T x1 m1 c0 s0 C (G.call hi im) (by omega) (by omega)
theorem cs_forgive (F : FX X v b z A b0 N xs) (C : CLw X w (A, c0, s0) b) (G : GW b T w v x m n) (hp : p + 7 ≤ N) (hn : n < 2 ^ 20) (hc : c0 + 15 ≤ 600000 ∧ s0 + 804 ≤ 7302250) (k : KT X v b A c0 s0 Q b0 p n) : gV X w v (A, c0, s0) Q x m 1194 [(0, .ref b0), (1, .ref (wAd w 0)), (2, .ref (wAd v 0)), (3, .int (nI p))] [] := by
  refine v_aload_n C 1 rfl (dk_at dk_Law_20 20 rfl) ?_
  refine v_cXI C G.fl G.dj G.y2 G.y0 cl_Law_145 [] (m_Face_forgive (G.lyF F) (p_forgive G.inv)) ⟨Nat.le_of_ble_eq_true rfl, Nat.le_of_ble_eq_true rfl, rfl, rfl⟩ rfl rfl (Nat.le_of_ble_eq_true rfl) (dk_at dk_Law_20 21 rfl) (fun r x1 h im => ?_)
  refine v_aload_n C 2 rfl (dk_at dk_Law_20 22 rfl) ?_
  refine v_cMI C F.up F.km G.dj cl_Law_148 [] (m_M_forgive F.km.2.2.1 h) ⟨Nat.le_of_ble_eq_true rfl, Nat.le_of_ble_eq_true rfl, rfl, rfl⟩ rfl rfl (Nat.le_of_ble_eq_true rfl) (dk_at dk_Law_20 23 rfl) (fun r1 m1 h1 => ?_)
  obtain ⟨rfl, hi⟩ := h1
  refine v_same C 1391 rfl (dk_at dk_Law_20 24 rfl) ?_
  exact k w T x1 m1 c0 s0 C (G.call hi.mono im) (by omega) (by omega)
theorem cs_judge (F : FX X v b z A b0 N xs) (C : CLw X w (A, c0, s0) b) (G : GW b T w v x m n) (hp : p + 7 ≤ N) (hn : n < 2 ^ 20) (hc : c0 + 15 ≤ 600000 ∧ s0 + 804 ≤ 7302250) (k : KT X v b A c0 s0 Q b0 p n) : gV X w v (A, c0, s0) Q x m 1207 [(0, .ref b0), (1, .ref (wAd w 0)), (2, .ref (wAd v 0)), (3, .int (nI p))] [] := by
  refine v_aload_n C 1 rfl (dk_at dk_Law_20 27 rfl) ?_
  refine v_cXI C G.fl G.dj G.y2 G.y0 cl_Law_149 [] (m_Face_judge (G.lyF F) (p_judge G.inv)) ⟨Nat.le_of_ble_eq_true rfl, Nat.le_of_ble_eq_true rfl, rfl, rfl⟩ rfl rfl (Nat.le_of_ble_eq_true rfl) (dk_at dk_Law_20 28 rfl) (fun r x1 h im => ?_)
  refine v_aload_n C 2 rfl (dk_at dk_Law_20 29 rfl) ?_
  refine v_cMI C F.up F.km G.dj cl_Law_152 [] (m_M_judge F.km.2.2.1 h) ⟨Nat.le_of_ble_eq_true rfl, Nat.le_of_ble_eq_true rfl, rfl, rfl⟩ rfl rfl (Nat.le_of_ble_eq_true rfl) (dk_at dk_Law_20 30 rfl) (fun r1 m1 h1 => ?_)
  obtain ⟨rfl, hi⟩ := h1
  refine v_same C 1391 rfl (dk_at dk_Law_20 31 rfl) ?_
  exact k w T x1 m1 c0 s0 C (G.call hi.mono im) (by omega) (by omega)
theorem cs_unwritten (F : FX X v b z A b0 N xs) (C : CLw X w (A, c0, s0) b) (G : GW b T w v x m n) (hp : p + 7 ≤ N) (hn : n < 2 ^ 20) (hc : c0 + 15 ≤ 600000 ∧ s0 + 804 ≤ 7302250) (k : KT X v b A c0 s0 Q b0 p n) : gV X w v (A, c0, s0) Q x m 1220 [(0, .ref b0), (1, .ref (wAd w 0)), (2, .ref (wAd v 0)), (3, .int (nI p))] [] := by
  refine v_aload_n C 1 rfl (dk_at dk_Law_20 34 rfl) ?_
  refine v_aload_n C 0 rfl (dk_at dk_Law_20 35 rfl) ?_
  refine v_iload_n C 3 rfl (dk_at dk_Law_20 36 rfl) ?_
  refine v_iconst C 1 (dk_at dk_Law_20 37 rfl) ?_
  refine v_iadd C (dk_at dk_Law_20 38 rfl) ?_
  refine v_sld C F.sc (in_1 hp F.n3) (dk_at dk_Law_20 39 rfl) ?_
  refine v_cXI C G.fl G.dj G.y2 G.y0 cl_Law_153 [.int (xs (nI p + 1).toNatClampNeg)] (m_Face_unwritten (G.lyF F) (p_unwritten G.inv)) ⟨Nat.le_of_ble_eq_true rfl, Nat.le_of_ble_eq_true rfl, rfl, rfl⟩ rfl rfl (Nat.le_of_ble_eq_true rfl) (dk_at dk_Law_21 0 rfl) (fun r x1 h im => ?_)
  refine v_aload_n C 2 rfl (dk_at dk_Law_21 1 rfl) ?_
  refine v_aload_n C 0 rfl (dk_at dk_Law_21 2 rfl) ?_
  refine v_iload_n C 3 rfl (dk_at dk_Law_21 3 rfl) ?_
  refine v_iconst C 1 (dk_at dk_Law_21 4 rfl) ?_
  refine v_iadd C (dk_at dk_Law_21 5 rfl) ?_
  refine v_sld C F.sc (in_1 hp F.n3) (dk_at dk_Law_21 6 rfl) ?_
  refine v_cMI C F.up F.km G.dj cl_Law_156 [.int (xs (nI p + 1).toNatClampNeg)] (m_M_unwritten F.km.2.2.1 h) ⟨Nat.le_of_ble_eq_true rfl, Nat.le_of_ble_eq_true rfl, rfl, rfl⟩ rfl rfl (Nat.le_of_ble_eq_true rfl) (dk_at dk_Law_21 7 rfl) (fun r1 m1 h1 => ?_)
  obtain ⟨rfl, hi⟩ := h1
  refine v_same C 1391 rfl (dk_at dk_Law_21 8 rfl) ?_
  exact k w T x1 m1 c0 s0 C (G.call hi.mono im) (by omega) (by omega)
theorem cs_years (F : FX X v b z A b0 N xs) (C : CLw X w (A, c0, s0) b) (G : GW b T w v x m n) (hp : p + 7 ≤ N) (hn : n < 2 ^ 20) (hc : c0 + 15 ≤ 600000 ∧ s0 + 804 ≤ 7302250) (k : KT X v b A c0 s0 Q b0 p n) : gV X w v (A, c0, s0) Q x m 1243 [(0, .ref b0), (1, .ref (wAd w 0)), (2, .ref (wAd v 0)), (3, .int (nI p))] [] := by
  refine v_aload_n C 1 rfl (dk_at dk_Law_21 11 rfl) ?_
  refine v_aload_n C 0 rfl (dk_at dk_Law_21 12 rfl) ?_
  refine v_iload_n C 3 rfl (dk_at dk_Law_21 13 rfl) ?_
  refine v_iconst C 1 (dk_at dk_Law_21 14 rfl) ?_
  refine v_iadd C (dk_at dk_Law_21 15 rfl) ?_
  refine v_sld C F.sc (in_1 hp F.n3) (dk_at dk_Law_21 16 rfl) ?_
  refine v_aload_n C 0 rfl (dk_at dk_Law_21 17 rfl) ?_
  refine v_iload_n C 3 rfl (dk_at dk_Law_21 18 rfl) ?_
  refine v_iconst C 2 (dk_at dk_Law_21 19 rfl) ?_
  refine v_iadd C (dk_at dk_Law_21 20 rfl) ?_
  refine v_sld C F.sc (in_2 hp F.n3) (dk_at dk_Law_21 21 rfl) ?_
  refine v_cXI C G.fl G.dj G.y2 G.y0 cl_Law_157 [.int (xs (nI p + 1).toNatClampNeg), .int (xs (nI p + 2).toNatClampNeg)] (m_Face_years (G.lyF F) (p_years G.inv hn)) ⟨Nat.le_of_ble_eq_true rfl, Nat.le_of_ble_eq_true rfl, rfl, rfl⟩ rfl rfl (Nat.le_of_ble_eq_true rfl) (dk_at dk_Law_21 22 rfl) (fun r x1 h im => ?_)
  refine v_aload_n C 2 rfl (dk_at dk_Law_21 23 rfl) ?_
  refine v_aload_n C 0 rfl (dk_at dk_Law_21 24 rfl) ?_
  refine v_iload_n C 3 rfl (dk_at dk_Law_21 25 rfl) ?_
  refine v_iconst C 1 (dk_at dk_Law_21 26 rfl) ?_
  refine v_iadd C (dk_at dk_Law_21 27 rfl) ?_
  refine v_sld C F.sc (in_1 hp F.n3) (dk_at dk_Law_21 28 rfl) ?_
  refine v_aload_n C 0 rfl (dk_at dk_Law_21 29 rfl) ?_
  refine v_iload_n C 3 rfl (dk_at dk_Law_21 30 rfl) ?_
  refine v_iconst C 2 (dk_at dk_Law_21 31 rfl) ?_
  refine v_iadd C (dk_at dk_Law_21 32 rfl) ?_
  refine v_sld C F.sc (in_2 hp F.n3) (dk_at dk_Law_21 33 rfl) ?_
  refine v_cMI C F.up F.km G.dj cl_Law_160 [.int (xs (nI p + 1).toNatClampNeg), .int (xs (nI p + 2).toNatClampNeg)] (m_M_years F.km.2.2.1 h) ⟨Nat.le_of_ble_eq_true rfl, Nat.le_of_ble_eq_true rfl, rfl, rfl⟩ rfl rfl (Nat.le_of_ble_eq_true rfl) (dk_at dk_Law_21 34 rfl) (fun r1 m1 h1 => ?_)
  obtain ⟨rfl, hi⟩ := h1
  refine v_same C 1391 rfl (dk_at dk_Law_21 35 rfl) ?_
  exact k w T x1 m1 c0 s0 C (G.call hi im) (by omega) (by omega)
theorem cs_drawn (F : FX X v b z A b0 N xs) (C : CLw X w (A, c0, s0) b) (G : GW b T w v x m n) (hp : p + 7 ≤ N) (hn : n < 2 ^ 20) (hc : c0 + 15 ≤ 600000 ∧ s0 + 804 ≤ 7302250) (k : KT X v b A c0 s0 Q b0 p n) : gV X w v (A, c0, s0) Q x m 1276 [(0, .ref b0), (1, .ref (wAd w 0)), (2, .ref (wAd v 0)), (3, .int (nI p))] [] := by
  refine v_aload_n C 1 rfl (dk_at dk_Law_21 38 rfl) ?_
  refine v_aload_n C 0 rfl (dk_at dk_Law_21 39 rfl) ?_
  refine v_iload_n C 3 rfl (dk_at dk_Law_22 0 rfl) ?_
  refine v_iconst C 1 (dk_at dk_Law_22 1 rfl) ?_
  refine v_iadd C (dk_at dk_Law_22 2 rfl) ?_
  refine v_sld C F.sc (in_1 hp F.n3) (dk_at dk_Law_22 3 rfl) ?_
  refine v_aload_n C 0 rfl (dk_at dk_Law_22 4 rfl) ?_
  refine v_iload_n C 3 rfl (dk_at dk_Law_22 5 rfl) ?_
  refine v_iconst C 2 (dk_at dk_Law_22 6 rfl) ?_
  refine v_iadd C (dk_at dk_Law_22 7 rfl) ?_
  refine v_sld C F.sc (in_2 hp F.n3) (dk_at dk_Law_22 8 rfl) ?_
  refine v_cXI C G.fl G.dj G.y2 G.y0 cl_Law_161 [.int (xs (nI p + 1).toNatClampNeg), .int (xs (nI p + 2).toNatClampNeg)] (m_Face_drawn (G.lyF F) (p_drawn G.inv)) ⟨Nat.le_of_ble_eq_true rfl, Nat.le_of_ble_eq_true rfl, rfl, rfl⟩ rfl rfl (Nat.le_of_ble_eq_true rfl) (dk_at dk_Law_22 9 rfl) (fun r x1 h im => ?_)
  refine v_aload_n C 2 rfl (dk_at dk_Law_22 10 rfl) ?_
  refine v_aload_n C 0 rfl (dk_at dk_Law_22 11 rfl) ?_
  refine v_iload_n C 3 rfl (dk_at dk_Law_22 12 rfl) ?_
  refine v_iconst C 1 (dk_at dk_Law_22 13 rfl) ?_
  refine v_iadd C (dk_at dk_Law_22 14 rfl) ?_
  refine v_sld C F.sc (in_1 hp F.n3) (dk_at dk_Law_22 15 rfl) ?_
  refine v_aload_n C 0 rfl (dk_at dk_Law_22 16 rfl) ?_
  refine v_iload_n C 3 rfl (dk_at dk_Law_22 17 rfl) ?_
  refine v_iconst C 2 (dk_at dk_Law_22 18 rfl) ?_
  refine v_iadd C (dk_at dk_Law_22 19 rfl) ?_
  refine v_sld C F.sc (in_2 hp F.n3) (dk_at dk_Law_22 20 rfl) ?_
  refine v_cMI C F.up F.km G.dj cl_Law_164 [.int (xs (nI p + 1).toNatClampNeg), .int (xs (nI p + 2).toNatClampNeg)] (m_M_drawn F.km.2.2.1 h) ⟨Nat.le_of_ble_eq_true rfl, Nat.le_of_ble_eq_true rfl, rfl, rfl⟩ rfl rfl (Nat.le_of_ble_eq_true rfl) (dk_at dk_Law_22 21 rfl) (fun r1 m1 h1 => ?_)
  obtain ⟨rfl, hi⟩ := h1
  refine v_same C 1391 rfl (dk_at dk_Law_22 22 rfl) ?_
  exact k w T x1 m1 c0 s0 C (G.call hi.mono im) (by omega) (by omega)
theorem cs_count (F : FX X v b z A b0 N xs) (C : CLw X w (A, c0, s0) b) (G : GW b T w v x m n) (hp : p + 7 ≤ N) (hn : n < 2 ^ 20) (hc : c0 + 15 ≤ 600000 ∧ s0 + 804 ≤ 7302250) (k : KT X v b A c0 s0 Q b0 p n) : gV X w v (A, c0, s0) Q x m 1355 [(0, .ref b0), (1, .ref (wAd w 0)), (2, .ref (wAd v 0)), (3, .int (nI p))] [] := by
  refine v_aload_n C 1 rfl (dk_at dk_Law_23 19 rfl) ?_
  refine v_aload_n C 0 rfl (dk_at dk_Law_23 20 rfl) ?_
  refine v_iload_n C 3 rfl (dk_at dk_Law_23 21 rfl) ?_
  refine v_iconst C 1 (dk_at dk_Law_23 22 rfl) ?_
  refine v_iadd C (dk_at dk_Law_23 23 rfl) ?_
  refine v_sld C F.sc (in_1 hp F.n3) (dk_at dk_Law_23 24 rfl) ?_
  refine v_cXI C G.fl G.dj G.y2 G.y0 cl_Law_173 [.int (xs (nI p + 1).toNatClampNeg)] (m_Face_count (G.lyF F) (p_count G.inv)) ⟨Nat.le_of_ble_eq_true rfl, Nat.le_of_ble_eq_true rfl, rfl, rfl⟩ rfl rfl (Nat.le_of_ble_eq_true rfl) (dk_at dk_Law_23 25 rfl) (fun r x1 h im => ?_)
  refine v_aload_n C 2 rfl (dk_at dk_Law_23 26 rfl) ?_
  refine v_aload_n C 0 rfl (dk_at dk_Law_23 27 rfl) ?_
  refine v_iload_n C 3 rfl (dk_at dk_Law_23 28 rfl) ?_
  refine v_iconst C 1 (dk_at dk_Law_23 29 rfl) ?_
  refine v_iadd C (dk_at dk_Law_23 30 rfl) ?_
  refine v_sld C F.sc (in_1 hp F.n3) (dk_at dk_Law_23 31 rfl) ?_
  refine v_cMI C F.up F.km G.dj cl_Law_176 [.int (xs (nI p + 1).toNatClampNeg)] (m_M_count F.km.2.2.1 h) ⟨Nat.le_of_ble_eq_true rfl, Nat.le_of_ble_eq_true rfl, rfl, rfl⟩ rfl rfl (Nat.le_of_ble_eq_true rfl) (dk_at dk_Law_23 32 rfl) (fun r1 m1 h1 => ?_)
  obtain ⟨rfl, hi⟩ := h1
  refine v_same C 1391 rfl (dk_at dk_Law_23 33 rfl) ?_
  exact k w T x1 m1 c0 s0 C (G.call hi.mono im) (by omega) (by omega)
theorem cs_status (F : FX X v b z A b0 N xs) (C : CLw X w (A, c0, s0) b) (G : GW b T w v x m n) (hp : p + 7 ≤ N) (hn : n < 2 ^ 20) (hc : c0 + 15 ≤ 600000 ∧ s0 + 804 ≤ 7302250) (k : KT X v b A c0 s0 Q b0 p n) : gV X w v (A, c0, s0) Q x m 1378 [(0, .ref b0), (1, .ref (wAd w 0)), (2, .ref (wAd v 0)), (3, .int (nI p))] [] := by
  refine v_aload_n C 1 rfl (dk_at dk_Law_23 36 rfl) ?_
  refine v_cXI C G.fl G.dj G.y2 G.y0 cl_Law_177 [] (m_Face_status (G.lyF F) (p_status G.inv)) ⟨Nat.le_of_ble_eq_true rfl, Nat.le_of_ble_eq_true rfl, rfl, rfl⟩ rfl rfl (Nat.le_of_ble_eq_true rfl) (dk_at dk_Law_23 37 rfl) (fun r x1 h im => ?_)
  refine v_aload_n C 2 rfl (dk_at dk_Law_23 38 rfl) ?_
  refine v_cMI C F.up F.km G.dj cl_Law_180 [] (m_M_status F.km.2.2.1 h) ⟨Nat.le_of_ble_eq_true rfl, Nat.le_of_ble_eq_true rfl, rfl, rfl⟩ rfl rfl (Nat.le_of_ble_eq_true rfl) (dk_at dk_Law_23 39 rfl) (fun r1 m1 h1 => ?_)
  obtain ⟨rfl, hi⟩ := h1
  refine v_same C 1391 rfl (dk_at dk_Law_24 0 rfl) ?_
  exact k w T x1 m1 c0 s0 C (G.call hi.mono im) (by omega) (by omega)
end LCS
