set_option maxRecDepth 20000 in
theorem t_Pars_orderBody_j62 {X : CT} {w : WO} (C : CF X w (lim0 w) 3 cX4_orderBody RX4 (some .boolean) (.code yX4_orderBody cX4_orderBody 3 (some .boolean)) (rmK 107 2489)) {T : TXT} {z : EXa} (hL : LyX w T z) {post : Int32 → DD → Prop} {a1 : Int32} {σ : DD} (h : w_Pars_orderBody_j62 T post σ a1) : gW X w (lim0 w) 3 (QI X w post) σ 62 [(0, .ref (wAd w 30)), (1, .int a1)] [] := by
  unfold w_Pars_orderBody_j62 at h
  refine r_aload_n C 0 rfl (dk_at dk_Pars_orderBody_0 37 rfl) ?_
  refine r_getR C fl_Pars_26 30 (hL.1 30 _ rfl) rfl (dk_at dk_Pars_orderBody_0 38 rfl) ?_
  refine r_ldcS C (hL.2.2 _ _ C.z) rfl 8 (by decide) rfl (dk_at dk_Pars_orderBody_0 39 rfl) ?_
  refine r_cvI C cl_Pars_87 20 (hL.1 20 _ rfl) [.ref (z.2.1 8)] (m_Tape_isWord hL (by decide) h) (rmK_ok rfl rfl) rfl rfl (Nat.le_of_ble_eq_true rfl) (dk_at dk_Pars_orderBody_1 0 rfl) (fun r1 σ2 h => ?_)
  refine r_if_eq C 82 rfl (dk_at dk_Pars_orderBody_1 1 rfl) (fun c3 => ?_) (fun c3 => ?_)
  · replace h := h.1 c3
    refine r_iconst C 1 (dk_at dk_Pars_orderBody_1 6 rfl) ?_
    refine r_goto C 87 rfl (dk_at dk_Pars_orderBody_1 7 rfl) ?_
    exact r_zret C (Or.inr rfl) h (dk_at dk_Pars_orderBody_1 9 rfl)
  · replace h := h.2 c3
    refine r_aload_n C 0 rfl (dk_at dk_Pars_orderBody_1 2 rfl) ?_
    refine r_iload_n C 1 rfl (dk_at dk_Pars_orderBody_1 3 rfl) ?_
    refine r_cvI C cl_Pars_110 30 (hL.1 30 _ rfl) [.int a1] (m_Pars_timesOf hL h) (rmK_ok rfl rfl) rfl rfl (Nat.le_of_ble_eq_true rfl) (dk_at dk_Pars_orderBody_1 4 rfl) (fun r4 σ5 h => ?_)
    refine r_if_eq C 86 rfl (dk_at dk_Pars_orderBody_1 5 rfl) (fun c6 => ?_) (fun c6 => ?_)
    · replace h := h.1 c6
      refine r_iconst C 0 (dk_at dk_Pars_orderBody_1 8 rfl) ?_
      exact r_zret C (Or.inl rfl) h (dk_at dk_Pars_orderBody_1 9 rfl)
    · replace h := h.2 c6
      refine r_iconst C 1 (dk_at dk_Pars_orderBody_1 6 rfl) ?_
      refine r_goto C 87 rfl (dk_at dk_Pars_orderBody_1 7 rfl) ?_
      exact r_zret C (Or.inr rfl) h (dk_at dk_Pars_orderBody_1 9 rfl)
set_option maxRecDepth 20000 in
theorem m_Pars_orderBody {l : Launch} {w : WO} {T : TXT} {z : EXa} (hL : LyX w T z) {σ : DD} {a1 : Int32} {post : Int32 → DD → Prop} (h : w_Pars_orderBody T σ a1 post) : MI l w yX4_orderBody cX4_orderBody 3 .boolean (rmK 107 2489) σ [.ref (wAd w 30), .int a1] post :=
  met_head (rt := (some .boolean)) (by decide) rfl (fun X hX C => by
  subst hX
  unfold w_Pars_orderBody at h
  show gW X w (lim0 w) 3 (QI X w post) σ 0 [(0, .ref (wAd w 30)), (1, .int a1)] []
  refine r_aload_n C 0 rfl (dk_at dk_Pars_orderBody_0 0 rfl) ?_
  refine r_getR C fl_Pars_26 30 (hL.1 30 _ rfl) rfl (dk_at dk_Pars_orderBody_0 1 rfl) ?_
  refine r_ldcS C (hL.2.2 _ _ C.z) rfl 6 (by decide) rfl (dk_at dk_Pars_orderBody_0 2 rfl) ?_
  refine r_cvI C cl_Pars_96 20 (hL.1 20 _ rfl) [.ref (z.2.1 6)] (m_Tape_indexAmong hL (by decide) h) (rmK_ok rfl rfl) rfl rfl (Nat.le_of_ble_eq_true rfl) (dk_at dk_Pars_orderBody_0 3 rfl) (fun r7 σ8 h => ?_)
  refine r_istore_n C [(2, .int r7), (0, .ref (wAd w 30)), (1, .int a1)] rfl rfl (dk_at dk_Pars_orderBody_0 4 rfl) ?_
  refine r_iload_n C 0 rfl (dk_at dk_Pars_orderBody_0 5 rfl) ?_
  refine r_iconst C (-1) (dk_at dk_Pars_orderBody_0 6 rfl) ?_
  refine r_icmp_ne C 20 rfl (dk_at dk_Pars_orderBody_0 7 rfl) (fun c9 => ?_) (fun c9 => ?_)
  · replace h := h.1 c9
    refine r_aload_n C 1 rfl (dk_at dk_Pars_orderBody_0 11 rfl) ?_
    refine r_getR C fl_Pars_19 30 (hL.1 30 _ rfl) rfl (dk_at dk_Pars_orderBody_0 12 rfl) ?_
    refine r_iload_n C 2 rfl (dk_at dk_Pars_orderBody_0 13 rfl) ?_
    refine r_iconst C 4 (dk_at dk_Pars_orderBody_0 14 rfl) ?_
    refine r_iadd C (dk_at dk_Pars_orderBody_0 15 rfl) ?_
    refine r_iload_n C 0 rfl (dk_at dk_Pars_orderBody_0 16 rfl) ?_
    obtain ⟨q12, h⟩ := h
    refine r_iast C 33 (hL.1 33 _ rfl) q12 (dk_at dk_Pars_orderBody_0 17 rfl) (r_sg (fun σ10 e11 => ?_))
    replace h := h σ10 e11
    refine r_aload_n C 1 rfl (dk_at dk_Pars_orderBody_0 18 rfl) ?_
    refine r_getR C fl_Pars_19 30 (hL.1 30 _ rfl) rfl (dk_at dk_Pars_orderBody_0 19 rfl) ?_
    refine r_iload_n C 2 rfl (dk_at dk_Pars_orderBody_0 20 rfl) ?_
    refine r_iconst C 1 (dk_at dk_Pars_orderBody_0 21 rfl) ?_
    refine r_iadd C (dk_at dk_Pars_orderBody_0 22 rfl) ?_
    refine r_aload_n C 1 rfl (dk_at dk_Pars_orderBody_0 23 rfl) ?_
    refine r_getI C fl_Pars_34 30 (hL.1 30 _ rfl) rfl (dk_at dk_Pars_orderBody_0 24 rfl) ?_
    obtain ⟨q15, h⟩ := h
    refine r_iast C 33 (hL.1 33 _ rfl) q15 (dk_at dk_Pars_orderBody_0 25 rfl) (r_sg (fun σ13 e14 => ?_))
    replace h := h σ13 e14
    refine r_aload_n C 1 rfl (dk_at dk_Pars_orderBody_0 26 rfl) ?_
    refine r_getR C fl_Pars_26 30 (hL.1 30 _ rfl) rfl (dk_at dk_Pars_orderBody_0 27 rfl) ?_
    refine r_cvV C cl_Pars_57 20 (hL.1 20 _ rfl) [] (m_Tape_advance hL h) (rmK_ok rfl rfl) rfl rfl (Nat.le_of_ble_eq_true rfl) (dk_at dk_Pars_orderBody_0 28 rfl) (fun σ17 h => ?_)
    refine r_iload_n C 0 rfl (dk_at dk_Pars_orderBody_0 29 rfl) ?_
    refine r_if_ne C 62 rfl (dk_at dk_Pars_orderBody_0 30 rfl) (fun c18 => ?_) (fun c18 => ?_)
    · replace h := h.1 c18
      refine r_lv [1, 2] rfl ?_
      exact t_Pars_orderBody_j62 C hL h
    · replace h := h.2 c18
      refine r_aload_n C 1 rfl (dk_at dk_Pars_orderBody_0 31 rfl) ?_
      refine r_iload_n C 2 rfl (dk_at dk_Pars_orderBody_0 32 rfl) ?_
      refine r_cvI C cl_Pars_105 30 (hL.1 30 _ rfl) [.int a1] (m_Pars_whatByWhom hL h) (rmK_ok rfl rfl) rfl rfl (Nat.le_of_ble_eq_true rfl) (dk_at dk_Pars_orderBody_0 33 rfl) (fun r19 σ20 h => ?_)
      refine r_if_ne C 62 rfl (dk_at dk_Pars_orderBody_0 34 rfl) (fun c21 => ?_) (fun c21 => ?_)
      · replace h := h.1 c21
        refine r_lv [1, 2] rfl ?_
        exact t_Pars_orderBody_j62 C hL h
      · replace h := h.2 c21
        refine r_iconst C 0 (dk_at dk_Pars_orderBody_0 35 rfl) ?_
        exact r_zret C (Or.inl rfl) h (dk_at dk_Pars_orderBody_0 36 rfl)
  · replace h := h.2 c9
    refine r_aload_n C 1 rfl (dk_at dk_Pars_orderBody_0 8 rfl) ?_
    refine r_cvI C cl_Pars_63 30 (hL.1 30 _ rfl) [] (m_Pars_halt hL h) (rmK_ok rfl rfl) rfl rfl (Nat.le_of_ble_eq_true rfl) (dk_at dk_Pars_orderBody_0 9 rfl) (fun r22 σ23 h => ?_)
    exact r_zret C h.1 h.2 (dk_at dk_Pars_orderBody_0 10 rfl)
  )
set_option maxRecDepth 20000 in
theorem t_Pars_clause_j112 {X : CT} {w : WO} (C : CF X w (lim0 w) 2 cX4_clause RX4 (some .boolean) (.code yX4_clause cX4_clause 2 (some .boolean)) (rmK 110 2562)) {T : TXT} {z : EXa} (hL : LyX w T z) {post : Int32 → DD → Prop} {a1 : Int32} {σ : DD} (h : w_Pars_clause_j112 T post σ a1) : gW X w (lim0 w) 2 (QI X w post) σ 112 [(0, .ref (wAd w 30)), (1, .int a1)] [] := by
  unfold w_Pars_clause_j112 at h
  refine r_aload_n C 0 rfl (dk_at dk_Pars_clause_1 23 rfl) ?_
  refine r_getR C fl_Pars_19 30 (hL.1 30 _ rfl) rfl (dk_at dk_Pars_clause_1 24 rfl) ?_
  refine r_iload_n C 1 rfl (dk_at dk_Pars_clause_1 25 rfl) ?_
  refine r_iconst C 3 (dk_at dk_Pars_clause_1 26 rfl) ?_
  refine r_iadd C (dk_at dk_Pars_clause_1 27 rfl) ?_
  refine r_aload_n C 0 rfl (dk_at dk_Pars_clause_1 28 rfl) ?_
  refine r_getI C fl_Pars_34 30 (hL.1 30 _ rfl) rfl (dk_at dk_Pars_clause_1 29 rfl) ?_
  obtain ⟨q3, h⟩ := h
  refine r_iast C 33 (hL.1 33 _ rfl) q3 (dk_at dk_Pars_clause_1 30 rfl) (r_sg (fun σ1 e2 => ?_))
  replace h := h σ1 e2
  refine r_aload_n C 0 rfl (dk_at dk_Pars_clause_1 31 rfl) ?_
  refine r_dup C rfl (dk_at dk_Pars_clause_1 32 rfl) ?_
  refine r_getI C fl_Pars_37 30 (hL.1 30 _ rfl) rfl (dk_at dk_Pars_clause_1 33 rfl) ?_
  refine r_iconst C 1 (dk_at dk_Pars_clause_1 34 rfl) ?_
  refine r_iadd C (dk_at dk_Pars_clause_1 35 rfl) ?_
  refine r_putI C fl_Pars_37 30 (hL.1 30 _ rfl) rfl (dk_at dk_Pars_clause_1 36 rfl) (r_sg (fun σ4 e5 => ?_))
  replace h := h σ4 e5
  refine r_iconst C 1 (dk_at dk_Pars_clause_1 37 rfl) ?_
  exact r_zret C (Or.inr rfl) h (dk_at dk_Pars_clause_1 38 rfl)
set_option maxRecDepth 20000 in
theorem t_Pars_clause_j71 {X : CT} {w : WO} (C : CF X w (lim0 w) 2 cX4_clause RX4 (some .boolean) (.code yX4_clause cX4_clause 2 (some .boolean)) (rmK 110 2562)) {T : TXT} {z : EXa} (hL : LyX w T z) {post : Int32 → DD → Prop} {a1 : Int32} {σ : DD} (h : w_Pars_clause_j71 T post σ a1) : gW X w (lim0 w) 2 (QI X w post) σ 71 [(0, .ref (wAd w 30)), (1, .int a1)] [] := by
  unfold w_Pars_clause_j71 at h
  refine r_aload_n C 0 rfl (dk_at dk_Pars_clause_1 1 rfl) ?_
  refine r_getR C fl_Pars_19 30 (hL.1 30 _ rfl) rfl (dk_at dk_Pars_clause_1 2 rfl) ?_
  refine r_iload_n C 1 rfl (dk_at dk_Pars_clause_1 3 rfl) ?_
  refine r_iconst C 2 (dk_at dk_Pars_clause_1 4 rfl) ?_
  refine r_iadd C (dk_at dk_Pars_clause_1 5 rfl) ?_
  refine r_aload_n C 0 rfl (dk_at dk_Pars_clause_1 6 rfl) ?_
  refine r_getI C fl_Pars_34 30 (hL.1 30 _ rfl) rfl (dk_at dk_Pars_clause_1 7 rfl) ?_
  obtain ⟨q8, h⟩ := h
  refine r_iast C 33 (hL.1 33 _ rfl) q8 (dk_at dk_Pars_clause_1 8 rfl) (r_sg (fun σ6 e7 => ?_))
  replace h := h σ6 e7
  refine r_aload_n C 0 rfl (dk_at dk_Pars_clause_1 9 rfl) ?_
  refine r_getR C fl_Pars_26 30 (hL.1 30 _ rfl) rfl (dk_at dk_Pars_clause_1 10 rfl) ?_
  refine r_ldcS C (hL.2.2 _ _ C.z) rfl 9 (by decide) rfl (dk_at dk_Pars_clause_1 11 rfl) ?_
  refine r_cvI C cl_Pars_87 20 (hL.1 20 _ rfl) [.ref (z.2.1 9)] (m_Tape_isWord hL (by decide) h) (rmK_ok rfl rfl) rfl rfl (Nat.le_of_ble_eq_true rfl) (dk_at dk_Pars_clause_1 12 rfl) (fun r9 σ10 h => ?_)
  refine r_if_eq C 112 rfl (dk_at dk_Pars_clause_1 13 rfl) (fun c11 => ?_) (fun c11 => ?_)
  · replace h := h.1 c11
    refine r_lv [0, 1] rfl ?_
    exact t_Pars_clause_j112 C hL h
  · replace h := h.2 c11
    refine r_aload_n C 0 rfl (dk_at dk_Pars_clause_1 14 rfl) ?_
    refine r_getR C fl_Pars_26 30 (hL.1 30 _ rfl) rfl (dk_at dk_Pars_clause_1 15 rfl) ?_
    refine r_cvV C cl_Pars_57 20 (hL.1 20 _ rfl) [] (m_Tape_advance hL h) (rmK_ok rfl rfl) rfl rfl (Nat.le_of_ble_eq_true rfl) (dk_at dk_Pars_clause_1 16 rfl) (fun σ13 h => ?_)
    refine r_aload_n C 0 rfl (dk_at dk_Pars_clause_1 17 rfl) ?_
    refine r_iconst C 0 (dk_at dk_Pars_clause_1 18 rfl) ?_
    refine r_cvI C cl_Pars_91 30 (hL.1 30 _ rfl) [.int 0] (m_Pars_test hL h) (rmK_ok rfl rfl) rfl rfl (Nat.le_of_ble_eq_true rfl) (dk_at dk_Pars_clause_1 19 rfl) (fun r14 σ15 h => ?_)
    refine r_if_ne C 112 rfl (dk_at dk_Pars_clause_1 20 rfl) (fun c16 => ?_) (fun c16 => ?_)
    · replace h := h.1 c16
      refine r_lv [0, 1] rfl ?_
      exact t_Pars_clause_j112 C hL h
    · replace h := h.2 c16
      refine r_iconst C 0 (dk_at dk_Pars_clause_1 21 rfl) ?_
      exact r_zret C (Or.inl rfl) h (dk_at dk_Pars_clause_1 22 rfl)
set_option maxRecDepth 20000 in
theorem m_Pars_clause {l : Launch} {w : WO} {T : TXT} {z : EXa} (hL : LyX w T z) {σ : DD} {post : Int32 → DD → Prop} (h : w_Pars_clause T σ post) : MI l w yX4_clause cX4_clause 2 .boolean (rmK 110 2562) σ [.ref (wAd w 30)] post :=
  met_head (rt := (some .boolean)) (by decide) rfl (fun X hX C => by
  subst hX
  unfold w_Pars_clause at h
  show gW X w (lim0 w) 2 (QI X w post) σ 0 [(0, .ref (wAd w 30))] []
  refine r_aload_n C 0 rfl (dk_at dk_Pars_clause_0 0 rfl) ?_
  refine r_getI C fl_Pars_37 30 (hL.1 30 _ rfl) rfl (dk_at dk_Pars_clause_0 1 rfl) ?_
  refine r_bipush C 12 (dk_at dk_Pars_clause_0 2 rfl) ?_
  refine r_icmp_lt C 14 rfl (dk_at dk_Pars_clause_0 3 rfl) (fun c17 => ?_) (fun c17 => ?_)
  · replace h := h.1 c17
    refine r_aload_n C 0 rfl (dk_at dk_Pars_clause_0 7 rfl) ?_
    refine r_getI C fl_Pars_37 30 (hL.1 30 _ rfl) rfl (dk_at dk_Pars_clause_0 8 rfl) ?_
    refine r_bipush C 6 (dk_at dk_Pars_clause_0 9 rfl) ?_
    refine r_imul C (dk_at dk_Pars_clause_0 10 rfl) ?_
    refine r_topi (fun v18 e19 => ?_)
    replace h := h v18 e19
    refine r_istore_n C [(1, .int v18), (0, .ref (wAd w 30))] rfl rfl (dk_at dk_Pars_clause_0 11 rfl) ?_
    refine r_aload_n C 1 rfl (dk_at dk_Pars_clause_0 12 rfl) ?_
    refine r_getR C fl_Pars_19 30 (hL.1 30 _ rfl) rfl (dk_at dk_Pars_clause_0 13 rfl) ?_
    refine r_iload_n C 0 rfl (dk_at dk_Pars_clause_0 14 rfl) ?_
    refine r_iconst C 0 (dk_at dk_Pars_clause_0 15 rfl) ?_
    refine r_iadd C (dk_at dk_Pars_clause_0 16 rfl) ?_
    refine r_aload_n C 1 rfl (dk_at dk_Pars_clause_0 17 rfl) ?_
    refine r_getI C fl_Pars_34 30 (hL.1 30 _ rfl) rfl (dk_at dk_Pars_clause_0 18 rfl) ?_
    obtain ⟨q22, h⟩ := h
    refine r_iast C 33 (hL.1 33 _ rfl) q22 (dk_at dk_Pars_clause_0 19 rfl) (r_sg (fun σ20 e21 => ?_))
    replace h := h σ20 e21
    refine r_aload_n C 1 rfl (dk_at dk_Pars_clause_0 20 rfl) ?_
    refine r_getR C fl_Pars_19 30 (hL.1 30 _ rfl) rfl (dk_at dk_Pars_clause_0 21 rfl) ?_
    refine r_iload_n C 0 rfl (dk_at dk_Pars_clause_0 22 rfl) ?_
    refine r_iconst C 5 (dk_at dk_Pars_clause_0 23 rfl) ?_
    refine r_iadd C (dk_at dk_Pars_clause_0 24 rfl) ?_
    refine r_iconst C 1 (dk_at dk_Pars_clause_0 25 rfl) ?_
    obtain ⟨q25, h⟩ := h
    refine r_iast C 33 (hL.1 33 _ rfl) q25 (dk_at dk_Pars_clause_0 26 rfl) (r_sg (fun σ23 e24 => ?_))
    replace h := h σ23 e24
    refine r_aload_n C 1 rfl (dk_at dk_Pars_clause_0 27 rfl) ?_
    refine r_getI C fl_Pars_30 30 (hL.1 30 _ rfl) rfl (dk_at dk_Pars_clause_0 28 rfl) ?_
    refine r_if_eq C 61 rfl (dk_at dk_Pars_clause_0 29 rfl) (fun c26 => ?_) (fun c26 => ?_)
    · replace h := h.1 c26
      refine r_aload_n C 1 rfl (dk_at dk_Pars_clause_0 35 rfl) ?_
      refine r_iload_n C 0 rfl (dk_at dk_Pars_clause_0 36 rfl) ?_
      refine r_cvI C cl_Pars_82 30 (hL.1 30 _ rfl) [.int v18] (m_Pars_orderBody hL h) (rmK_ok rfl rfl) rfl rfl (Nat.le_of_ble_eq_true rfl) (dk_at dk_Pars_clause_0 37 rfl) (fun r27 σ28 h => ?_)
      refine r_if_ne C 71 rfl (dk_at dk_Pars_clause_0 38 rfl) (fun c29 => ?_) (fun c29 => ?_)
      · replace h := h.1 c29
        refine r_lv [1, 0] rfl ?_
        exact t_Pars_clause_j71 C hL h
      · replace h := h.2 c29
        refine r_iconst C 0 (dk_at dk_Pars_clause_0 39 rfl) ?_
        exact r_zret C (Or.inl rfl) h (dk_at dk_Pars_clause_1 0 rfl)
    · replace h := h.2 c26
      refine r_aload_n C 1 rfl (dk_at dk_Pars_clause_0 30 rfl) ?_
      refine r_iload_n C 0 rfl (dk_at dk_Pars_clause_0 31 rfl) ?_
      refine r_cvI C cl_Pars_78 30 (hL.1 30 _ rfl) [.int v18] (m_Pars_lawBody hL h) (rmK_ok rfl rfl) rfl rfl (Nat.le_of_ble_eq_true rfl) (dk_at dk_Pars_clause_0 32 rfl) (fun r30 σ31 h => ?_)
      refine r_if_eq C 69 rfl (dk_at dk_Pars_clause_0 33 rfl) (fun c32 => ?_) (fun c32 => ?_)
      · replace h := h.1 c32
        refine r_iconst C 0 (dk_at dk_Pars_clause_0 39 rfl) ?_
        exact r_zret C (Or.inl rfl) h (dk_at dk_Pars_clause_1 0 rfl)
      · replace h := h.2 c32
        refine r_goto C 71 rfl (dk_at dk_Pars_clause_0 34 rfl) ?_
        refine r_lv [1, 0] rfl ?_
        exact t_Pars_clause_j71 C hL h
  · replace h := h.2 c17
    refine r_aload_n C 0 rfl (dk_at dk_Pars_clause_0 4 rfl) ?_
    refine r_cvI C cl_Pars_63 30 (hL.1 30 _ rfl) [] (m_Pars_halt hL h) (rmK_ok rfl rfl) rfl rfl (Nat.le_of_ble_eq_true rfl) (dk_at dk_Pars_clause_0 5 rfl) (fun r33 σ34 h => ?_)
    exact r_zret C h.1 h.2 (dk_at dk_Pars_clause_0 6 rfl)
  )
set_option maxRecDepth 20000 in
theorem m_Real_canBeTrait {l : Launch} {w : WO} {T : TXT} {z : EXa} (hL : LyX w T z) {σ : DD} {a0 : Int32} {a1 : Int32} {post : Int32 → DD → Prop} (h : w_Real_canBeTrait T σ a0 a1 post) : MI l w yX5_canBeTrait cX5_canBeTrait 2 .boolean (rmK 0 0) σ [.int a0, .int a1] post :=
  met_head (rt := (some .boolean)) (by decide) rfl (fun X hX C => by
  subst hX
  unfold w_Real_canBeTrait at h
  show gW X w (lim0 w) 2 (QI X w post) σ 0 [(0, .int a0), (1, .int a1)] []
  refine r_iload_n C 0 rfl (dk_at dk_Real_canBeTrait_0 0 rfl) ?_
  refine r_if_lt C 12 rfl (dk_at dk_Real_canBeTrait_0 1 rfl) (fun c1 => ?_) (fun c1 => ?_)
  · replace h := h.1 c1
    refine r_iconst C 0 (dk_at dk_Real_canBeTrait_0 6 rfl) ?_
    exact r_zret C (Or.inl rfl) h (dk_at dk_Real_canBeTrait_0 7 rfl)
  · replace h := h.2 c1
    refine r_iload_n C 0 rfl (dk_at dk_Real_canBeTrait_0 2 rfl) ?_
    refine r_getsT C (hL.2.2 _ _ C.z) 0 (by decide) tw_450 (dk_at dk_Real_canBeTrait_0 3 rfl) ?_
    refine r_tblen C (hL.2.2 _ _ C.z) 0 (by decide) 3 (by decide) (dk_at dk_Real_canBeTrait_0 4 rfl) ?_
    refine r_icmp_lt C 14 rfl (dk_at dk_Real_canBeTrait_0 5 rfl) (fun c2 => ?_) (fun c2 => ?_)
    · replace h := h.1 c2
      refine r_iload_n C 1 rfl (dk_at dk_Real_canBeTrait_0 8 rfl) ?_
      refine r_getsT C (hL.2.2 _ _ C.z) 0 (by decide) tw_450 (dk_at dk_Real_canBeTrait_0 9 rfl) ?_
      refine r_iload_n C 0 rfl (dk_at dk_Real_canBeTrait_0 10 rfl) ?_
      obtain ⟨q3, h⟩ := h
      refine r_tbld C (hL.2.2 _ _ C.z) 0 (by decide) q3 (dk_at dk_Real_canBeTrait_0 11 rfl) ?_
      refine r_icmp_lt C 36 rfl (dk_at dk_Real_canBeTrait_0 12 rfl) (fun c4 => ?_) (fun c4 => ?_)
      · replace h := h.1 c4
        refine r_iconst C 0 (dk_at dk_Real_canBeTrait_0 20 rfl) ?_
        exact r_zret C (Or.inl rfl) h (dk_at dk_Real_canBeTrait_0 21 rfl)
      · replace h := h.2 c4
        refine r_iload_n C 1 rfl (dk_at dk_Real_canBeTrait_0 13 rfl) ?_
        refine r_getsT C (hL.2.2 _ _ C.z) 1 (by decide) tw_452 (dk_at dk_Real_canBeTrait_0 14 rfl) ?_
        refine r_iload_n C 0 rfl (dk_at dk_Real_canBeTrait_0 15 rfl) ?_
        obtain ⟨q5, h⟩ := h
        refine r_tbld C (hL.2.2 _ _ C.z) 1 (by decide) q5 (dk_at dk_Real_canBeTrait_0 16 rfl) ?_
        refine r_icmp_gt C 36 rfl (dk_at dk_Real_canBeTrait_0 17 rfl) (fun c6 => ?_) (fun c6 => ?_)
        · replace h := h.1 c6
          refine r_iconst C 0 (dk_at dk_Real_canBeTrait_0 20 rfl) ?_
          exact r_zret C (Or.inl rfl) h (dk_at dk_Real_canBeTrait_0 21 rfl)
        · replace h := h.2 c6
          refine r_iconst C 1 (dk_at dk_Real_canBeTrait_0 18 rfl) ?_
          refine r_goto C 37 rfl (dk_at dk_Real_canBeTrait_0 19 rfl) ?_
          exact r_zret C (Or.inr rfl) h (dk_at dk_Real_canBeTrait_0 21 rfl)
    · replace h := h.2 c2
      refine r_iconst C 0 (dk_at dk_Real_canBeTrait_0 6 rfl) ?_
      exact r_zret C (Or.inl rfl) h (dk_at dk_Real_canBeTrait_0 7 rfl)
  )
set_option maxRecDepth 20000 in
theorem m_Real_canBeNeed {l : Launch} {w : WO} {T : TXT} {z : EXa} (hL : LyX w T z) {σ : DD} {a0 : Int32} {a1 : Int32} {post : Int32 → DD → Prop} (h : w_Real_canBeNeed T σ a0 a1 post) : MI l w yX5_canBeNeed cX5_canBeNeed 2 .boolean (rmK 0 0) σ [.int a0, .int a1] post :=
  met_head (rt := (some .boolean)) (by decide) rfl (fun X hX C => by
  subst hX
  unfold w_Real_canBeNeed at h
  show gW X w (lim0 w) 2 (QI X w post) σ 0 [(0, .int a0), (1, .int a1)] []
  refine r_iload_n C 1 rfl (dk_at dk_Real_canBeNeed_0 0 rfl) ?_
  refine r_iconst C (-1) (dk_at dk_Real_canBeNeed_0 1 rfl) ?_
  refine r_icmp_lt C 14 rfl (dk_at dk_Real_canBeNeed_0 2 rfl) (fun c1 => ?_) (fun c1 => ?_)
  · replace h := h.1 c1
    refine r_iconst C 0 (dk_at dk_Real_canBeNeed_0 8 rfl) ?_
    exact r_zret C (Or.inl rfl) h (dk_at dk_Real_canBeNeed_0 9 rfl)
  · replace h := h.2 c1
    refine r_iload_n C 1 rfl (dk_at dk_Real_canBeNeed_0 3 rfl) ?_
    refine r_iload_n C 0 rfl (dk_at dk_Real_canBeNeed_0 4 rfl) ?_
    refine r_icmp_eq C 14 rfl (dk_at dk_Real_canBeNeed_0 5 rfl) (fun c2 => ?_) (fun c2 => ?_)
    · replace h := h.1 c2
      refine r_iconst C 0 (dk_at dk_Real_canBeNeed_0 8 rfl) ?_
      exact r_zret C (Or.inl rfl) h (dk_at dk_Real_canBeNeed_0 9 rfl)
    · replace h := h.2 c2
      refine r_iconst C 1 (dk_at dk_Real_canBeNeed_0 6 rfl) ?_
      refine r_goto C 15 rfl (dk_at dk_Real_canBeNeed_0 7 rfl) ?_
      exact r_zret C (Or.inr rfl) h (dk_at dk_Real_canBeNeed_0 9 rfl)
  )
set_option maxRecDepth 20000 in
theorem m_Real_canBeAct {l : Launch} {w : WO} {T : TXT} {z : EXa} (hL : LyX w T z) {σ : DD} {a0 : Int32} {a1 : Int32} {a2 : Int32} {post : Int32 → DD → Prop} (h : w_Real_canBeAct T σ a0 a1 a2 post) : MI l w yX5_canBeAct cX5_canBeAct 3 .boolean (rmK 1 21) σ [.int a0, .int a1, .int a2] post :=
  met_head (rt := (some .boolean)) (by decide) rfl (fun X hX C => by
  subst hX
  unfold w_Real_canBeAct at h
  show gW X w (lim0 w) 3 (QI X w post) σ 0 [(0, .int a0), (1, .int a1), (2, .int a2)] []
  refine r_iconst C 0 (dk_at dk_Real_canBeAct_0 0 rfl) ?_
  refine r_iload_n C 0 rfl (dk_at dk_Real_canBeAct_0 1 rfl) ?_
  refine r_csI C cs_Real_73 [.int 0, .int a0] (m_Real_canBeTrait hL h) (rmK_ok rfl rfl) rfl rfl (Nat.le_of_ble_eq_true rfl) (dk_at dk_Real_canBeAct_0 2 rfl) (fun r1 σ2 h => ?_)
  refine r_if_eq C 28 rfl (dk_at dk_Real_canBeAct_0 3 rfl) (fun c3 => ?_) (fun c3 => ?_)
  · replace h := h.1 c3
    refine r_iconst C 0 (dk_at dk_Real_canBeAct_0 14 rfl) ?_
    exact r_zret C (Or.inl rfl) h (dk_at dk_Real_canBeAct_0 15 rfl)
  · replace h := h.2 c3
    refine r_iconst C 1 (dk_at dk_Real_canBeAct_0 4 rfl) ?_
    refine r_iload_n C 1 rfl (dk_at dk_Real_canBeAct_0 5 rfl) ?_
    refine r_csI C cs_Real_73 [.int 1, .int a1] (m_Real_canBeTrait hL h) (rmK_ok rfl rfl) rfl rfl (Nat.le_of_ble_eq_true rfl) (dk_at dk_Real_canBeAct_0 6 rfl) (fun r4 σ5 h => ?_)
    refine r_if_eq C 28 rfl (dk_at dk_Real_canBeAct_0 7 rfl) (fun c6 => ?_) (fun c6 => ?_)
    · replace h := h.1 c6
      refine r_iconst C 0 (dk_at dk_Real_canBeAct_0 14 rfl) ?_
      exact r_zret C (Or.inl rfl) h (dk_at dk_Real_canBeAct_0 15 rfl)
    · replace h := h.2 c6
      refine r_iconst C 2 (dk_at dk_Real_canBeAct_0 8 rfl) ?_
      refine r_iload_n C 2 rfl (dk_at dk_Real_canBeAct_0 9 rfl) ?_
      refine r_csI C cs_Real_73 [.int 2, .int a2] (m_Real_canBeTrait hL h) (rmK_ok rfl rfl) rfl rfl (Nat.le_of_ble_eq_true rfl) (dk_at dk_Real_canBeAct_0 10 rfl) (fun r7 σ8 h => ?_)
      refine r_if_eq C 28 rfl (dk_at dk_Real_canBeAct_0 11 rfl) (fun c9 => ?_) (fun c9 => ?_)
      · replace h := h.1 c9
        refine r_iconst C 0 (dk_at dk_Real_canBeAct_0 14 rfl) ?_
        exact r_zret C (Or.inl rfl) h (dk_at dk_Real_canBeAct_0 15 rfl)
      · replace h := h.2 c9
        refine r_iconst C 1 (dk_at dk_Real_canBeAct_0 12 rfl) ?_
        refine r_goto C 29 rfl (dk_at dk_Real_canBeAct_0 13 rfl) ?_
        exact r_zret C (Or.inr rfl) h (dk_at dk_Real_canBeAct_0 15 rfl)
  )
set_option maxRecDepth 20000 in
theorem m_Real_canBeTerm {l : Launch} {w : WO} {T : TXT} {z : EXa} (hL : LyX w T z) {σ : DD} {a0 : Int32} {a1 : Int32} {post : Int32 → DD → Prop} (h : w_Real_canBeTerm T σ a0 a1 post) : MI l w yX5_canBeTerm cX5_canBeTerm 2 .boolean (rmK 0 0) σ [.int a0, .int a1] post :=
  met_head (rt := (some .boolean)) (by decide) rfl (fun X hX C => by
  subst hX
  unfold w_Real_canBeTerm at h
  show gW X w (lim0 w) 2 (QI X w post) σ 0 [(0, .int a0), (1, .int a1)] []
  refine r_iload_n C 0 rfl (dk_at dk_Real_canBeTerm_0 0 rfl) ?_
  refine r_if_lt C 12 rfl (dk_at dk_Real_canBeTerm_0 1 rfl) (fun c1 => ?_) (fun c1 => ?_)
  · replace h := h.1 c1
    refine r_iconst C 0 (dk_at dk_Real_canBeTerm_0 6 rfl) ?_
    exact r_zret C (Or.inl rfl) h (dk_at dk_Real_canBeTerm_0 7 rfl)
  · replace h := h.2 c1
    refine r_iload_n C 0 rfl (dk_at dk_Real_canBeTerm_0 2 rfl) ?_
    refine r_getsT C (hL.2.2 _ _ C.z) 2 (by decide) tw_572 (dk_at dk_Real_canBeTerm_0 3 rfl) ?_
    refine r_tblen C (hL.2.2 _ _ C.z) 2 (by decide) 4 (by decide) (dk_at dk_Real_canBeTerm_0 4 rfl) ?_
    refine r_icmp_lt C 14 rfl (dk_at dk_Real_canBeTerm_0 5 rfl) (fun c2 => ?_) (fun c2 => ?_)
    · replace h := h.1 c2
      refine r_iload_n C 1 rfl (dk_at dk_Real_canBeTerm_0 8 rfl) ?_
      refine r_getsT C (hL.2.2 _ _ C.z) 2 (by decide) tw_572 (dk_at dk_Real_canBeTerm_0 9 rfl) ?_
      refine r_iload_n C 0 rfl (dk_at dk_Real_canBeTerm_0 10 rfl) ?_
      obtain ⟨q3, h⟩ := h
      refine r_tbld C (hL.2.2 _ _ C.z) 2 (by decide) q3 (dk_at dk_Real_canBeTerm_0 11 rfl) ?_
      refine r_icmp_lt C 36 rfl (dk_at dk_Real_canBeTerm_0 12 rfl) (fun c4 => ?_) (fun c4 => ?_)
      · replace h := h.1 c4
        refine r_iconst C 0 (dk_at dk_Real_canBeTerm_0 20 rfl) ?_
        exact r_zret C (Or.inl rfl) h (dk_at dk_Real_canBeTerm_0 21 rfl)
      · replace h := h.2 c4
        refine r_iload_n C 1 rfl (dk_at dk_Real_canBeTerm_0 13 rfl) ?_
        refine r_getsT C (hL.2.2 _ _ C.z) 3 (by decide) tw_574 (dk_at dk_Real_canBeTerm_0 14 rfl) ?_
        refine r_iload_n C 0 rfl (dk_at dk_Real_canBeTerm_0 15 rfl) ?_
        obtain ⟨q5, h⟩ := h
        refine r_tbld C (hL.2.2 _ _ C.z) 3 (by decide) q5 (dk_at dk_Real_canBeTerm_0 16 rfl) ?_
        refine r_icmp_gt C 36 rfl (dk_at dk_Real_canBeTerm_0 17 rfl) (fun c6 => ?_) (fun c6 => ?_)
        · replace h := h.1 c6
          refine r_iconst C 0 (dk_at dk_Real_canBeTerm_0 20 rfl) ?_
          exact r_zret C (Or.inl rfl) h (dk_at dk_Real_canBeTerm_0 21 rfl)
        · replace h := h.2 c6
          refine r_iconst C 1 (dk_at dk_Real_canBeTerm_0 18 rfl) ?_
          refine r_goto C 37 rfl (dk_at dk_Real_canBeTerm_0 19 rfl) ?_
          exact r_zret C (Or.inr rfl) h (dk_at dk_Real_canBeTerm_0 21 rfl)
    · replace h := h.2 c2
      refine r_iconst C 0 (dk_at dk_Real_canBeTerm_0 6 rfl) ?_
      exact r_zret C (Or.inl rfl) h (dk_at dk_Real_canBeTerm_0 7 rfl)
  )
set_option maxRecDepth 20000 in
theorem m_Real_areActs {l : Launch} {w : WO} {T : TXT} {z : EXa} (hL : LyX w T z) {σ : DD} {a1 : Int32} {post : Int32 → DD → Prop} (h : w_Real_areActs T σ a1 post) : MI l w yX5_areActs cX5_areActs 2 .boolean (rmK 0 0) σ [.ref (wAd w 200), .int a1] post :=
  met_head (rt := (some .boolean)) (by decide) rfl (fun X hX C => by
  subst hX
  unfold w_Real_areActs at h
  show gW X w (lim0 w) 2 (QI X w post) σ 0 [(0, .ref (wAd w 200)), (1, .int a1)] []
  refine r_iload_n C 1 rfl (dk_at dk_Real_areActs_0 0 rfl) ?_
  refine r_if_lt C 18 rfl (dk_at dk_Real_areActs_0 1 rfl) (fun c1 => ?_) (fun c1 => ?_)
  · replace h := h.1 c1
    refine r_iconst C 0 (dk_at dk_Real_areActs_0 10 rfl) ?_
    exact r_zret C (Or.inl rfl) h (dk_at dk_Real_areActs_0 11 rfl)
  · replace h := h.2 c1
    refine r_iload_n C 1 rfl (dk_at dk_Real_areActs_0 2 rfl) ?_
    refine r_iconst C 1 (dk_at dk_Real_areActs_0 3 rfl) ?_
    refine r_aload_n C 0 rfl (dk_at dk_Real_areActs_0 4 rfl) ?_
    refine r_getI C fl_Real_83 200 (hL.1 200 _ rfl) rfl (dk_at dk_Real_areActs_0 5 rfl) ?_
    refine r_ishl C (dk_at dk_Real_areActs_0 6 rfl) ?_
    refine r_icmp_ge C 18 rfl (dk_at dk_Real_areActs_0 7 rfl) (fun c2 => ?_) (fun c2 => ?_)
    · replace h := h.1 c2
      refine r_iconst C 0 (dk_at dk_Real_areActs_0 10 rfl) ?_
      exact r_zret C (Or.inl rfl) h (dk_at dk_Real_areActs_0 11 rfl)
    · replace h := h.2 c2
      refine r_iconst C 1 (dk_at dk_Real_areActs_0 8 rfl) ?_
      refine r_goto C 19 rfl (dk_at dk_Real_areActs_0 9 rfl) ?_
      exact r_zret C (Or.inr rfl) h (dk_at dk_Real_areActs_0 11 rfl)
  )
set_option maxRecDepth 20000 in
theorem t_Real_bindersOf_b4 {X : CT} {w : WO} (C : CF X w (lim0 w) 4 cX5_bindersOf RX5 (some .int) (.code yX5_bindersOf cX5_bindersOf 4 (some .int)) (rmK 1 22)) {T : TXT} {z : EXa} (hL : LyX w T z) {a1 : Int32} {K4 : DD → Int32 → Int32 → Prop} {post : Int32 → DD → Prop} (k4 : ∀ (σ : DD) (a2 : Int32) (a3 : Int32), K4 σ a2 a3 → gW X w (lim0 w) 4 (QI X w post) σ 4 [(0, .ref (wAd w 200)), (1, .int a1), (2, .int a2), (3, .int a3)] []) {σ : DD} {a2 : Int32} {a3 : Int32} (h : w_Real_bindersOf_b4 T a1 K4 post σ a2 a3) : gW X w (lim0 w) 4 (QI X w post) σ 4 [(0, .ref (wAd w 200)), (1, .int a1), (2, .int a2), (3, .int a3)] [] := by
  unfold w_Real_bindersOf_b4 at h
  refine r_iload_n C 3 rfl (dk_at dk_Real_bindersOf_0 4 rfl) ?_
  refine r_aload_n C 0 rfl (dk_at dk_Real_bindersOf_0 5 rfl) ?_
  refine r_getI C fl_Real_83 200 (hL.1 200 _ rfl) rfl (dk_at dk_Real_bindersOf_0 6 rfl) ?_
  refine r_icmp_ge C 33 rfl (dk_at dk_Real_bindersOf_0 7 rfl) (fun c1 => ?_) (fun c1 => ?_)
  · replace h := h.1 c1
    refine r_iload_n C 2 rfl (dk_at dk_Real_bindersOf_0 23 rfl) ?_
    exact r_iret C h (dk_at dk_Real_bindersOf_0 24 rfl)
  · replace h := h.2 c1
    refine r_iload_n C 2 rfl (dk_at dk_Real_bindersOf_0 8 rfl) ?_
    refine r_aload_n C 0 rfl (dk_at dk_Real_bindersOf_0 9 rfl) ?_
    refine r_iload_n C 3 rfl (dk_at dk_Real_bindersOf_0 10 rfl) ?_
    refine r_iconst C 2 (dk_at dk_Real_bindersOf_0 11 rfl) ?_
    refine r_cvI C cl_Real_89 200 (hL.1 200 _ rfl) [.int a3, .int 2] (m_Real_trait hL h) (rmK_ok rfl rfl) rfl rfl (Nat.le_of_ble_eq_true rfl) (dk_at dk_Real_bindersOf_0 12 rfl) (fun r2 σ3 h => ?_)
    refine r_iload_n C 1 rfl (dk_at dk_Real_bindersOf_0 13 rfl) ?_
    refine r_ishr C (dk_at dk_Real_bindersOf_0 14 rfl) ?_
    refine r_iconst C 1 (dk_at dk_Real_bindersOf_0 15 rfl) ?_
    refine r_iand C (dk_at dk_Real_bindersOf_0 16 rfl) ?_
    refine r_iload_n C 3 rfl (dk_at dk_Real_bindersOf_0 17 rfl) ?_
    refine r_ishl C (dk_at dk_Real_bindersOf_0 18 rfl) ?_
    refine r_ior C (dk_at dk_Real_bindersOf_0 19 rfl) ?_
    refine r_topi (fun v4 e5 => ?_)
    replace h := h v4 e5
    refine r_istore_n C [(2, .int v4), (0, .ref (wAd w 200)), (1, .int a1), (3, .int a3)] rfl rfl (dk_at dk_Real_bindersOf_0 20 rfl) ?_
    refine r_iinc C 3 rfl rfl [(3, .int (a3 + 1)), (2, .int v4), (0, .ref (wAd w 200)), (1, .int a1)] rfl rfl (dk_at dk_Real_bindersOf_0 21 rfl) ?_
    refine r_goto C 4 rfl (dk_at dk_Real_bindersOf_0 22 rfl) ?_
    refine r_lv [2, 3, 1, 0] rfl ?_
    exact k4 _ _ _ h
set_option maxRecDepth 20000 in
theorem t_Real_bindersOf_l4 {X : CT} {w : WO} (C : CF X w (lim0 w) 4 cX5_bindersOf RX5 (some .int) (.code yX5_bindersOf cX5_bindersOf 4 (some .int)) (rmK 1 22)) {T : TXT} {z : EXa} (hL : LyX w T z) {a1 : Int32} {post : Int32 → DD → Prop} {σ : DD} {a2 : Int32} {a3 : Int32} (h : w_Real_bindersOf_l4 T post σ a1 a2 a3) : gW X w (lim0 w) 4 (QI X w post) σ 4 [(0, .ref (wAd w 200)), (1, .int a1), (2, .int a2), (3, .int a3)] [] :=
  LoopW (G := fun x : DD × Int32 × Int32 => gW X w (lim0 w) 4 (QI X w post) x.1 4 [(0, .ref (wAd w 200)), (1, .int a1), (2, .int x.2.1), (3, .int x.2.2)] []) (fun K x hK hF => t_Real_bindersOf_b4 C hL (fun σ a2 a3 q => hK (σ, a2, a3) q) hF) h
set_option maxRecDepth 20000 in
theorem m_Real_bindersOf {l : Launch} {w : WO} {T : TXT} {z : EXa} (hL : LyX w T z) {σ : DD} {a1 : Int32} {post : Int32 → DD → Prop} (h : w_Real_bindersOf T σ a1 post) : MI l w yX5_bindersOf cX5_bindersOf 4 .int (rmK 1 22) σ [.ref (wAd w 200), .int a1] post :=
  met_head (rt := (some .int)) (by decide) rfl (fun X hX C => by
  subst hX
  unfold w_Real_bindersOf at h
  show gW X w (lim0 w) 4 (QI X w post) σ 0 [(0, .ref (wAd w 200)), (1, .int a1)] []
  refine r_iconst C 0 (dk_at dk_Real_bindersOf_0 0 rfl) ?_
  refine r_istore_n C [(2, .int 0), (0, .ref (wAd w 200)), (1, .int a1)] rfl rfl (dk_at dk_Real_bindersOf_0 1 rfl) ?_
  refine r_iconst C 0 (dk_at dk_Real_bindersOf_0 2 rfl) ?_
  refine r_istore_n C [(3, .int 0), (2, .int 0), (0, .ref (wAd w 200)), (1, .int a1)] rfl rfl (dk_at dk_Real_bindersOf_0 3 rfl) ?_
  refine r_lv [2, 3, 1, 0] rfl ?_
  exact t_Real_bindersOf_l4 C hL h
  )
set_option maxRecDepth 20000 in
theorem m_Real_addAct {l : Launch} {w : WO} {T : TXT} {z : EXa} (hL : LyX w T z) {σ : DD} {a1 : Int32} {a2 : Int32} {a3 : Int32} {a4 : Int32} {post : Int32 → DD → Prop} (h : w_Real_addAct T σ a1 a2 a3 a4 post) : MI l w yX5_addAct cX5_addAct 6 .int (rmK 0 0) σ [.ref (wAd w 200), .int a1, .int a2, .int a3, .int a4] post :=
  met_head (rt := (some .int)) (by decide) rfl (fun X hX C => by
  subst hX
  unfold w_Real_addAct at h
  show gW X w (lim0 w) 6 (QI X w post) σ 0 [(0, .ref (wAd w 200)), (1, .int a1), (2, .int a2), (3, .int a3), (4, .int a4)] []
  refine r_aload_n C 0 rfl (dk_at dk_Real_addAct_0 0 rfl) ?_
  refine r_getI C fl_Real_83 200 (hL.1 200 _ rfl) rfl (dk_at dk_Real_addAct_0 1 rfl) ?_
  refine r_topi (fun v1 e2 => ?_)
  replace h := h v1 e2
  refine r_istore C [(5, .int v1), (0, .ref (wAd w 200)), (1, .int a1), (2, .int a2), (3, .int a3), (4, .int a4)] rfl rfl (dk_at dk_Real_addAct_0 2 rfl) ?_
  refine r_aload_n C 1 rfl (dk_at dk_Real_addAct_0 3 rfl) ?_
  refine r_getR C fl_Real_9 200 (hL.1 200 _ rfl) rfl (dk_at dk_Real_addAct_0 4 rfl) ?_
  refine r_iload C 0 rfl (dk_at dk_Real_addAct_0 5 rfl) ?_
  refine r_iconst C 4 (dk_at dk_Real_addAct_0 6 rfl) ?_
  refine r_imul C (dk_at dk_Real_addAct_0 7 rfl) ?_
  refine r_iconst C 0 (dk_at dk_Real_addAct_0 8 rfl) ?_
  refine r_iadd C (dk_at dk_Real_addAct_0 9 rfl) ?_
  refine r_iload_n C 2 rfl (dk_at dk_Real_addAct_0 10 rfl) ?_
  obtain ⟨q5, h⟩ := h
  refine r_iast C 202 (hL.1 202 _ rfl) q5 (dk_at dk_Real_addAct_0 11 rfl) (r_sg (fun σ3 e4 => ?_))
  replace h := h σ3 e4
  refine r_aload_n C 1 rfl (dk_at dk_Real_addAct_0 12 rfl) ?_
  refine r_getR C fl_Real_9 200 (hL.1 200 _ rfl) rfl (dk_at dk_Real_addAct_0 13 rfl) ?_
  refine r_iload C 0 rfl (dk_at dk_Real_addAct_0 14 rfl) ?_
  refine r_iconst C 4 (dk_at dk_Real_addAct_0 15 rfl) ?_
  refine r_imul C (dk_at dk_Real_addAct_0 16 rfl) ?_
  refine r_iconst C 1 (dk_at dk_Real_addAct_0 17 rfl) ?_
  refine r_iadd C (dk_at dk_Real_addAct_0 18 rfl) ?_
  refine r_iload_n C 3 rfl (dk_at dk_Real_addAct_0 19 rfl) ?_
  obtain ⟨q8, h⟩ := h
  refine r_iast C 202 (hL.1 202 _ rfl) q8 (dk_at dk_Real_addAct_0 20 rfl) (r_sg (fun σ6 e7 => ?_))
  replace h := h σ6 e7
  refine r_aload_n C 1 rfl (dk_at dk_Real_addAct_0 21 rfl) ?_
  refine r_getR C fl_Real_9 200 (hL.1 200 _ rfl) rfl (dk_at dk_Real_addAct_0 22 rfl) ?_
  refine r_iload C 0 rfl (dk_at dk_Real_addAct_0 23 rfl) ?_
  refine r_iconst C 4 (dk_at dk_Real_addAct_0 24 rfl) ?_
  refine r_imul C (dk_at dk_Real_addAct_0 25 rfl) ?_
  refine r_iconst C 2 (dk_at dk_Real_addAct_0 26 rfl) ?_
  refine r_iadd C (dk_at dk_Real_addAct_0 27 rfl) ?_
  refine r_iload_n C 4 rfl (dk_at dk_Real_addAct_0 28 rfl) ?_
  obtain ⟨q11, h⟩ := h
  refine r_iast C 202 (hL.1 202 _ rfl) q11 (dk_at dk_Real_addAct_0 29 rfl) (r_sg (fun σ9 e10 => ?_))
  replace h := h σ9 e10
  refine r_aload_n C 1 rfl (dk_at dk_Real_addAct_0 30 rfl) ?_
  refine r_getR C fl_Real_9 200 (hL.1 200 _ rfl) rfl (dk_at dk_Real_addAct_0 31 rfl) ?_
  refine r_iload C 0 rfl (dk_at dk_Real_addAct_0 32 rfl) ?_
  refine r_iconst C 4 (dk_at dk_Real_addAct_0 33 rfl) ?_
  refine r_imul C (dk_at dk_Real_addAct_0 34 rfl) ?_
  refine r_iconst C 3 (dk_at dk_Real_addAct_0 35 rfl) ?_
  refine r_iadd C (dk_at dk_Real_addAct_0 36 rfl) ?_
  refine r_iload C 5 rfl (dk_at dk_Real_addAct_0 37 rfl) ?_
  obtain ⟨q14, h⟩ := h
  refine r_iast C 202 (hL.1 202 _ rfl) q14 (dk_at dk_Real_addAct_0 38 rfl) (r_sg (fun σ12 e13 => ?_))
  replace h := h σ12 e13
  refine r_aload_n C 1 rfl (dk_at dk_Real_addAct_0 39 rfl) ?_
  refine r_dup C rfl (dk_at dk_Real_addAct_1 0 rfl) ?_
  refine r_getI C fl_Real_83 200 (hL.1 200 _ rfl) rfl (dk_at dk_Real_addAct_1 1 rfl) ?_
  refine r_iconst C 1 (dk_at dk_Real_addAct_1 2 rfl) ?_
  refine r_iadd C (dk_at dk_Real_addAct_1 3 rfl) ?_
  refine r_putI C fl_Real_83 200 (hL.1 200 _ rfl) rfl (dk_at dk_Real_addAct_1 4 rfl) (r_sg (fun σ15 e16 => ?_))
  replace h := h σ15 e16
  refine r_iload C 0 rfl (dk_at dk_Real_addAct_1 5 rfl) ?_
  exact r_iret C h (dk_at dk_Real_addAct_1 6 rfl)
  )
set_option maxRecDepth 20000 in
theorem m_Real_latestToldDay {l : Launch} {w : WO} {T : TXT} {z : EXa} (hL : LyX w T z) {σ : DD} {post : Int32 → DD → Prop} (h : w_Real_latestToldDay T σ post) : MI l w yX5_latestToldDay cX5_latestToldDay 1 .int (rmK 0 0) σ [.ref (wAd w 200)] post :=
  met_head (rt := (some .int)) (by decide) rfl (fun X hX C => by
  subst hX
  unfold w_Real_latestToldDay at h
  show gW X w (lim0 w) 1 (QI X w post) σ 0 [(0, .ref (wAd w 200))] []
  refine r_aload_n C 0 rfl (dk_at dk_Real_latestToldDay_0 0 rfl) ?_
  refine r_getI C fl_Real_93 200 (hL.1 200 _ rfl) rfl (dk_at dk_Real_latestToldDay_0 1 rfl) ?_
  refine r_if_le C 21 rfl (dk_at dk_Real_latestToldDay_0 2 rfl) (fun c1 => ?_) (fun c1 => ?_)
  · replace h := h.1 c1
    refine r_iconst C 0 (dk_at dk_Real_latestToldDay_0 11 rfl) ?_
    exact r_iret C h (dk_at dk_Real_latestToldDay_0 12 rfl)
  · replace h := h.2 c1
    refine r_aload_n C 0 rfl (dk_at dk_Real_latestToldDay_0 3 rfl) ?_
    refine r_getR C fl_Real_36 200 (hL.1 200 _ rfl) rfl (dk_at dk_Real_latestToldDay_0 4 rfl) ?_
    refine r_aload_n C 0 rfl (dk_at dk_Real_latestToldDay_0 5 rfl) ?_
    refine r_getI C fl_Real_93 200 (hL.1 200 _ rfl) rfl (dk_at dk_Real_latestToldDay_0 6 rfl) ?_
    refine r_iconst C 1 (dk_at dk_Real_latestToldDay_0 7 rfl) ?_
    refine r_isub C (dk_at dk_Real_latestToldDay_0 8 rfl) ?_
    obtain ⟨q2, h⟩ := h
    refine r_iald C 212 (hL.1 212 _ rfl) q2 (dk_at dk_Real_latestToldDay_0 9 rfl) ?_
    refine r_goto C 22 rfl (dk_at dk_Real_latestToldDay_0 10 rfl) ?_
    exact r_iret C h (dk_at dk_Real_latestToldDay_0 12 rfl)
  )
set_option maxRecDepth 20000 in
theorem t_Real_become_j306 {X : CT} {w : WO} (C : CF X w (lim0 w) 3 cX5_become RX5 none (.code yX5_become cX5_become 3 none) (rmK 1 60)) {T : TXT} {z : EXa} (hL : LyX w T z) {o : Nat} {o2 : Nat} (hB : LyR w o) (hB2 : LyR w o2) (hWF : wFl w) {K277 : DD → Int32 → Prop} {post : DD → Prop} {a2 : Int32} {t1 : Int32} {t2 : Option Nat} (k277 : ∀ (σ : DD) (a2 : Int32), K277 σ a2 → gW X w (lim0 w) 3 (QV X w post) σ 277 [(0, .ref (wAd w o)), (1, .ref (wAd w o2)), (2, .int a2)] []) {σ : DD} (h : w_Real_become_j306 T o o2 K277 post σ a2 t1 t2) : gW X w (lim0 w) 3 (QV X w post) σ 306 [(0, .ref (wAd w o)), (1, .ref (wAd w o2)), (2, .int a2)] [oV w t2, .int t1, .ref (wAd w (o + 19))] := by
  unfold w_Real_become_j306 at h
  obtain ⟨q1, q2, h⟩ := h
  refine r_aastO C hWF (o + 19) (hB 19 _ rfl) (tx_ok hL q2) q1 (dk_at dk_Real_become_4 5 rfl) (r_sg (fun σ3 e4 => ?_))
  replace h := h σ3 e4
  refine r_iinc C 2 rfl rfl [(2, .int (a2 + 1)), (0, .ref (wAd w o)), (1, .ref (wAd w o2))] rfl rfl (dk_at dk_Real_become_4 6 rfl) ?_
  refine r_goto C 277 rfl (dk_at dk_Real_become_4 7 rfl) ?_
  refine r_lv [1, 2, 0] rfl ?_
  exact k277 _ _ h
set_option maxRecDepth 20000 in
theorem t_Real_become_b277 {X : CT} {w : WO} (C : CF X w (lim0 w) 3 cX5_become RX5 none (.code yX5_become cX5_become 3 none) (rmK 1 60)) {T : TXT} {z : EXa} (hL : LyX w T z) {o : Nat} {o2 : Nat} (hB : LyR w o) (hB2 : LyR w o2) (hWF : wFl w) {K277 : DD → Int32 → Prop} {post : DD → Prop} (k277 : ∀ (σ : DD) (a2 : Int32), K277 σ a2 → gW X w (lim0 w) 3 (QV X w post) σ 277 [(0, .ref (wAd w o)), (1, .ref (wAd w o2)), (2, .int a2)] []) {σ : DD} {a2 : Int32} (h : w_Real_become_b277 T o o2 K277 post σ a2) : gW X w (lim0 w) 3 (QV X w post) σ 277 [(0, .ref (wAd w o)), (1, .ref (wAd w o2)), (2, .int a2)] [] := by
  unfold w_Real_become_b277 at h
  refine r_iload_n C 2 rfl (dk_at dk_Real_become_3 29 rfl) ?_
  refine r_bipush C 6 (dk_at dk_Real_become_3 30 rfl) ?_
  refine r_icmp_ge C 313 rfl (dk_at dk_Real_become_3 31 rfl) (fun c6 => ?_) (fun c6 => ?_)
  · replace h := h.1 c6
    exact r_vret C h (dk_at dk_Real_become_4 8 rfl)
  · replace h := h.2 c6
    refine r_aload_n C 0 rfl (dk_at dk_Real_become_3 32 rfl) ?_
    refine r_getR C fl_Real_53 o (hB 0 _ rfl) rfl (dk_at dk_Real_become_3 33 rfl) ?_
    refine r_iload_n C 2 rfl (dk_at dk_Real_become_3 34 rfl) ?_
    refine r_iload_n C 2 rfl (dk_at dk_Real_become_3 35 rfl) ?_
    refine r_aload_n C 0 rfl (dk_at dk_Real_become_3 36 rfl) ?_
    refine r_getI C fl_Real_99 o (hB 0 _ rfl) rfl (dk_at dk_Real_become_3 37 rfl) ?_
    refine r_icmp_ge C 305 rfl (dk_at dk_Real_become_3 38 rfl) (fun c7 => ?_) (fun c7 => ?_)
    · replace h := h.1 c7
      refine r_null C (dk_at dk_Real_become_4 4 rfl) ?_
      refine r_lv [0, 1, 2] rfl ?_
      exact t_Real_become_j306 C hL hB hB2 hWF k277 h
    · replace h := h.2 c7
      refine r_aload_n C 1 rfl (dk_at dk_Real_become_3 39 rfl) ?_
      refine r_getR C fl_Real_53 o2 (hB2 0 _ rfl) rfl (dk_at dk_Real_become_4 0 rfl) ?_
      refine r_iload_n C 2 rfl (dk_at dk_Real_become_4 1 rfl) ?_
      obtain ⟨q8, h⟩ := h
      refine r_aald C (o2 + 19) (hB2 19 _ rfl) (by decide) q8 (dk_at dk_Real_become_4 2 rfl) ?_
      refine r_goto C 306 rfl (dk_at dk_Real_become_4 3 rfl) ?_
      refine r_lv [0, 1, 2] rfl ?_
      exact t_Real_become_j306 C hL hB hB2 hWF k277 h
set_option maxRecDepth 20000 in
theorem t_Real_become_l277 {X : CT} {w : WO} (C : CF X w (lim0 w) 3 cX5_become RX5 none (.code yX5_become cX5_become 3 none) (rmK 1 60)) {T : TXT} {z : EXa} (hL : LyX w T z) {o : Nat} {o2 : Nat} (hB : LyR w o) (hB2 : LyR w o2) (hWF : wFl w) {post : DD → Prop} {σ : DD} {a2 : Int32} (h : w_Real_become_l277 T o o2 post σ a2) : gW X w (lim0 w) 3 (QV X w post) σ 277 [(0, .ref (wAd w o)), (1, .ref (wAd w o2)), (2, .int a2)] [] :=
  LoopW (G := fun x : DD × Int32 => gW X w (lim0 w) 3 (QV X w post) x.1 277 [(0, .ref (wAd w o)), (1, .ref (wAd w o2)), (2, .int x.2)] []) (fun K x hK hF => t_Real_become_b277 C hL hB hB2 hWF (fun σ a2 q => hK (σ, a2) q) hF) h
set_option maxRecDepth 20000 in
theorem m_Real_become {l : Launch} {w : WO} {T : TXT} {z : EXa} (hL : LyX w T z) {o : Nat} {o2 : Nat} (hB : LyR w o) (hB2 : LyR w o2) (hWF : wFl w) {σ : DD} {post : DD → Prop} (h : w_Real_become T o o2 σ post) : MV l w yX5_become cX5_become 3 (rmK 1 60) σ [.ref (wAd w o), .ref (wAd w o2)] post :=
  met_head (rt := none) (by decide) rfl (fun X hX C => by
  subst hX
  unfold w_Real_become at h
  show gW X w (lim0 w) 3 (QV X w post) σ 0 [(0, .ref (wAd w o)), (1, .ref (wAd w o2))] []
  refine r_aload_n C 0 rfl (dk_at dk_Real_become_0 0 rfl) ?_
  refine r_aload_n C 1 rfl (dk_at dk_Real_become_0 1 rfl) ?_
  refine r_getI C fl_Real_83 o2 (hB2 0 _ rfl) rfl (dk_at dk_Real_become_0 2 rfl) ?_
  refine r_putI C fl_Real_83 o (hB 0 _ rfl) rfl (dk_at dk_Real_become_0 3 rfl) (r_sg (fun σ9 e10 => ?_))
  replace h := h σ9 e10
  refine r_aload_n C 0 rfl (dk_at dk_Real_become_0 4 rfl) ?_
  refine r_aload_n C 1 rfl (dk_at dk_Real_become_0 5 rfl) ?_
  refine r_getI C fl_Real_86 o2 (hB2 0 _ rfl) rfl (dk_at dk_Real_become_0 6 rfl) ?_
  refine r_putI C fl_Real_86 o (hB 0 _ rfl) rfl (dk_at dk_Real_become_0 7 rfl) (r_sg (fun σ11 e12 => ?_))
  replace h := h σ11 e12
  refine r_aload_n C 0 rfl (dk_at dk_Real_become_0 8 rfl) ?_
  refine r_aload_n C 1 rfl (dk_at dk_Real_become_0 9 rfl) ?_
  refine r_getI C fl_Real_93 o2 (hB2 0 _ rfl) rfl (dk_at dk_Real_become_0 10 rfl) ?_
  refine r_putI C fl_Real_93 o (hB 0 _ rfl) rfl (dk_at dk_Real_become_0 11 rfl) (r_sg (fun σ13 e14 => ?_))
  replace h := h σ13 e14
  refine r_aload_n C 0 rfl (dk_at dk_Real_become_0 12 rfl) ?_
  refine r_aload_n C 1 rfl (dk_at dk_Real_become_0 13 rfl) ?_
  refine r_getI C fl_Real_102 o2 (hB2 0 _ rfl) rfl (dk_at dk_Real_become_0 14 rfl) ?_
  refine r_putI C fl_Real_102 o (hB 0 _ rfl) rfl (dk_at dk_Real_become_0 15 rfl) (r_sg (fun σ15 e16 => ?_))
  replace h := h σ15 e16
  refine r_aload_n C 0 rfl (dk_at dk_Real_become_0 16 rfl) ?_
  refine r_aload_n C 1 rfl (dk_at dk_Real_become_0 17 rfl) ?_
  refine r_getI C fl_Real_99 o2 (hB2 0 _ rfl) rfl (dk_at dk_Real_become_0 18 rfl) ?_
  refine r_putI C fl_Real_99 o (hB 0 _ rfl) rfl (dk_at dk_Real_become_0 19 rfl) (r_sg (fun σ17 e18 => ?_))
  replace h := h σ17 e18
  refine r_aload_n C 0 rfl (dk_at dk_Real_become_0 20 rfl) ?_
  refine r_aload_n C 1 rfl (dk_at dk_Real_become_0 21 rfl) ?_
  refine r_getI C fl_Real_57 o2 (hB2 0 _ rfl) rfl (dk_at dk_Real_become_0 22 rfl) ?_
  refine r_putI C fl_Real_57 o (hB 0 _ rfl) rfl (dk_at dk_Real_become_0 23 rfl) (r_sg (fun σ19 e20 => ?_))
  replace h := h σ19 e20
  refine r_aload_n C 1 rfl (dk_at dk_Real_become_0 24 rfl) ?_
  refine r_getR C fl_Real_9 o2 (hB2 0 _ rfl) rfl (dk_at dk_Real_become_0 25 rfl) ?_
  refine r_iconst C 0 (dk_at dk_Real_become_0 26 rfl) ?_
  refine r_aload_n C 0 rfl (dk_at dk_Real_become_0 27 rfl) ?_
  refine r_getR C fl_Real_9 o (hB 0 _ rfl) rfl (dk_at dk_Real_become_0 28 rfl) ?_
  refine r_iconst C 0 (dk_at dk_Real_become_0 29 rfl) ?_
  refine r_aload_n C 0 rfl (dk_at dk_Real_become_0 30 rfl) ?_
  refine r_getR C fl_Real_9 o (hB 0 _ rfl) rfl (dk_at dk_Real_become_0 31 rfl) ?_
  refine r_alenI C (o + 2) (hB 2 _ rfl) (by decide) 32 (by decide) (dk_at dk_Real_become_0 32 rfl) ?_
  obtain ⟨q21, q22, q23, h⟩ := h
  refine r_acopy C tw_1160 tw_795 tw_794 tw_19 (o2 + 2) (o + 2) (hB2 2 _ rfl) (hB 2 _ rfl) (by decide) (by decide) q21 q22 q23 (by decide) (by decide) (dk_at dk_Real_become_0 33 rfl) (r_sg (fun σ24 e25 => ?_))
  replace h := h σ24 e25
  refine r_aload_n C 1 rfl (dk_at dk_Real_become_0 34 rfl) ?_
  refine r_getR C fl_Real_15 o2 (hB2 0 _ rfl) rfl (dk_at dk_Real_become_0 35 rfl) ?_
  refine r_iconst C 0 (dk_at dk_Real_become_0 36 rfl) ?_
  refine r_aload_n C 0 rfl (dk_at dk_Real_become_0 37 rfl) ?_
  refine r_getR C fl_Real_15 o (hB 0 _ rfl) rfl (dk_at dk_Real_become_0 38 rfl) ?_
  refine r_iconst C 0 (dk_at dk_Real_become_0 39 rfl) ?_
  refine r_aload_n C 0 rfl (dk_at dk_Real_become_1 0 rfl) ?_
  refine r_getR C fl_Real_15 o (hB 0 _ rfl) rfl (dk_at dk_Real_become_1 1 rfl) ?_
  refine r_alenI C (o + 3) (hB 3 _ rfl) (by decide) 8 (by decide) (dk_at dk_Real_become_1 2 rfl) ?_
  obtain ⟨q26, q27, q28, h⟩ := h
  refine r_acopy C tw_1160 tw_795 tw_794 tw_19 (o2 + 3) (o + 3) (hB2 3 _ rfl) (hB 3 _ rfl) (by decide) (by decide) q26 q27 q28 (by decide) (by decide) (dk_at dk_Real_become_1 3 rfl) (r_sg (fun σ29 e30 => ?_))
  replace h := h σ29 e30
  refine r_aload_n C 1 rfl (dk_at dk_Real_become_1 4 rfl) ?_
  refine r_getR C fl_Real_18 o2 (hB2 0 _ rfl) rfl (dk_at dk_Real_become_1 5 rfl) ?_
  refine r_iconst C 0 (dk_at dk_Real_become_1 6 rfl) ?_
  refine r_aload_n C 0 rfl (dk_at dk_Real_become_1 7 rfl) ?_
  refine r_getR C fl_Real_18 o (hB 0 _ rfl) rfl (dk_at dk_Real_become_1 8 rfl) ?_
  refine r_iconst C 0 (dk_at dk_Real_become_1 9 rfl) ?_
  refine r_aload_n C 0 rfl (dk_at dk_Real_become_1 10 rfl) ?_
  refine r_getR C fl_Real_18 o (hB 0 _ rfl) rfl (dk_at dk_Real_become_1 11 rfl) ?_
  refine r_alenI C (o + 5) (hB 5 _ rfl) (by decide) 4 (by decide) (dk_at dk_Real_become_1 12 rfl) ?_
  obtain ⟨q31, q32, q33, h⟩ := h
  refine r_acopy C tw_1160 tw_795 tw_794 tw_19 (o2 + 5) (o + 5) (hB2 5 _ rfl) (hB 5 _ rfl) (by decide) (by decide) q31 q32 q33 (by decide) (by decide) (dk_at dk_Real_become_1 13 rfl) (r_sg (fun σ34 e35 => ?_))
  replace h := h σ34 e35
  refine r_aload_n C 1 rfl (dk_at dk_Real_become_1 14 rfl) ?_
  refine r_getR C fl_Real_21 o2 (hB2 0 _ rfl) rfl (dk_at dk_Real_become_1 15 rfl) ?_
  refine r_iconst C 0 (dk_at dk_Real_become_1 16 rfl) ?_
  refine r_aload_n C 0 rfl (dk_at dk_Real_become_1 17 rfl) ?_
  refine r_getR C fl_Real_21 o (hB 0 _ rfl) rfl (dk_at dk_Real_become_1 18 rfl) ?_
  refine r_iconst C 0 (dk_at dk_Real_become_1 19 rfl) ?_
  refine r_aload_n C 0 rfl (dk_at dk_Real_become_1 20 rfl) ?_
  refine r_getR C fl_Real_21 o (hB 0 _ rfl) rfl (dk_at dk_Real_become_1 21 rfl) ?_
  refine r_alenI C (o + 6) (hB 6 _ rfl) (by decide) 4 (by decide) (dk_at dk_Real_become_1 22 rfl) ?_
  obtain ⟨q36, q37, q38, h⟩ := h
  refine r_acopy C tw_1160 tw_795 tw_794 tw_19 (o2 + 6) (o + 6) (hB2 6 _ rfl) (hB 6 _ rfl) (by decide) (by decide) q36 q37 q38 (by decide) (by decide) (dk_at dk_Real_become_1 23 rfl) (r_sg (fun σ39 e40 => ?_))
  replace h := h σ39 e40
  refine r_aload_n C 1 rfl (dk_at dk_Real_become_1 24 rfl) ?_
  refine r_getR C fl_Real_24 o2 (hB2 0 _ rfl) rfl (dk_at dk_Real_become_1 25 rfl) ?_
  refine r_iconst C 0 (dk_at dk_Real_become_1 26 rfl) ?_
  refine r_aload_n C 0 rfl (dk_at dk_Real_become_1 27 rfl) ?_
  refine r_getR C fl_Real_24 o (hB 0 _ rfl) rfl (dk_at dk_Real_become_1 28 rfl) ?_
  refine r_iconst C 0 (dk_at dk_Real_become_1 29 rfl) ?_
  refine r_aload_n C 0 rfl (dk_at dk_Real_become_1 30 rfl) ?_
  refine r_getR C fl_Real_24 o (hB 0 _ rfl) rfl (dk_at dk_Real_become_1 31 rfl) ?_
  refine r_alenI C (o + 7) (hB 7 _ rfl) (by decide) 7 (by decide) (dk_at dk_Real_become_1 32 rfl) ?_
  obtain ⟨q41, q42, q43, h⟩ := h
  refine r_acopy C tw_1160 tw_795 tw_794 tw_19 (o2 + 7) (o + 7) (hB2 7 _ rfl) (hB 7 _ rfl) (by decide) (by decide) q41 q42 q43 (by decide) (by decide) (dk_at dk_Real_become_1 33 rfl) (r_sg (fun σ44 e45 => ?_))
  replace h := h σ44 e45
  refine r_aload_n C 1 rfl (dk_at dk_Real_become_1 34 rfl) ?_
  refine r_getR C fl_Real_27 o2 (hB2 0 _ rfl) rfl (dk_at dk_Real_become_1 35 rfl) ?_
  refine r_iconst C 0 (dk_at dk_Real_become_1 36 rfl) ?_
  refine r_aload_n C 0 rfl (dk_at dk_Real_become_1 37 rfl) ?_
  refine r_getR C fl_Real_27 o (hB 0 _ rfl) rfl (dk_at dk_Real_become_1 38 rfl) ?_
  refine r_iconst C 0 (dk_at dk_Real_become_1 39 rfl) ?_
  refine r_aload_n C 0 rfl (dk_at dk_Real_become_2 0 rfl) ?_
  refine r_getR C fl_Real_27 o (hB 0 _ rfl) rfl (dk_at dk_Real_become_2 1 rfl) ?_
  refine r_alenI C (o + 8) (hB 8 _ rfl) (by decide) 4 (by decide) (dk_at dk_Real_become_2 2 rfl) ?_
  obtain ⟨q46, q47, q48, h⟩ := h
  refine r_acopy C tw_1160 tw_795 tw_794 tw_19 (o2 + 8) (o + 8) (hB2 8 _ rfl) (hB 8 _ rfl) (by decide) (by decide) q46 q47 q48 (by decide) (by decide) (dk_at dk_Real_become_2 3 rfl) (r_sg (fun σ49 e50 => ?_))
  replace h := h σ49 e50
  refine r_aload_n C 1 rfl (dk_at dk_Real_become_2 4 rfl) ?_
  refine r_getR C fl_Real_30 o2 (hB2 0 _ rfl) rfl (dk_at dk_Real_become_2 5 rfl) ?_
  refine r_iconst C 0 (dk_at dk_Real_become_2 6 rfl) ?_
  refine r_aload_n C 0 rfl (dk_at dk_Real_become_2 7 rfl) ?_
  refine r_getR C fl_Real_30 o (hB 0 _ rfl) rfl (dk_at dk_Real_become_2 8 rfl) ?_
  refine r_iconst C 0 (dk_at dk_Real_become_2 9 rfl) ?_
  refine r_aload_n C 0 rfl (dk_at dk_Real_become_2 10 rfl) ?_
  refine r_getI C fl_Real_93 o (hB 0 _ rfl) rfl (dk_at dk_Real_become_2 11 rfl) ?_
  obtain ⟨q51, q52, q53, h⟩ := h
  refine r_acopy C tw_1160 tw_795 tw_794 tw_19 (o2 + 10) (o + 10) (hB2 10 _ rfl) (hB 10 _ rfl) (by decide) (by decide) q51 q52 q53 (by decide) (by decide) (dk_at dk_Real_become_2 12 rfl) (r_sg (fun σ54 e55 => ?_))
  replace h := h σ54 e55
  refine r_aload_n C 1 rfl (dk_at dk_Real_become_2 13 rfl) ?_
  refine r_getR C fl_Real_33 o2 (hB2 0 _ rfl) rfl (dk_at dk_Real_become_2 14 rfl) ?_
  refine r_iconst C 0 (dk_at dk_Real_become_2 15 rfl) ?_
  refine r_aload_n C 0 rfl (dk_at dk_Real_become_2 16 rfl) ?_
  refine r_getR C fl_Real_33 o (hB 0 _ rfl) rfl (dk_at dk_Real_become_2 17 rfl) ?_
  refine r_iconst C 0 (dk_at dk_Real_become_2 18 rfl) ?_
  refine r_aload_n C 0 rfl (dk_at dk_Real_become_2 19 rfl) ?_
  refine r_getI C fl_Real_93 o (hB 0 _ rfl) rfl (dk_at dk_Real_become_2 20 rfl) ?_
  obtain ⟨q56, q57, q58, h⟩ := h
  refine r_acopy C tw_1160 tw_795 tw_794 tw_19 (o2 + 11) (o + 11) (hB2 11 _ rfl) (hB 11 _ rfl) (by decide) (by decide) q56 q57 q58 (by decide) (by decide) (dk_at dk_Real_become_2 21 rfl) (r_sg (fun σ59 e60 => ?_))
  replace h := h σ59 e60
  refine r_aload_n C 1 rfl (dk_at dk_Real_become_2 22 rfl) ?_
  refine r_getR C fl_Real_36 o2 (hB2 0 _ rfl) rfl (dk_at dk_Real_become_2 23 rfl) ?_
  refine r_iconst C 0 (dk_at dk_Real_become_2 24 rfl) ?_
  refine r_aload_n C 0 rfl (dk_at dk_Real_become_2 25 rfl) ?_
  refine r_getR C fl_Real_36 o (hB 0 _ rfl) rfl (dk_at dk_Real_become_2 26 rfl) ?_
  refine r_iconst C 0 (dk_at dk_Real_become_2 27 rfl) ?_
  refine r_aload_n C 0 rfl (dk_at dk_Real_become_2 28 rfl) ?_
  refine r_getI C fl_Real_93 o (hB 0 _ rfl) rfl (dk_at dk_Real_become_2 29 rfl) ?_
  obtain ⟨q61, q62, q63, h⟩ := h
  refine r_acopy C tw_1160 tw_795 tw_794 tw_19 (o2 + 12) (o + 12) (hB2 12 _ rfl) (hB 12 _ rfl) (by decide) (by decide) q61 q62 q63 (by decide) (by decide) (dk_at dk_Real_become_2 30 rfl) (r_sg (fun σ64 e65 => ?_))
  replace h := h σ64 e65
  refine r_aload_n C 1 rfl (dk_at dk_Real_become_2 31 rfl) ?_
  refine r_getR C fl_Real_39 o2 (hB2 0 _ rfl) rfl (dk_at dk_Real_become_2 32 rfl) ?_
  refine r_iconst C 0 (dk_at dk_Real_become_2 33 rfl) ?_
  refine r_aload_n C 0 rfl (dk_at dk_Real_become_2 34 rfl) ?_
  refine r_getR C fl_Real_39 o (hB 0 _ rfl) rfl (dk_at dk_Real_become_2 35 rfl) ?_
  refine r_iconst C 0 (dk_at dk_Real_become_2 36 rfl) ?_
  refine r_aload_n C 0 rfl (dk_at dk_Real_become_2 37 rfl) ?_
  refine r_getI C fl_Real_102 o (hB 0 _ rfl) rfl (dk_at dk_Real_become_2 38 rfl) ?_
  obtain ⟨q66, q67, q68, h⟩ := h
  refine r_acopy C tw_1160 tw_795 tw_794 tw_19 (o2 + 14) (o + 14) (hB2 14 _ rfl) (hB 14 _ rfl) (by decide) (by decide) q66 q67 q68 (by decide) (by decide) (dk_at dk_Real_become_2 39 rfl) (r_sg (fun σ69 e70 => ?_))
  replace h := h σ69 e70
  refine r_aload_n C 1 rfl (dk_at dk_Real_become_3 0 rfl) ?_
  refine r_getR C fl_Real_42 o2 (hB2 0 _ rfl) rfl (dk_at dk_Real_become_3 1 rfl) ?_
  refine r_iconst C 0 (dk_at dk_Real_become_3 2 rfl) ?_
  refine r_aload_n C 0 rfl (dk_at dk_Real_become_3 3 rfl) ?_
  refine r_getR C fl_Real_42 o (hB 0 _ rfl) rfl (dk_at dk_Real_become_3 4 rfl) ?_
  refine r_iconst C 0 (dk_at dk_Real_become_3 5 rfl) ?_
  refine r_aload_n C 0 rfl (dk_at dk_Real_become_3 6 rfl) ?_
  refine r_getI C fl_Real_102 o (hB 0 _ rfl) rfl (dk_at dk_Real_become_3 7 rfl) ?_
  obtain ⟨q71, q72, q73, h⟩ := h
  refine r_acopy C tw_1160 tw_795 tw_794 tw_19 (o2 + 15) (o + 15) (hB2 15 _ rfl) (hB 15 _ rfl) (by decide) (by decide) q71 q72 q73 (by decide) (by decide) (dk_at dk_Real_become_3 8 rfl) (r_sg (fun σ74 e75 => ?_))
  replace h := h σ74 e75
  refine r_aload_n C 1 rfl (dk_at dk_Real_become_3 9 rfl) ?_
  refine r_getR C fl_Real_45 o2 (hB2 0 _ rfl) rfl (dk_at dk_Real_become_3 10 rfl) ?_
  refine r_iconst C 0 (dk_at dk_Real_become_3 11 rfl) ?_
  refine r_aload_n C 0 rfl (dk_at dk_Real_become_3 12 rfl) ?_
  refine r_getR C fl_Real_45 o (hB 0 _ rfl) rfl (dk_at dk_Real_become_3 13 rfl) ?_
  refine r_iconst C 0 (dk_at dk_Real_become_3 14 rfl) ?_
  refine r_aload_n C 0 rfl (dk_at dk_Real_become_3 15 rfl) ?_
  refine r_getI C fl_Real_102 o (hB 0 _ rfl) rfl (dk_at dk_Real_become_3 16 rfl) ?_
  obtain ⟨q76, q77, q78, h⟩ := h
  refine r_acopy C tw_1160 tw_795 tw_794 tw_19 (o2 + 16) (o + 16) (hB2 16 _ rfl) (hB 16 _ rfl) (by decide) (by decide) q76 q77 q78 (by decide) (by decide) (dk_at dk_Real_become_3 17 rfl) (r_sg (fun σ79 e80 => ?_))
  replace h := h σ79 e80
  refine r_aload_n C 1 rfl (dk_at dk_Real_become_3 18 rfl) ?_
  refine r_getR C fl_Real_48 o2 (hB2 0 _ rfl) rfl (dk_at dk_Real_become_3 19 rfl) ?_
  refine r_iconst C 0 (dk_at dk_Real_become_3 20 rfl) ?_
  refine r_aload_n C 0 rfl (dk_at dk_Real_become_3 21 rfl) ?_
  refine r_getR C fl_Real_48 o (hB 0 _ rfl) rfl (dk_at dk_Real_become_3 22 rfl) ?_
  refine r_iconst C 0 (dk_at dk_Real_become_3 23 rfl) ?_
  refine r_aload_n C 0 rfl (dk_at dk_Real_become_3 24 rfl) ?_
  refine r_getI C fl_Real_102 o (hB 0 _ rfl) rfl (dk_at dk_Real_become_3 25 rfl) ?_
  obtain ⟨q81, q82, q83, h⟩ := h
  refine r_acopy C tw_1160 tw_795 tw_794 tw_19 (o2 + 17) (o + 17) (hB2 17 _ rfl) (hB 17 _ rfl) (by decide) (by decide) q81 q82 q83 (by decide) (by decide) (dk_at dk_Real_become_3 26 rfl) (r_sg (fun σ84 e85 => ?_))
  replace h := h σ84 e85
  refine r_iconst C 0 (dk_at dk_Real_become_3 27 rfl) ?_
  refine r_istore_n C [(2, .int 0), (0, .ref (wAd w o)), (1, .ref (wAd w o2))] rfl rfl (dk_at dk_Real_become_3 28 rfl) ?_
  refine r_lv [1, 2, 0] rfl ?_
  exact t_Real_become_l277 C hL hB hB2 hWF h
  )
set_option maxRecDepth 20000 in
theorem t_Shar_list_b7 {X : CT} {w : WO} (C : CF X w (lim0 w) 3 cX6_list RX6 none (.code yX6_list cX6_list 3 none) (rmK 0 0)) {T : TXT} {z : EXa} (hL : LyX w T z) {a1 : Int32} {K7 : DD → Int32 → Prop} {post : DD → Prop} (k7 : ∀ (σ : DD) (a2 : Int32), K7 σ a2 → gW X w (lim0 w) 3 (QV X w post) σ 7 [(0, .ref (wAd w 90)), (1, .int a1), (2, .int a2)] []) {σ : DD} {a2 : Int32} (h : w_Shar_list_b7 T a1 K7 post σ a2) : gW X w (lim0 w) 3 (QV X w post) σ 7 [(0, .ref (wAd w 90)), (1, .int a1), (2, .int a2)] [] := by
  unfold w_Shar_list_b7 at h
  refine r_iload_n C 2 rfl (dk_at dk_Shar_list_0 5 rfl) ?_
  refine r_aload_n C 0 rfl (dk_at dk_Shar_list_0 6 rfl) ?_
  refine r_getR C fl_Shar_24 90 (hL.1 90 _ rfl) rfl (dk_at dk_Shar_list_0 7 rfl) ?_
  refine r_getI C fl_Shar_36 200 (hL.1 200 _ rfl) rfl (dk_at dk_Shar_list_0 8 rfl) ?_
  refine r_icmp_ge C 52 rfl (dk_at dk_Shar_list_0 9 rfl) (fun c1 => ?_) (fun c1 => ?_)
  · replace h := h.1 c1
    exact r_vret C h (dk_at dk_Shar_list_0 30 rfl)
  · replace h := h.2 c1
    refine r_iload_n C 1 rfl (dk_at dk_Shar_list_0 10 rfl) ?_
    refine r_iload_n C 2 rfl (dk_at dk_Shar_list_0 11 rfl) ?_
    refine r_ishr C (dk_at dk_Shar_list_0 12 rfl) ?_
    refine r_iconst C 1 (dk_at dk_Shar_list_0 13 rfl) ?_
    refine r_iand C (dk_at dk_Shar_list_0 14 rfl) ?_
    refine r_if_eq C 46 rfl (dk_at dk_Shar_list_0 15 rfl) (fun c2 => ?_) (fun c2 => ?_)
    · replace h := h.1 c2
      refine r_iinc C 2 rfl rfl [(2, .int (a2 + 1)), (0, .ref (wAd w 90)), (1, .int a1)] rfl rfl (dk_at dk_Shar_list_0 28 rfl) ?_
      refine r_goto C 7 rfl (dk_at dk_Shar_list_0 29 rfl) ?_
      refine r_lv [1, 2, 0] rfl ?_
      exact k7 _ _ h
    · replace h := h.2 c2
      refine r_aload_n C 0 rfl (dk_at dk_Shar_list_0 16 rfl) ?_
      refine r_getR C fl_Shar_9 90 (hL.1 90 _ rfl) rfl (dk_at dk_Shar_list_0 17 rfl) ?_
      refine r_aload_n C 0 rfl (dk_at dk_Shar_list_0 18 rfl) ?_
      refine r_getI C fl_Shar_32 90 (hL.1 90 _ rfl) rfl (dk_at dk_Shar_list_0 19 rfl) ?_
      refine r_iload_n C 2 rfl (dk_at dk_Shar_list_0 20 rfl) ?_
      obtain ⟨q5, h⟩ := h
      refine r_iast C 93 (hL.1 93 _ rfl) q5 (dk_at dk_Shar_list_0 21 rfl) (r_sg (fun σ3 e4 => ?_))
      replace h := h σ3 e4
      refine r_aload_n C 0 rfl (dk_at dk_Shar_list_0 22 rfl) ?_
      refine r_dup C rfl (dk_at dk_Shar_list_0 23 rfl) ?_
      refine r_getI C fl_Shar_32 90 (hL.1 90 _ rfl) rfl (dk_at dk_Shar_list_0 24 rfl) ?_
      refine r_iconst C 1 (dk_at dk_Shar_list_0 25 rfl) ?_
      refine r_iadd C (dk_at dk_Shar_list_0 26 rfl) ?_
      refine r_putI C fl_Shar_32 90 (hL.1 90 _ rfl) rfl (dk_at dk_Shar_list_0 27 rfl) (r_sg (fun σ6 e7 => ?_))
      replace h := h σ6 e7
      refine r_iinc C 2 rfl rfl [(2, .int (a2 + 1)), (0, .ref (wAd w 90)), (1, .int a1)] rfl rfl (dk_at dk_Shar_list_0 28 rfl) ?_
      refine r_goto C 7 rfl (dk_at dk_Shar_list_0 29 rfl) ?_
      refine r_lv [1, 2, 0] rfl ?_
      exact k7 _ _ h
set_option maxRecDepth 20000 in
theorem t_Shar_list_l7 {X : CT} {w : WO} (C : CF X w (lim0 w) 3 cX6_list RX6 none (.code yX6_list cX6_list 3 none) (rmK 0 0)) {T : TXT} {z : EXa} (hL : LyX w T z) {a1 : Int32} {post : DD → Prop} {σ : DD} {a2 : Int32} (h : w_Shar_list_l7 T post σ a1 a2) : gW X w (lim0 w) 3 (QV X w post) σ 7 [(0, .ref (wAd w 90)), (1, .int a1), (2, .int a2)] [] :=
  LoopW (G := fun x : DD × Int32 => gW X w (lim0 w) 3 (QV X w post) x.1 7 [(0, .ref (wAd w 90)), (1, .int a1), (2, .int x.2)] []) (fun K x hK hF => t_Shar_list_b7 C hL (fun σ a2 q => hK (σ, a2) q) hF) h
set_option maxRecDepth 20000 in
theorem m_Shar_list {l : Launch} {w : WO} {T : TXT} {z : EXa} (hL : LyX w T z) {σ : DD} {a1 : Int32} {post : DD → Prop} (h : w_Shar_list T σ a1 post) : MV l w yX6_list cX6_list 3 (rmK 0 0) σ [.ref (wAd w 90), .int a1] post :=
  met_head (rt := none) (by decide) rfl (fun X hX C => by
  subst hX
  unfold w_Shar_list at h
  show gW X w (lim0 w) 3 (QV X w post) σ 0 [(0, .ref (wAd w 90)), (1, .int a1)] []
  refine r_aload_n C 0 rfl (dk_at dk_Shar_list_0 0 rfl) ?_
  refine r_iconst C 0 (dk_at dk_Shar_list_0 1 rfl) ?_
  refine r_putI C fl_Shar_32 90 (hL.1 90 _ rfl) rfl (dk_at dk_Shar_list_0 2 rfl) (r_sg (fun σ8 e9 => ?_))
  replace h := h σ8 e9
  refine r_iconst C 0 (dk_at dk_Shar_list_0 3 rfl) ?_
  refine r_istore_n C [(2, .int 0), (0, .ref (wAd w 90)), (1, .int a1)] rfl rfl (dk_at dk_Shar_list_0 4 rfl) ?_
  refine r_lv [1, 2, 0] rfl ?_
  exact t_Shar_list_l7 C hL h
  )
set_option maxRecDepth 20000 in
theorem t_Shar_hasReader_j110 {X : CT} {w : WO} (C : CF X w (lim0 w) 7 cX6_hasReader RX6 (some .boolean) (.code yX6_hasReader cX6_hasReader 7 (some .boolean)) (rmK 3 96)) {T : TXT} {z : EXa} (hL : LyX w T z) {K15 : DD → Int32 → Int32 → Prop} {post : Int32 → DD → Prop} {a1 : Int32} {a2 : Int32} {a4 : Int32} {t0 : Int32} (k15 : ∀ (σ : DD) (a3 : Int32) (a4 : Int32), K15 σ a3 a4 → gW X w (lim0 w) 7 (QI X w post) σ 15 [(0, .ref (wAd w 90)), (1, .int a1), (2, .int a2), (3, .int a3), (4, .int a4)] []) {σ : DD} (h : w_Shar_hasReader_j110 T K15 post σ a1 a2 a4 t0) : gW X w (lim0 w) 7 (QI X w post) σ 110 [(0, .ref (wAd w 90)), (1, .int a1), (2, .int a2), (4, .int a4)] [.int t0] := by
  unfold w_Shar_hasReader_j110 at h
  refine r_istore_n C [(3, .int t0), (0, .ref (wAd w 90)), (1, .int a1), (2, .int a2), (4, .int a4)] rfl rfl (dk_at dk_Shar_hasReader_1 20 rfl) ?_
  refine r_iinc C 4 rfl rfl [(4, .int (a4 + 1)), (3, .int t0), (0, .ref (wAd w 90)), (1, .int a1), (2, .int a2)] rfl rfl (dk_at dk_Shar_hasReader_1 21 rfl) ?_
  refine r_goto C 15 rfl (dk_at dk_Shar_hasReader_1 22 rfl) ?_
  refine r_lv [2, 3, 4, 1, 0] rfl ?_
  exact k15 _ _ _ h
set_option maxRecDepth 20000 in
theorem t_Shar_hasReader_j105 {X : CT} {w : WO} (C : CF X w (lim0 w) 7 cX6_hasReader RX6 (some .boolean) (.code yX6_hasReader cX6_hasReader 7 (some .boolean)) (rmK 3 96)) {T : TXT} {z : EXa} (hL : LyX w T z) {K15 : DD → Int32 → Int32 → Prop} {post : Int32 → DD → Prop} {a1 : Int32} {a2 : Int32} {a4 : Int32} (k15 : ∀ (σ : DD) (a3 : Int32) (a4 : Int32), K15 σ a3 a4 → gW X w (lim0 w) 7 (QI X w post) σ 15 [(0, .ref (wAd w 90)), (1, .int a1), (2, .int a2), (3, .int a3), (4, .int a4)] []) {σ : DD} (h : w_Shar_hasReader_j105 T K15 post σ a1 a2 a4) : gW X w (lim0 w) 7 (QI X w post) σ 105 [(0, .ref (wAd w 90)), (1, .int a1), (2, .int a2), (4, .int a4)] [] := by
  unfold w_Shar_hasReader_j105 at h
  refine r_iconst C 1 (dk_at dk_Shar_hasReader_1 17 rfl) ?_
  refine r_goto C 110 rfl (dk_at dk_Shar_hasReader_1 18 rfl) ?_
  refine r_lv [0, 1, 2, 3] rfl ?_
  exact t_Shar_hasReader_j110 C hL k15 h
set_option maxRecDepth 20000 in
theorem t_Shar_hasReader_j71 {X : CT} {w : WO} (C : CF X w (lim0 w) 7 cX6_hasReader RX6 (some .boolean) (.code yX6_hasReader cX6_hasReader 7 (some .boolean)) (rmK 3 96)) {T : TXT} {z : EXa} (hL : LyX w T z) {K15 : DD → Int32 → Int32 → Prop} {post : Int32 → DD → Prop} {a1 : Int32} {a2 : Int32} {a3 : Int32} {a4 : Int32} {t0 : Int32} (k15 : ∀ (σ : DD) (a3 : Int32) (a4 : Int32), K15 σ a3 a4 → gW X w (lim0 w) 7 (QI X w post) σ 15 [(0, .ref (wAd w 90)), (1, .int a1), (2, .int a2), (3, .int a3), (4, .int a4)] []) {σ : DD} (h : w_Shar_hasReader_j71 T K15 post σ a1 a2 a3 a4 t0) : gW X w (lim0 w) 7 (QI X w post) σ 71 [(0, .ref (wAd w 90)), (1, .int a1), (2, .int a2), (3, .int a3), (4, .int a4)] [.int t0] := by
  unfold w_Shar_hasReader_j71 at h
  refine r_istore C [(6, .int t0), (0, .ref (wAd w 90)), (1, .int a1), (2, .int a2), (3, .int a3), (4, .int a4)] rfl rfl (dk_at dk_Shar_hasReader_0 38 rfl) ?_
  refine r_aload_n C 1 rfl (dk_at dk_Shar_hasReader_0 39 rfl) ?_
  refine r_getR C fl_Shar_21 90 (hL.1 90 _ rfl) rfl (dk_at dk_Shar_hasReader_1 0 rfl) ?_
  refine r_iload_n C 2 rfl (dk_at dk_Shar_hasReader_1 1 rfl) ?_
  refine r_iconst C 4 (dk_at dk_Shar_hasReader_1 2 rfl) ?_
  refine r_imul C (dk_at dk_Shar_hasReader_1 3 rfl) ?_
  refine r_iload C 5 rfl (dk_at dk_Shar_hasReader_1 4 rfl) ?_
  refine r_iadd C (dk_at dk_Shar_hasReader_1 5 rfl) ?_
  refine r_iload C 0 rfl (dk_at dk_Shar_hasReader_1 6 rfl) ?_
  obtain ⟨q3, h⟩ := h
  refine r_iast C 96 (hL.1 96 _ rfl) q3 (dk_at dk_Shar_hasReader_1 7 rfl) (r_sg (fun σ1 e2 => ?_))
  replace h := h σ1 e2
  refine r_iload_n C 4 rfl (dk_at dk_Shar_hasReader_1 8 rfl) ?_
  refine r_if_ne C 105 rfl (dk_at dk_Shar_hasReader_1 9 rfl) (fun c4 => ?_) (fun c4 => ?_)
  · replace h := h.1 c4
    refine r_lv [1, 2, 3, 5] rfl ?_
    exact t_Shar_hasReader_j105 C hL k15 h
  · replace h := h.2 c4
    refine r_iload C 0 rfl (dk_at dk_Shar_hasReader_1 10 rfl) ?_
    refine r_aload_n C 1 rfl (dk_at dk_Shar_hasReader_1 11 rfl) ?_
    refine r_getR C fl_Shar_24 90 (hL.1 90 _ rfl) rfl (dk_at dk_Shar_hasReader_1 12 rfl) ?_
    refine r_getR C fl_Shar_77 200 (hL.1 200 _ rfl) rfl (dk_at dk_Shar_hasReader_1 13 rfl) ?_
    refine r_iload C 5 rfl (dk_at dk_Shar_hasReader_1 14 rfl) ?_
    obtain ⟨q5, h⟩ := h
    refine r_iald C 205 (hL.1 205 _ rfl) q5 (dk_at dk_Shar_hasReader_1 15 rfl) ?_
    refine r_icmp_gt C 109 rfl (dk_at dk_Shar_hasReader_1 16 rfl) (fun c6 => ?_) (fun c6 => ?_)
    · replace h := h.1 c6
      refine r_iconst C 0 (dk_at dk_Shar_hasReader_1 19 rfl) ?_
      refine r_lv [1, 2, 3, 5] rfl ?_
      exact t_Shar_hasReader_j110 C hL k15 h
    · replace h := h.2 c6
      refine r_lv [1, 2, 3, 5] rfl ?_
      exact t_Shar_hasReader_j105 C hL k15 h
set_option maxRecDepth 20000 in
theorem t_Shar_hasReader_b15 {X : CT} {w : WO} (C : CF X w (lim0 w) 7 cX6_hasReader RX6 (some .boolean) (.code yX6_hasReader cX6_hasReader 7 (some .boolean)) (rmK 3 96)) {T : TXT} {z : EXa} (hL : LyX w T z) {a1 : Int32} {a2 : Int32} {K15 : DD → Int32 → Int32 → Prop} {post : Int32 → DD → Prop} (k15 : ∀ (σ : DD) (a3 : Int32) (a4 : Int32), K15 σ a3 a4 → gW X w (lim0 w) 7 (QI X w post) σ 15 [(0, .ref (wAd w 90)), (1, .int a1), (2, .int a2), (3, .int a3), (4, .int a4)] []) {σ : DD} {a3 : Int32} {a4 : Int32} (h : w_Shar_hasReader_b15 T a1 a2 K15 post σ a3 a4) : gW X w (lim0 w) 7 (QI X w post) σ 15 [(0, .ref (wAd w 90)), (1, .int a1), (2, .int a2), (3, .int a3), (4, .int a4)] [] := by
  unfold w_Shar_hasReader_b15 at h
  refine r_iload C 4 rfl (dk_at dk_Shar_hasReader_0 10 rfl) ?_
  refine r_aload_n C 0 rfl (dk_at dk_Shar_hasReader_0 11 rfl) ?_
  refine r_getR C fl_Shar_24 90 (hL.1 90 _ rfl) rfl (dk_at dk_Shar_hasReader_0 12 rfl) ?_
  refine r_getI C fl_Shar_52 200 (hL.1 200 _ rfl) rfl (dk_at dk_Shar_hasReader_0 13 rfl) ?_
  refine r_icmp_ge C 117 rfl (dk_at dk_Shar_hasReader_0 14 rfl) (fun c7 => ?_) (fun c7 => ?_)
  · replace h := h.1 c7
    refine r_iload_n C 3 rfl (dk_at dk_Shar_hasReader_1 23 rfl) ?_
    exact r_zret C h.1 h.2 (dk_at dk_Shar_hasReader_1 24 rfl)
  · replace h := h.2 c7
    refine r_aload_n C 0 rfl (dk_at dk_Shar_hasReader_0 15 rfl) ?_
    refine r_getR C fl_Shar_28 90 (hL.1 90 _ rfl) rfl (dk_at dk_Shar_hasReader_0 16 rfl) ?_
    refine r_aload_n C 0 rfl (dk_at dk_Shar_hasReader_0 17 rfl) ?_
    refine r_getR C fl_Shar_9 90 (hL.1 90 _ rfl) rfl (dk_at dk_Shar_hasReader_0 18 rfl) ?_
    refine r_iload_n C 1 rfl (dk_at dk_Shar_hasReader_0 19 rfl) ?_
    obtain ⟨q8, h⟩ := h
    refine r_iald C 93 (hL.1 93 _ rfl) q8 (dk_at dk_Shar_hasReader_0 20 rfl) ?_
    refine r_iload C 4 rfl (dk_at dk_Shar_hasReader_0 21 rfl) ?_
    refine r_iload_n C 2 rfl (dk_at dk_Shar_hasReader_0 22 rfl) ?_
    refine r_cvI C cl_Shar_67 50 (hL.1 50 _ rfl) [.int (gI σ 93 a1.toNatClampNeg), .int a4, .int a2] (m_Court_bars hL h) (rmK_ok rfl rfl) rfl rfl (Nat.le_of_ble_eq_true rfl) (dk_at dk_Shar_hasReader_0 23 rfl) (fun r9 σ10 h => ?_)
    refine r_istore C [(5, .int r9), (0, .ref (wAd w 90)), (1, .int a1), (2, .int a2), (3, .int a3), (4, .int a4)] rfl rfl (dk_at dk_Shar_hasReader_0 24 rfl) ?_
    refine r_iload C 0 rfl (dk_at dk_Shar_hasReader_0 25 rfl) ?_
    refine r_if_eq C 55 rfl (dk_at dk_Shar_hasReader_0 26 rfl) (fun c11 => ?_) (fun c11 => ?_)
    · replace h := h.1 c11
      refine r_aload_n C 1 rfl (dk_at dk_Shar_hasReader_0 29 rfl) ?_
      refine r_getR C fl_Shar_28 90 (hL.1 90 _ rfl) rfl (dk_at dk_Shar_hasReader_0 30 rfl) ?_
      refine r_aload_n C 1 rfl (dk_at dk_Shar_hasReader_0 31 rfl) ?_
      refine r_getR C fl_Shar_9 90 (hL.1 90 _ rfl) rfl (dk_at dk_Shar_hasReader_0 32 rfl) ?_
      refine r_iload_n C 2 rfl (dk_at dk_Shar_hasReader_0 33 rfl) ?_
      obtain ⟨q12, h⟩ := h
      refine r_iald C 93 (hL.1 93 _ rfl) q12 (dk_at dk_Shar_hasReader_0 34 rfl) ?_
      refine r_iload C 5 rfl (dk_at dk_Shar_hasReader_0 35 rfl) ?_
      refine r_iload_n C 3 rfl (dk_at dk_Shar_hasReader_0 36 rfl) ?_
      refine r_cvI C cl_Shar_73 50 (hL.1 50 _ rfl) [.int (gI σ10 93 a1.toNatClampNeg), .int a4, .int a2] (m_Court_takes hL h) (rmK_ok rfl rfl) rfl rfl (Nat.le_of_ble_eq_true rfl) (dk_at dk_Shar_hasReader_0 37 rfl) (fun r13 σ14 h => ?_)
      refine r_lv [1, 2, 3, 4, 5] rfl ?_
      exact t_Shar_hasReader_j71 C hL k15 h
    · replace h := h.2 c11
      refine r_bipush C 100 (dk_at dk_Shar_hasReader_0 27 rfl) ?_
      refine r_goto C 71 rfl (dk_at dk_Shar_hasReader_0 28 rfl) ?_
      refine r_lv [1, 2, 3, 4, 5] rfl ?_
      exact t_Shar_hasReader_j71 C hL k15 h
set_option maxRecDepth 20000 in
theorem t_Shar_hasReader_l15 {X : CT} {w : WO} (C : CF X w (lim0 w) 7 cX6_hasReader RX6 (some .boolean) (.code yX6_hasReader cX6_hasReader 7 (some .boolean)) (rmK 3 96)) {T : TXT} {z : EXa} (hL : LyX w T z) {a1 : Int32} {a2 : Int32} {post : Int32 → DD → Prop} {σ : DD} {a3 : Int32} {a4 : Int32} (h : w_Shar_hasReader_l15 T post σ a1 a2 a3 a4) : gW X w (lim0 w) 7 (QI X w post) σ 15 [(0, .ref (wAd w 90)), (1, .int a1), (2, .int a2), (3, .int a3), (4, .int a4)] [] :=
  LoopW (G := fun x : DD × Int32 × Int32 => gW X w (lim0 w) 7 (QI X w post) x.1 15 [(0, .ref (wAd w 90)), (1, .int a1), (2, .int a2), (3, .int x.2.1), (4, .int x.2.2)] []) (fun K x hK hF => t_Shar_hasReader_b15 C hL (fun σ a3 a4 q => hK (σ, a3, a4) q) hF) h
set_option maxRecDepth 20000 in
theorem m_Shar_hasReader {l : Launch} {w : WO} {T : TXT} {z : EXa} (hL : LyX w T z) {σ : DD} {a1 : Int32} {post : Int32 → DD → Prop} (h : w_Shar_hasReader T σ a1 post) : MI l w yX6_hasReader cX6_hasReader 7 .boolean (rmK 3 96) σ [.ref (wAd w 90), .int a1] post :=
  met_head (rt := (some .boolean)) (by decide) rfl (fun X hX C => by
  subst hX
  unfold w_Shar_hasReader at h
  show gW X w (lim0 w) 7 (QI X w post) σ 0 [(0, .ref (wAd w 90)), (1, .int a1)] []
  refine r_aload_n C 0 rfl (dk_at dk_Shar_hasReader_0 0 rfl) ?_
  refine r_getR C fl_Shar_24 90 (hL.1 90 _ rfl) rfl (dk_at dk_Shar_hasReader_0 1 rfl) ?_
  refine r_getR C fl_Shar_64 200 (hL.1 200 _ rfl) rfl (dk_at dk_Shar_hasReader_0 2 rfl) ?_
  refine r_iconst C 0 (dk_at dk_Shar_hasReader_0 3 rfl) ?_
  refine r_ialdK C 208 (hL.1 208 _ rfl) lk_0 (vk_0_4) (dk_at dk_Shar_hasReader_0 4 rfl) ?_
  refine r_topi (fun v15 e16 => ?_)
  replace h := h v15 e16
  refine r_istore_n C [(2, .int v15), (0, .ref (wAd w 90)), (1, .int a1)] rfl rfl (dk_at dk_Shar_hasReader_0 5 rfl) ?_
  refine r_iconst C 0 (dk_at dk_Shar_hasReader_0 6 rfl) ?_
  refine r_istore_n C [(3, .int 0), (2, .int v15), (0, .ref (wAd w 90)), (1, .int a1)] rfl rfl (dk_at dk_Shar_hasReader_0 7 rfl) ?_
  refine r_iconst C 0 (dk_at dk_Shar_hasReader_0 8 rfl) ?_
  refine r_istore C [(4, .int 0), (3, .int 0), (2, .int v15), (0, .ref (wAd w 90)), (1, .int a1)] rfl rfl (dk_at dk_Shar_hasReader_0 9 rfl) ?_
  refine r_lv [3, 4, 2, 1, 0] rfl ?_
  exact t_Shar_hasReader_l15 C hL h
  )
set_option maxRecDepth 20000 in
theorem t_Shar_shareFrom_b12 {o_shareFrom : DD → Int32 → (Int32 → DD → Prop) → Prop} {f0 q0 f_shareFrom q_shareFrom : Nat} {X : CT} {w : WO} (C : CF X w (lim0 w) 5 cX6_shareFrom RX6 (some .boolean) (.code yX6_shareFrom cX6_shareFrom 5 (some .boolean)) (rmK f0 q0)) {T : TXT} {z : EXa} (hL : LyX w T z) (hr0 : 0 ≤ f0 ∧ 0 ≤ q0) (hr_shareFrom : f_shareFrom + 1 ≤ f0 ∧ 8 + (5 + 11) + q_shareFrom ≤ q0) (ho_shareFrom : ∀ (σ : DD) (a1 : Int32) (post : Int32 → DD → Prop), o_shareFrom σ a1 post → MI X.l w yX6_shareFrom cX6_shareFrom 5 .boolean (rmK f_shareFrom q_shareFrom) σ [.ref (wAd w 90), .int a1] post) {a1 : Int32} {K12 : DD → Int32 → Prop} {post : Int32 → DD → Prop} (k12 : ∀ (σ : DD) (a2 : Int32), K12 σ a2 → gW X w (lim0 w) 5 (QI X w post) σ 12 [(0, .ref (wAd w 90)), (1, .int a1), (2, .int a2)] []) {σ : DD} {a2 : Int32} (h : w_Shar_shareFrom_b12 T o_shareFrom a1 K12 post σ a2) : gW X w (lim0 w) 5 (QI X w post) σ 12 [(0, .ref (wAd w 90)), (1, .int a1), (2, .int a2)] [] := by
  unfold w_Shar_shareFrom_b12 at h
  refine r_iload_n C 2 rfl (dk_at dk_Shar_shareFrom_0 8 rfl) ?_
  refine r_aload_n C 0 rfl (dk_at dk_Shar_shareFrom_0 9 rfl) ?_
  refine r_getR C fl_Shar_24 90 (hL.1 90 _ rfl) rfl (dk_at dk_Shar_shareFrom_0 10 rfl) ?_
  refine r_getI C fl_Shar_52 200 (hL.1 200 _ rfl) rfl (dk_at dk_Shar_shareFrom_0 11 rfl) ?_
  refine r_icmp_ge C 89 rfl (dk_at dk_Shar_shareFrom_0 12 rfl) (fun c1 => ?_) (fun c1 => ?_)
  · replace h := h.1 c1
    refine r_iconst C 0 (dk_at dk_Shar_shareFrom_1 17 rfl) ?_
    exact r_zret C (Or.inl rfl) h (dk_at dk_Shar_shareFrom_1 18 rfl)
  · replace h := h.2 c1
    refine r_aload_n C 0 rfl (dk_at dk_Shar_shareFrom_0 13 rfl) ?_
    refine r_getR C fl_Shar_21 90 (hL.1 90 _ rfl) rfl (dk_at dk_Shar_shareFrom_0 14 rfl) ?_
    refine r_iload_n C 1 rfl (dk_at dk_Shar_shareFrom_0 15 rfl) ?_
    refine r_iconst C 4 (dk_at dk_Shar_shareFrom_0 16 rfl) ?_
    refine r_imul C (dk_at dk_Shar_shareFrom_0 17 rfl) ?_
    refine r_iload_n C 2 rfl (dk_at dk_Shar_shareFrom_0 18 rfl) ?_
    refine r_iadd C (dk_at dk_Shar_shareFrom_0 19 rfl) ?_
    obtain ⟨q2, h⟩ := h
    refine r_iald C 96 (hL.1 96 _ rfl) q2 (dk_at dk_Shar_shareFrom_0 20 rfl) ?_
    refine r_topi (fun v3 e4 => ?_)
    replace h := h v3 e4
    refine r_istore_n C [(3, .int v3), (0, .ref (wAd w 90)), (1, .int a1), (2, .int a2)] rfl rfl (dk_at dk_Shar_shareFrom_0 21 rfl) ?_
    refine r_aload_n C 1 rfl (dk_at dk_Shar_shareFrom_0 22 rfl) ?_
    refine r_getR C fl_Shar_18 90 (hL.1 90 _ rfl) rfl (dk_at dk_Shar_shareFrom_0 23 rfl) ?_
    refine r_iload_n C 3 rfl (dk_at dk_Shar_shareFrom_0 24 rfl) ?_
    obtain ⟨q5, h⟩ := h
    refine r_iald C 95 (hL.1 95 _ rfl) q5 (dk_at dk_Shar_shareFrom_0 25 rfl) ?_
    refine r_iload_n C 0 rfl (dk_at dk_Shar_shareFrom_0 26 rfl) ?_
    refine r_icmp_ge C 47 rfl (dk_at dk_Shar_shareFrom_0 27 rfl) (fun c6 => ?_) (fun c6 => ?_)
    · replace h := h.1 c6
      refine r_aload_n C 1 rfl (dk_at dk_Shar_shareFrom_0 29 rfl) ?_
      refine r_getR C fl_Shar_18 90 (hL.1 90 _ rfl) rfl (dk_at dk_Shar_shareFrom_0 30 rfl) ?_
      refine r_iload_n C 3 rfl (dk_at dk_Shar_shareFrom_0 31 rfl) ?_
      refine r_dup2 C rfl rfl (dk_at dk_Shar_shareFrom_0 32 rfl) ?_
      obtain ⟨q7, h⟩ := h
      refine r_iald C 95 (hL.1 95 _ rfl) q7 (dk_at dk_Shar_shareFrom_0 33 rfl) ?_
      refine r_iload_n C 0 rfl (dk_at dk_Shar_shareFrom_0 34 rfl) ?_
      refine r_isub C (dk_at dk_Shar_shareFrom_0 35 rfl) ?_
      obtain ⟨q10, h⟩ := h
      refine r_iast C 95 (hL.1 95 _ rfl) q10 (dk_at dk_Shar_shareFrom_0 36 rfl) (r_sg (fun σ8 e9 => ?_))
      replace h := h σ8 e9
      refine r_aload_n C 1 rfl (dk_at dk_Shar_shareFrom_0 37 rfl) ?_
      refine r_iload_n C 2 rfl (dk_at dk_Shar_shareFrom_0 38 rfl) ?_
      refine r_iconst C 1 (dk_at dk_Shar_shareFrom_0 39 rfl) ?_
      refine r_iadd C (dk_at dk_Shar_shareFrom_1 0 rfl) ?_
      refine r_cvI C cl_Shar_80 90 (hL.1 90 _ rfl) [.int (a1 + 1)] (ho_shareFrom _ _ _ h) (rmK_ok2 hr_shareFrom.1 hr_shareFrom.2) rfl rfl (Nat.le_of_ble_eq_true rfl) (dk_at dk_Shar_shareFrom_1 1 rfl) (fun r11 σ12 h => ?_)
      refine r_istore C [(4, .int r11), (3, .int v3), (0, .ref (wAd w 90)), (1, .int a1), (2, .int a2)] rfl rfl (dk_at dk_Shar_shareFrom_1 2 rfl) ?_
      refine r_aload_n C 2 rfl (dk_at dk_Shar_shareFrom_1 3 rfl) ?_
      refine r_getR C fl_Shar_18 90 (hL.1 90 _ rfl) rfl (dk_at dk_Shar_shareFrom_1 4 rfl) ?_
      refine r_iload_n C 4 rfl (dk_at dk_Shar_shareFrom_1 5 rfl) ?_
      refine r_dup2 C rfl rfl (dk_at dk_Shar_shareFrom_1 6 rfl) ?_
      obtain ⟨q13, h⟩ := h
      refine r_iald C 95 (hL.1 95 _ rfl) q13 (dk_at dk_Shar_shareFrom_1 7 rfl) ?_
      refine r_iload_n C 1 rfl (dk_at dk_Shar_shareFrom_1 8 rfl) ?_
      refine r_iadd C (dk_at dk_Shar_shareFrom_1 9 rfl) ?_
      obtain ⟨q16, h⟩ := h
      refine r_iast C 95 (hL.1 95 _ rfl) q16 (dk_at dk_Shar_shareFrom_1 10 rfl) (r_sg (fun σ14 e15 => ?_))
      replace h := h σ14 e15
      refine r_iload C 0 rfl (dk_at dk_Shar_shareFrom_1 11 rfl) ?_
      refine r_if_eq C 83 rfl (dk_at dk_Shar_shareFrom_1 12 rfl) (fun c17 => ?_) (fun c17 => ?_)
      · replace h := h.1 c17
        refine r_iinc C 4 rfl rfl [(2, .int (a2 + 1)), (4, .int r11), (3, .int v3), (0, .ref (wAd w 90)), (1, .int a1)] rfl rfl (dk_at dk_Shar_shareFrom_1 15 rfl) ?_
        refine r_goto C 12 rfl (dk_at dk_Shar_shareFrom_1 16 rfl) ?_
        refine r_lv [3, 4, 0] rfl ?_
        exact k12 _ _ h
      · replace h := h.2 c17
        refine r_iconst C 1 (dk_at dk_Shar_shareFrom_1 13 rfl) ?_
        exact r_zret C (Or.inr rfl) h (dk_at dk_Shar_shareFrom_1 14 rfl)
    · replace h := h.2 c6
      refine r_goto C 83 rfl (dk_at dk_Shar_shareFrom_0 28 rfl) ?_
      refine r_iinc C 3 rfl rfl [(2, .int (a2 + 1)), (3, .int v3), (0, .ref (wAd w 90)), (1, .int a1)] rfl rfl (dk_at dk_Shar_shareFrom_1 15 rfl) ?_
      refine r_goto C 12 rfl (dk_at dk_Shar_shareFrom_1 16 rfl) ?_
      refine r_lv [2, 3, 0] rfl ?_
      exact k12 _ _ h
set_option maxRecDepth 20000 in
theorem t_Shar_shareFrom_l12 {o_shareFrom : DD → Int32 → (Int32 → DD → Prop) → Prop} {f0 q0 f_shareFrom q_shareFrom : Nat} {X : CT} {w : WO} (C : CF X w (lim0 w) 5 cX6_shareFrom RX6 (some .boolean) (.code yX6_shareFrom cX6_shareFrom 5 (some .boolean)) (rmK f0 q0)) {T : TXT} {z : EXa} (hL : LyX w T z) (hr0 : 0 ≤ f0 ∧ 0 ≤ q0) (hr_shareFrom : f_shareFrom + 1 ≤ f0 ∧ 8 + (5 + 11) + q_shareFrom ≤ q0) (ho_shareFrom : ∀ (σ : DD) (a1 : Int32) (post : Int32 → DD → Prop), o_shareFrom σ a1 post → MI X.l w yX6_shareFrom cX6_shareFrom 5 .boolean (rmK f_shareFrom q_shareFrom) σ [.ref (wAd w 90), .int a1] post) {a1 : Int32} {post : Int32 → DD → Prop} {σ : DD} {a2 : Int32} (h : w_Shar_shareFrom_l12 T o_shareFrom post σ a1 a2) : gW X w (lim0 w) 5 (QI X w post) σ 12 [(0, .ref (wAd w 90)), (1, .int a1), (2, .int a2)] [] :=
  LoopW (G := fun x : DD × Int32 => gW X w (lim0 w) 5 (QI X w post) x.1 12 [(0, .ref (wAd w 90)), (1, .int a1), (2, .int x.2)] []) (fun K x hK hF => t_Shar_shareFrom_b12 C hL hr0 hr_shareFrom ho_shareFrom (fun σ a2 q => hK (σ, a2) q) hF) h
set_option maxRecDepth 20000 in
theorem m_Shar_shareFrom_o {l : Launch} {w : WO} {T : TXT} {z : EXa} (hL : LyX w T z) {o_shareFrom : DD → Int32 → (Int32 → DD → Prop) → Prop} {f0 q0 f_shareFrom q_shareFrom : Nat} (hr0 : 0 ≤ f0 ∧ 0 ≤ q0) (hr_shareFrom : f_shareFrom + 1 ≤ f0 ∧ 8 + (5 + 11) + q_shareFrom ≤ q0) (ho_shareFrom : ∀ (σ : DD) (a1 : Int32) (post : Int32 → DD → Prop), o_shareFrom σ a1 post → MI l w yX6_shareFrom cX6_shareFrom 5 .boolean (rmK f_shareFrom q_shareFrom) σ [.ref (wAd w 90), .int a1] post) {σ : DD} {a1 : Int32} {post : Int32 → DD → Prop} (h : w_Shar_shareFrom_o T o_shareFrom σ a1 post) : MI l w yX6_shareFrom cX6_shareFrom 5 .boolean (rmK f0 q0) σ [.ref (wAd w 90), .int a1] post :=
  met_head (rt := (some .boolean)) (by decide) rfl (fun X hX C => by
  subst hX
  unfold w_Shar_shareFrom_o at h
  show gW X w (lim0 w) 5 (QI X w post) σ 0 [(0, .ref (wAd w 90)), (1, .int a1)] []
  refine r_iload_n C 1 rfl (dk_at dk_Shar_shareFrom_0 0 rfl) ?_
  refine r_aload_n C 0 rfl (dk_at dk_Shar_shareFrom_0 1 rfl) ?_
  refine r_getI C fl_Shar_32 90 (hL.1 90 _ rfl) rfl (dk_at dk_Shar_shareFrom_0 2 rfl) ?_
  refine r_icmp_lt C 10 rfl (dk_at dk_Shar_shareFrom_0 3 rfl) (fun c18 => ?_) (fun c18 => ?_)
  · replace h := h.1 c18
    refine r_iconst C 0 (dk_at dk_Shar_shareFrom_0 6 rfl) ?_
    refine r_istore_n C [(2, .int 0), (0, .ref (wAd w 90)), (1, .int a1)] rfl rfl (dk_at dk_Shar_shareFrom_0 7 rfl) ?_
    refine r_lv [1, 2, 0] rfl ?_
    exact t_Shar_shareFrom_l12 C hL hr0 hr_shareFrom ho_shareFrom h
  · replace h := h.2 c18
    refine r_iconst C 1 (dk_at dk_Shar_shareFrom_0 4 rfl) ?_
    exact r_zret C (Or.inr rfl) h (dk_at dk_Shar_shareFrom_0 5 rfl)
  )
set_option maxRecDepth 20000 in
theorem m_Shar_shareFrom_d {l : Launch} {w : WO} {T : TXT} {z : EXa} (hL : LyX w T z) : ∀ d : Nat, ∀ (σ : DD) (a1 : Int32) (post : Int32 → DD → Prop), w_Shar_shareFrom_d T d σ a1 post → MI l w yX6_shareFrom cX6_shareFrom 5 .boolean (rmK (0 + 1 * d) (0 + 24 * d)) σ [.ref (wAd w 90), .int a1] post := by
  intro d
  induction d with
  | zero => exact fun _ _ _ h => h.elim
  | succ n ih =>
    rw [show 0 + 1 * (n + 1) = 0 + 1 * n + 1 by omega, show 0 + 24 * (n + 1) = 0 + 24 * n + 24 by omega]
    exact (fun _ _ _ h => m_Shar_shareFrom_o hL (f0 := 0 + 1 * n + 1) (q0 := 0 + 24 * n + 24) (f_shareFrom := 0 + 1 * n + 0) (q_shareFrom := 0 + 24 * n + 0) (by omega) (by omega) ih h)
set_option maxRecDepth 20000 in
theorem m_Shar_shareFrom {l : Launch} {w : WO} {T : TXT} {z : EXa} (hL : LyX w T z) {σ : DD} {a1 : Int32} {post : Int32 → DD → Prop} (h : w_Shar_shareFrom T σ a1 post) : MI l w yX6_shareFrom cX6_shareFrom 5 .boolean (rmK 12 288) σ [.ref (wAd w 90), .int a1] post :=
  m_Shar_shareFrom_d hL 12 _ _ _ h
set_option maxRecDepth 20000 in
theorem t_Shar_canShare_j39 {X : CT} {w : WO} (C : CF X w (lim0 w) 3 cX6_canShare RX6 (some .boolean) (.code yX6_canShare cX6_canShare 3 (some .boolean)) (rmK 13 312)) {T : TXT} {z : EXa} (hL : LyX w T z) {K2 : DD → Int32 → Prop} {post : Int32 → DD → Prop} {a1 : Int32} {a2 : Int32} {t1 : Int32} {t2 : Int32} (k2 : ∀ (σ : DD) (a2 : Int32), K2 σ a2 → gW X w (lim0 w) 3 (QI X w post) σ 2 [(0, .ref (wAd w 90)), (1, .int a1), (2, .int a2)] []) {σ : DD} (h : w_Shar_canShare_j39 T K2 post σ a1 a2 t1 t2) : gW X w (lim0 w) 3 (QI X w post) σ 39 [(0, .ref (wAd w 90)), (1, .int a1), (2, .int a2)] [.int t2, .int t1, .ref (wAd w 95)] := by
  unfold w_Shar_canShare_j39 at h
  obtain ⟨q3, h⟩ := h
  refine r_iast C 95 (hL.1 95 _ rfl) q3 (dk_at dk_Shar_canShare_0 23 rfl) (r_sg (fun σ1 e2 => ?_))
  replace h := h σ1 e2
  refine r_iinc C 2 rfl rfl [(2, .int (a2 + 1)), (0, .ref (wAd w 90)), (1, .int a1)] rfl rfl (dk_at dk_Shar_canShare_0 24 rfl) ?_
  refine r_goto C 2 rfl (dk_at dk_Shar_canShare_0 25 rfl) ?_
  refine r_lv [1, 2, 0] rfl ?_
  exact k2 _ _ h
set_option maxRecDepth 20000 in
theorem t_Shar_canShare_b2 {X : CT} {w : WO} (C : CF X w (lim0 w) 3 cX6_canShare RX6 (some .boolean) (.code yX6_canShare cX6_canShare 3 (some .boolean)) (rmK 13 312)) {T : TXT} {z : EXa} (hL : LyX w T z) {a1 : Int32} {K2 : DD → Int32 → Prop} {post : Int32 → DD → Prop} (k2 : ∀ (σ : DD) (a2 : Int32), K2 σ a2 → gW X w (lim0 w) 3 (QI X w post) σ 2 [(0, .ref (wAd w 90)), (1, .int a1), (2, .int a2)] []) {σ : DD} {a2 : Int32} (h : w_Shar_canShare_b2 T a1 K2 post σ a2) : gW X w (lim0 w) 3 (QI X w post) σ 2 [(0, .ref (wAd w 90)), (1, .int a1), (2, .int a2)] [] := by
  unfold w_Shar_canShare_b2 at h
  refine r_iload_n C 2 rfl (dk_at dk_Shar_canShare_0 2 rfl) ?_
  refine r_aload_n C 0 rfl (dk_at dk_Shar_canShare_0 3 rfl) ?_
  refine r_getR C fl_Shar_24 90 (hL.1 90 _ rfl) rfl (dk_at dk_Shar_canShare_0 4 rfl) ?_
  refine r_getI C fl_Shar_52 200 (hL.1 200 _ rfl) rfl (dk_at dk_Shar_canShare_0 5 rfl) ?_
  refine r_icmp_ge C 46 rfl (dk_at dk_Shar_canShare_0 6 rfl) (fun c4 => ?_) (fun c4 => ?_)
  · replace h := h.1 c4
    refine r_aload_n C 0 rfl (dk_at dk_Shar_canShare_0 26 rfl) ?_
    refine r_iconst C 0 (dk_at dk_Shar_canShare_0 27 rfl) ?_
    refine r_cvI C cl_Shar_80 90 (hL.1 90 _ rfl) [.int 0] (m_Shar_shareFrom hL h) (rmK_ok rfl rfl) rfl rfl (Nat.le_of_ble_eq_true rfl) (dk_at dk_Shar_canShare_0 28 rfl) (fun r5 σ6 h => ?_)
    exact r_zret C h.1 h.2 (dk_at dk_Shar_canShare_0 29 rfl)
  · replace h := h.2 c4
    refine r_aload_n C 0 rfl (dk_at dk_Shar_canShare_0 7 rfl) ?_
    refine r_getR C fl_Shar_18 90 (hL.1 90 _ rfl) rfl (dk_at dk_Shar_canShare_0 8 rfl) ?_
    refine r_iload_n C 2 rfl (dk_at dk_Shar_canShare_0 9 rfl) ?_
    refine r_iload_n C 1 rfl (dk_at dk_Shar_canShare_0 10 rfl) ?_
    refine r_iload_n C 2 rfl (dk_at dk_Shar_canShare_0 11 rfl) ?_
    refine r_ishr C (dk_at dk_Shar_canShare_0 12 rfl) ?_
    refine r_iconst C 1 (dk_at dk_Shar_canShare_0 13 rfl) ?_
    refine r_iand C (dk_at dk_Shar_canShare_0 14 rfl) ?_
    refine r_if_eq C 38 rfl (dk_at dk_Shar_canShare_0 15 rfl) (fun c7 => ?_) (fun c7 => ?_)
    · replace h := h.1 c7
      refine r_iconst C (-1) (dk_at dk_Shar_canShare_0 22 rfl) ?_
      refine r_lv [0, 1, 2] rfl ?_
      exact t_Shar_canShare_j39 C hL k2 h
    · replace h := h.2 c7
      refine r_aload_n C 0 rfl (dk_at dk_Shar_canShare_0 16 rfl) ?_
      refine r_getR C fl_Shar_24 90 (hL.1 90 _ rfl) rfl (dk_at dk_Shar_canShare_0 17 rfl) ?_
      refine r_getR C fl_Shar_77 200 (hL.1 200 _ rfl) rfl (dk_at dk_Shar_canShare_0 18 rfl) ?_
      refine r_iload_n C 2 rfl (dk_at dk_Shar_canShare_0 19 rfl) ?_
      obtain ⟨q8, h⟩ := h
      refine r_iald C 205 (hL.1 205 _ rfl) q8 (dk_at dk_Shar_canShare_0 20 rfl) ?_
      refine r_goto C 39 rfl (dk_at dk_Shar_canShare_0 21 rfl) ?_
      refine r_lv [0, 1, 2] rfl ?_
      exact t_Shar_canShare_j39 C hL k2 h
set_option maxRecDepth 20000 in
theorem t_Shar_canShare_l2 {X : CT} {w : WO} (C : CF X w (lim0 w) 3 cX6_canShare RX6 (some .boolean) (.code yX6_canShare cX6_canShare 3 (some .boolean)) (rmK 13 312)) {T : TXT} {z : EXa} (hL : LyX w T z) {a1 : Int32} {post : Int32 → DD → Prop} {σ : DD} {a2 : Int32} (h : w_Shar_canShare_l2 T post σ a1 a2) : gW X w (lim0 w) 3 (QI X w post) σ 2 [(0, .ref (wAd w 90)), (1, .int a1), (2, .int a2)] [] :=
  LoopW (G := fun x : DD × Int32 => gW X w (lim0 w) 3 (QI X w post) x.1 2 [(0, .ref (wAd w 90)), (1, .int a1), (2, .int x.2)] []) (fun K x hK hF => t_Shar_canShare_b2 C hL (fun σ a2 q => hK (σ, a2) q) hF) h
set_option maxRecDepth 20000 in
theorem m_Shar_canShare {l : Launch} {w : WO} {T : TXT} {z : EXa} (hL : LyX w T z) {σ : DD} {a1 : Int32} {post : Int32 → DD → Prop} (h : w_Shar_canShare T σ a1 post) : MI l w yX6_canShare cX6_canShare 3 .boolean (rmK 13 312) σ [.ref (wAd w 90), .int a1] post :=
  met_head (rt := (some .boolean)) (by decide) rfl (fun X hX C => by
  subst hX
  unfold w_Shar_canShare at h
  show gW X w (lim0 w) 3 (QI X w post) σ 0 [(0, .ref (wAd w 90)), (1, .int a1)] []
  refine r_iconst C 0 (dk_at dk_Shar_canShare_0 0 rfl) ?_
  refine r_istore_n C [(2, .int 0), (0, .ref (wAd w 90)), (1, .int a1)] rfl rfl (dk_at dk_Shar_canShare_0 1 rfl) ?_
  refine r_lv [1, 2, 0] rfl ?_
  exact t_Shar_canShare_l2 C hL h
  )
set_option maxRecDepth 20000 in
theorem t_Shar_fewestReaders_b65 {X : CT} {w : WO} (C : CF X w (lim0 w) 4 cX6_fewestReaders RX6 (some .int) (.code yX6_fewestReaders cX6_fewestReaders 4 (some .int)) (rmK 14 334)) {T : TXT} {z : EXa} (hL : LyX w T z) {K52 : DD → Int32 → Prop} {a2 : Int32} {K65 : DD → Int32 → Prop} {post : Int32 → DD → Prop} (k52 : ∀ (σ : DD) (a2 : Int32), K52 σ a2 → gW X w (lim0 w) 4 (QI X w post) σ 52 [(0, .ref (wAd w 90)), (2, .int a2)] []) (k65 : ∀ (σ : DD) (a3 : Int32), K65 σ a3 → gW X w (lim0 w) 4 (QI X w post) σ 65 [(0, .ref (wAd w 90)), (2, .int a2), (3, .int a3)] []) {σ : DD} {a3 : Int32} (h : w_Shar_fewestReaders_b65 T K52 a2 K65 post σ a3) : gW X w (lim0 w) 4 (QI X w post) σ 65 [(0, .ref (wAd w 90)), (2, .int a2), (3, .int a3)] [] := by
  unfold w_Shar_fewestReaders_b65 at h
  refine r_iload_n C 2 rfl (dk_at dk_Shar_fewestReaders_0 37 rfl) ?_
  refine r_iconst C 1 (dk_at dk_Shar_fewestReaders_0 38 rfl) ?_
  refine r_aload_n C 0 rfl (dk_at dk_Shar_fewestReaders_0 39 rfl) ?_
  refine r_getR C fl_Shar_24 90 (hL.1 90 _ rfl) rfl (dk_at dk_Shar_fewestReaders_1 0 rfl) ?_
  refine r_getI C fl_Shar_52 200 (hL.1 200 _ rfl) rfl (dk_at dk_Shar_fewestReaders_1 1 rfl) ?_
  refine r_ishl C (dk_at dk_Shar_fewestReaders_1 2 rfl) ?_
  refine r_icmp_ge C 102 rfl (dk_at dk_Shar_fewestReaders_1 3 rfl) (fun c1 => ?_) (fun c1 => ?_)
  · replace h := h.1 c1
    refine r_iinc C 1 rfl rfl [(2, .int (a2 + 1)), (0, .ref (wAd w 90)), (3, .int a3)] rfl rfl (dk_at dk_Shar_fewestReaders_1 16 rfl) ?_
    refine r_goto C 52 rfl (dk_at dk_Shar_fewestReaders_1 17 rfl) ?_
    refine r_lv [1, 0] rfl ?_
    exact k52 _ _ h
  · replace h := h.2 c1
    refine r_iload_n C 2 rfl (dk_at dk_Shar_fewestReaders_1 4 rfl) ?_
    refine r_csI C cs_Shar_55 [.int a3] (m_J6_bitCount_0f7a4 hL h) (rmK_ok rfl rfl) rfl rfl (Nat.le_of_ble_eq_true rfl) (dk_at dk_Shar_fewestReaders_1 5 rfl) (fun r2 σ3 h => ?_)
    refine r_iload_n C 1 rfl (dk_at dk_Shar_fewestReaders_1 6 rfl) ?_
    refine r_icmp_ne C 96 rfl (dk_at dk_Shar_fewestReaders_1 7 rfl) (fun c4 => ?_) (fun c4 => ?_)
    · replace h := h.1 c4
      refine r_iinc C 2 rfl rfl [(3, .int (a3 + 1)), (0, .ref (wAd w 90)), (2, .int a2)] rfl rfl (dk_at dk_Shar_fewestReaders_1 14 rfl) ?_
      refine r_goto C 65 rfl (dk_at dk_Shar_fewestReaders_1 15 rfl) ?_
      refine r_lv [1, 2, 0] rfl ?_
      exact k65 _ _ h
    · replace h := h.2 c4
      refine r_aload_n C 0 rfl (dk_at dk_Shar_fewestReaders_1 8 rfl) ?_
      refine r_iload_n C 2 rfl (dk_at dk_Shar_fewestReaders_1 9 rfl) ?_
      refine r_cvI C cl_Shar_61 90 (hL.1 90 _ rfl) [.int a3] (m_Shar_canShare hL h) (rmK_ok rfl rfl) rfl rfl (Nat.le_of_ble_eq_true rfl) (dk_at dk_Shar_fewestReaders_1 10 rfl) (fun r5 σ6 h => ?_)
      refine r_if_eq C 96 rfl (dk_at dk_Shar_fewestReaders_1 11 rfl) (fun c7 => ?_) (fun c7 => ?_)
      · replace h := h.1 c7
        refine r_iinc C 2 rfl rfl [(3, .int (a3 + 1)), (0, .ref (wAd w 90)), (2, .int a2)] rfl rfl (dk_at dk_Shar_fewestReaders_1 14 rfl) ?_
        refine r_goto C 65 rfl (dk_at dk_Shar_fewestReaders_1 15 rfl) ?_
        refine r_lv [1, 2, 0] rfl ?_
        exact k65 _ _ h
      · replace h := h.2 c7
        refine r_iload_n C 2 rfl (dk_at dk_Shar_fewestReaders_1 12 rfl) ?_
        exact r_iret C h (dk_at dk_Shar_fewestReaders_1 13 rfl)
set_option maxRecDepth 20000 in
theorem t_Shar_fewestReaders_l65 {X : CT} {w : WO} (C : CF X w (lim0 w) 4 cX6_fewestReaders RX6 (some .int) (.code yX6_fewestReaders cX6_fewestReaders 4 (some .int)) (rmK 14 334)) {T : TXT} {z : EXa} (hL : LyX w T z) {K52 : DD → Int32 → Prop} {a2 : Int32} {post : Int32 → DD → Prop} (k52 : ∀ (σ : DD) (a2 : Int32), K52 σ a2 → gW X w (lim0 w) 4 (QI X w post) σ 52 [(0, .ref (wAd w 90)), (2, .int a2)] []) {σ : DD} {a3 : Int32} (h : w_Shar_fewestReaders_l65 T K52 post σ a2 a3) : gW X w (lim0 w) 4 (QI X w post) σ 65 [(0, .ref (wAd w 90)), (2, .int a2), (3, .int a3)] [] :=
  LoopW (G := fun x : DD × Int32 => gW X w (lim0 w) 4 (QI X w post) x.1 65 [(0, .ref (wAd w 90)), (2, .int a2), (3, .int x.2)] []) (fun K x hK hF => t_Shar_fewestReaders_b65 C hL k52 (fun σ a3 q => hK (σ, a3) q) hF) h
set_option maxRecDepth 20000 in
theorem t_Shar_fewestReaders_b52 {X : CT} {w : WO} (C : CF X w (lim0 w) 4 cX6_fewestReaders RX6 (some .int) (.code yX6_fewestReaders cX6_fewestReaders 4 (some .int)) (rmK 14 334)) {T : TXT} {z : EXa} (hL : LyX w T z) {K52 : DD → Int32 → Prop} {post : Int32 → DD → Prop} (k52 : ∀ (σ : DD) (a2 : Int32), K52 σ a2 → gW X w (lim0 w) 4 (QI X w post) σ 52 [(0, .ref (wAd w 90)), (2, .int a2)] []) {σ : DD} {a2 : Int32} (h : w_Shar_fewestReaders_b52 T K52 post σ a2) : gW X w (lim0 w) 4 (QI X w post) σ 52 [(0, .ref (wAd w 90)), (2, .int a2)] [] := by
  unfold w_Shar_fewestReaders_b52 at h
  refine r_iload_n C 1 rfl (dk_at dk_Shar_fewestReaders_0 30 rfl) ?_
  refine r_aload_n C 0 rfl (dk_at dk_Shar_fewestReaders_0 31 rfl) ?_
  refine r_getR C fl_Shar_24 90 (hL.1 90 _ rfl) rfl (dk_at dk_Shar_fewestReaders_0 32 rfl) ?_
  refine r_getI C fl_Shar_52 200 (hL.1 200 _ rfl) rfl (dk_at dk_Shar_fewestReaders_0 33 rfl) ?_
  refine r_icmp_gt C 108 rfl (dk_at dk_Shar_fewestReaders_0 34 rfl) (fun c8 => ?_) (fun c8 => ?_)
  · replace h := h.1 c8
    refine r_iconst C (-1) (dk_at dk_Shar_fewestReaders_1 18 rfl) ?_
    exact r_iret C h (dk_at dk_Shar_fewestReaders_1 19 rfl)
  · replace h := h.2 c8
    refine r_iconst C 1 (dk_at dk_Shar_fewestReaders_0 35 rfl) ?_
    refine r_istore_n C [(3, .int 1), (0, .ref (wAd w 90)), (2, .int a2)] rfl rfl (dk_at dk_Shar_fewestReaders_0 36 rfl) ?_
    refine r_lv [1, 2, 0] rfl ?_
    exact t_Shar_fewestReaders_l65 C hL k52 h
set_option maxRecDepth 20000 in
theorem t_Shar_fewestReaders_l52 {X : CT} {w : WO} (C : CF X w (lim0 w) 4 cX6_fewestReaders RX6 (some .int) (.code yX6_fewestReaders cX6_fewestReaders 4 (some .int)) (rmK 14 334)) {T : TXT} {z : EXa} (hL : LyX w T z) {post : Int32 → DD → Prop} {σ : DD} {a2 : Int32} (h : w_Shar_fewestReaders_l52 T post σ a2) : gW X w (lim0 w) 4 (QI X w post) σ 52 [(0, .ref (wAd w 90)), (2, .int a2)] [] :=
  LoopW (G := fun x : DD × Int32 => gW X w (lim0 w) 4 (QI X w post) x.1 52 [(0, .ref (wAd w 90)), (2, .int x.2)] []) (fun K x hK hF => t_Shar_fewestReaders_b52 C hL (fun σ a2 q => hK (σ, a2) q) hF) h
set_option maxRecDepth 20000 in
theorem t_Shar_fewestReaders_b7 {X : CT} {w : WO} (C : CF X w (lim0 w) 4 cX6_fewestReaders RX6 (some .int) (.code yX6_fewestReaders cX6_fewestReaders 4 (some .int)) (rmK 14 334)) {T : TXT} {z : EXa} (hL : LyX w T z) {a1 : Int32} {K7 : DD → Int32 → Prop} {post : Int32 → DD → Prop} (k7 : ∀ (σ : DD) (a2 : Int32), K7 σ a2 → gW X w (lim0 w) 4 (QI X w post) σ 7 [(0, .ref (wAd w 90)), (1, .int a1), (2, .int a2)] []) {σ : DD} {a2 : Int32} (h : w_Shar_fewestReaders_b7 T a1 K7 post σ a2) : gW X w (lim0 w) 4 (QI X w post) σ 7 [(0, .ref (wAd w 90)), (1, .int a1), (2, .int a2)] [] := by
  unfold w_Shar_fewestReaders_b7 at h
  refine r_iload_n C 2 rfl (dk_at dk_Shar_fewestReaders_0 5 rfl) ?_
  refine r_aload_n C 0 rfl (dk_at dk_Shar_fewestReaders_0 6 rfl) ?_
  refine r_getI C fl_Shar_32 90 (hL.1 90 _ rfl) rfl (dk_at dk_Shar_fewestReaders_0 7 rfl) ?_
  refine r_icmp_ge C 50 rfl (dk_at dk_Shar_fewestReaders_0 8 rfl) (fun c9 => ?_) (fun c9 => ?_)
  · replace h := h.1 c9
    refine r_iconst C 1 (dk_at dk_Shar_fewestReaders_0 28 rfl) ?_
    refine r_istore_n C [(2, .int 1), (0, .ref (wAd w 90)), (1, .int a1)] rfl rfl (dk_at dk_Shar_fewestReaders_0 29 rfl) ?_
    refine r_lv [1, 0] rfl ?_
    exact t_Shar_fewestReaders_l52 C hL h
  · replace h := h.2 c9
    refine r_aload_n C 0 rfl (dk_at dk_Shar_fewestReaders_0 9 rfl) ?_
    refine r_getR C fl_Shar_24 90 (hL.1 90 _ rfl) rfl (dk_at dk_Shar_fewestReaders_0 10 rfl) ?_
    refine r_getR C fl_Shar_45 200 (hL.1 200 _ rfl) rfl (dk_at dk_Shar_fewestReaders_0 11 rfl) ?_
    refine r_aload_n C 0 rfl (dk_at dk_Shar_fewestReaders_0 12 rfl) ?_
    refine r_getR C fl_Shar_9 90 (hL.1 90 _ rfl) rfl (dk_at dk_Shar_fewestReaders_0 13 rfl) ?_
    refine r_iload_n C 2 rfl (dk_at dk_Shar_fewestReaders_0 14 rfl) ?_
    obtain ⟨q10, h⟩ := h
    refine r_iald C 93 (hL.1 93 _ rfl) q10 (dk_at dk_Shar_fewestReaders_0 15 rfl) ?_
    obtain ⟨q11, h⟩ := h
    refine r_iald C 203 (hL.1 203 _ rfl) q11 (dk_at dk_Shar_fewestReaders_0 16 rfl) ?_
    refine r_iload_n C 1 rfl (dk_at dk_Shar_fewestReaders_0 17 rfl) ?_
    refine r_iand C (dk_at dk_Shar_fewestReaders_0 18 rfl) ?_
    refine r_if_ne C 42 rfl (dk_at dk_Shar_fewestReaders_0 19 rfl) (fun c12 => ?_) (fun c12 => ?_)
    · replace h := h.1 c12
      refine r_iconst C (-1) (dk_at dk_Shar_fewestReaders_0 24 rfl) ?_
      exact r_iret C h (dk_at dk_Shar_fewestReaders_0 25 rfl)
    · replace h := h.2 c12
      refine r_aload_n C 0 rfl (dk_at dk_Shar_fewestReaders_0 20 rfl) ?_
      refine r_iload_n C 2 rfl (dk_at dk_Shar_fewestReaders_0 21 rfl) ?_
      refine r_cvI C cl_Shar_48 90 (hL.1 90 _ rfl) [.int a2] (m_Shar_hasReader hL h) (rmK_ok rfl rfl) rfl rfl (Nat.le_of_ble_eq_true rfl) (dk_at dk_Shar_fewestReaders_0 22 rfl) (fun r13 σ14 h => ?_)
      refine r_if_ne C 44 rfl (dk_at dk_Shar_fewestReaders_0 23 rfl) (fun c15 => ?_) (fun c15 => ?_)
      · replace h := h.1 c15
        refine r_iinc C 2 rfl rfl [(2, .int (a2 + 1)), (0, .ref (wAd w 90)), (1, .int a1)] rfl rfl (dk_at dk_Shar_fewestReaders_0 26 rfl) ?_
        refine r_goto C 7 rfl (dk_at dk_Shar_fewestReaders_0 27 rfl) ?_
        refine r_lv [1, 2, 0] rfl ?_
        exact k7 _ _ h
      · replace h := h.2 c15
        refine r_iconst C (-1) (dk_at dk_Shar_fewestReaders_0 24 rfl) ?_
        exact r_iret C h (dk_at dk_Shar_fewestReaders_0 25 rfl)
set_option maxRecDepth 20000 in
theorem t_Shar_fewestReaders_l7 {X : CT} {w : WO} (C : CF X w (lim0 w) 4 cX6_fewestReaders RX6 (some .int) (.code yX6_fewestReaders cX6_fewestReaders 4 (some .int)) (rmK 14 334)) {T : TXT} {z : EXa} (hL : LyX w T z) {a1 : Int32} {post : Int32 → DD → Prop} {σ : DD} {a2 : Int32} (h : w_Shar_fewestReaders_l7 T post σ a1 a2) : gW X w (lim0 w) 4 (QI X w post) σ 7 [(0, .ref (wAd w 90)), (1, .int a1), (2, .int a2)] [] :=
  LoopW (G := fun x : DD × Int32 => gW X w (lim0 w) 4 (QI X w post) x.1 7 [(0, .ref (wAd w 90)), (1, .int a1), (2, .int x.2)] []) (fun K x hK hF => t_Shar_fewestReaders_b7 C hL (fun σ a2 q => hK (σ, a2) q) hF) h
set_option maxRecDepth 20000 in
theorem m_Shar_fewestReaders {l : Launch} {w : WO} {T : TXT} {z : EXa} (hL : LyX w T z) {σ : DD} {a1 : Int32} {post : Int32 → DD → Prop} (h : w_Shar_fewestReaders T σ a1 post) : MI l w yX6_fewestReaders cX6_fewestReaders 4 .int (rmK 14 334) σ [.ref (wAd w 90), .int a1] post :=
  met_head (rt := (some .int)) (by decide) rfl (fun X hX C => by
  subst hX
  unfold w_Shar_fewestReaders at h
  show gW X w (lim0 w) 4 (QI X w post) σ 0 [(0, .ref (wAd w 90)), (1, .int a1)] []
  refine r_aload_n C 0 rfl (dk_at dk_Shar_fewestReaders_0 0 rfl) ?_
  refine r_iload_n C 1 rfl (dk_at dk_Shar_fewestReaders_0 1 rfl) ?_
  refine r_cvV C cl_Shar_41 90 (hL.1 90 _ rfl) [.int a1] (m_Shar_list hL h) (rmK_ok rfl rfl) rfl rfl (Nat.le_of_ble_eq_true rfl) (dk_at dk_Shar_fewestReaders_0 2 rfl) (fun σ17 h => ?_)
  refine r_iconst C 0 (dk_at dk_Shar_fewestReaders_0 3 rfl) ?_
  refine r_istore_n C [(2, .int 0), (0, .ref (wAd w 90)), (1, .int a1)] rfl rfl (dk_at dk_Shar_fewestReaders_0 4 rfl) ?_
  refine r_lv [1, 2, 0] rfl ?_
  exact t_Shar_fewestReaders_l7 C hL h
  )
set_option maxRecDepth 20000 in
theorem t_Shar_isQuiet_j38 {X : CT} {w : WO} (C : CF X w (lim0 w) 4 cX6_isQuiet RX6 (some .boolean) (.code yX6_isQuiet cX6_isQuiet 4 (some .boolean)) (rmK 0 0)) {T : TXT} {z : EXa} (hL : LyX w T z) {K2 : DD → Int32 → Prop} {post : Int32 → DD → Prop} {a1 : Int32} {a2 : Int32} {t0 : Int32} (k2 : ∀ (σ : DD) (a2 : Int32), K2 σ a2 → gW X w (lim0 w) 4 (QI X w post) σ 2 [(0, .ref (wAd w 90)), (1, .int a1), (2, .int a2)] []) {σ : DD} (h : w_Shar_isQuiet_j38 T K2 post σ a1 a2 t0) : gW X w (lim0 w) 4 (QI X w post) σ 38 [(0, .ref (wAd w 90)), (1, .int a1), (2, .int a2)] [.int t0] := by
  unfold w_Shar_isQuiet_j38 at h
  refine r_istore_n C [(3, .int t0), (0, .ref (wAd w 90)), (1, .int a1), (2, .int a2)] rfl rfl (dk_at dk_Shar_isQuiet_0 24 rfl) ?_
  refine r_iload_n C 0 rfl (dk_at dk_Shar_isQuiet_0 25 rfl) ?_
  refine r_if_eq C 60 rfl (dk_at dk_Shar_isQuiet_0 26 rfl) (fun c1 => ?_) (fun c1 => ?_)
  · replace h := h.1 c1
    refine r_iinc C 3 rfl rfl [(2, .int (a2 + 1)), (3, .int t0), (0, .ref (wAd w 90)), (1, .int a1)] rfl rfl (dk_at dk_Shar_isQuiet_0 38 rfl) ?_
    refine r_goto C 2 rfl (dk_at dk_Shar_isQuiet_0 39 rfl) ?_
    refine r_lv [2, 3, 0] rfl ?_
    exact k2 _ _ h
  · replace h := h.2 c1
    refine r_aload_n C 1 rfl (dk_at dk_Shar_isQuiet_0 27 rfl) ?_
    refine r_getR C fl_Shar_15 90 (hL.1 90 _ rfl) rfl (dk_at dk_Shar_isQuiet_0 28 rfl) ?_
    refine r_iload_n C 3 rfl (dk_at dk_Shar_isQuiet_0 29 rfl) ?_
    obtain ⟨q2, h⟩ := h
    refine r_iald C 94 (hL.1 94 _ rfl) q2 (dk_at dk_Shar_isQuiet_0 30 rfl) ?_
    refine r_aload_n C 1 rfl (dk_at dk_Shar_isQuiet_0 31 rfl) ?_
    refine r_getR C fl_Shar_15 90 (hL.1 90 _ rfl) rfl (dk_at dk_Shar_isQuiet_0 32 rfl) ?_
    refine r_iload_n C 2 rfl (dk_at dk_Shar_isQuiet_0 33 rfl) ?_
    obtain ⟨q3, h⟩ := h
    refine r_iald C 94 (hL.1 94 _ rfl) q3 (dk_at dk_Shar_isQuiet_0 34 rfl) ?_
    refine r_icmp_ne C 60 rfl (dk_at dk_Shar_isQuiet_0 35 rfl) (fun c4 => ?_) (fun c4 => ?_)
    · replace h := h.1 c4
      refine r_iinc C 3 rfl rfl [(2, .int (a2 + 1)), (3, .int t0), (0, .ref (wAd w 90)), (1, .int a1)] rfl rfl (dk_at dk_Shar_isQuiet_0 38 rfl) ?_
      refine r_goto C 2 rfl (dk_at dk_Shar_isQuiet_0 39 rfl) ?_
      refine r_lv [2, 3, 0] rfl ?_
      exact k2 _ _ h
    · replace h := h.2 c4
      refine r_iconst C 0 (dk_at dk_Shar_isQuiet_0 36 rfl) ?_
      exact r_zret C (Or.inl rfl) h (dk_at dk_Shar_isQuiet_0 37 rfl)
set_option maxRecDepth 20000 in
theorem t_Shar_isQuiet_b2 {X : CT} {w : WO} (C : CF X w (lim0 w) 4 cX6_isQuiet RX6 (some .boolean) (.code yX6_isQuiet cX6_isQuiet 4 (some .boolean)) (rmK 0 0)) {T : TXT} {z : EXa} (hL : LyX w T z) {a1 : Int32} {K2 : DD → Int32 → Prop} {post : Int32 → DD → Prop} (k2 : ∀ (σ : DD) (a2 : Int32), K2 σ a2 → gW X w (lim0 w) 4 (QI X w post) σ 2 [(0, .ref (wAd w 90)), (1, .int a1), (2, .int a2)] []) {σ : DD} {a2 : Int32} (h : w_Shar_isQuiet_b2 T a1 K2 post σ a2) : gW X w (lim0 w) 4 (QI X w post) σ 2 [(0, .ref (wAd w 90)), (1, .int a1), (2, .int a2)] [] := by
  unfold w_Shar_isQuiet_b2 at h
  refine r_iload_n C 2 rfl (dk_at dk_Shar_isQuiet_0 2 rfl) ?_
  refine r_iload_n C 1 rfl (dk_at dk_Shar_isQuiet_0 3 rfl) ?_
  refine r_icmp_ge C 66 rfl (dk_at dk_Shar_isQuiet_0 4 rfl) (fun c5 => ?_) (fun c5 => ?_)
  · replace h := h.1 c5
    refine r_iconst C 1 (dk_at dk_Shar_isQuiet_1 0 rfl) ?_
    exact r_zret C (Or.inr rfl) h (dk_at dk_Shar_isQuiet_1 1 rfl)
  · replace h := h.2 c5
    refine r_aload_n C 0 rfl (dk_at dk_Shar_isQuiet_0 5 rfl) ?_
    refine r_getR C fl_Shar_24 90 (hL.1 90 _ rfl) rfl (dk_at dk_Shar_isQuiet_0 6 rfl) ?_
    refine r_getR C fl_Shar_45 200 (hL.1 200 _ rfl) rfl (dk_at dk_Shar_isQuiet_0 7 rfl) ?_
    refine r_aload_n C 0 rfl (dk_at dk_Shar_isQuiet_0 8 rfl) ?_
    refine r_getR C fl_Shar_9 90 (hL.1 90 _ rfl) rfl (dk_at dk_Shar_isQuiet_0 9 rfl) ?_
    refine r_iload_n C 1 rfl (dk_at dk_Shar_isQuiet_0 10 rfl) ?_
    obtain ⟨q6, h⟩ := h
    refine r_iald C 93 (hL.1 93 _ rfl) q6 (dk_at dk_Shar_isQuiet_0 11 rfl) ?_
    obtain ⟨q7, h⟩ := h
    refine r_iald C 203 (hL.1 203 _ rfl) q7 (dk_at dk_Shar_isQuiet_0 12 rfl) ?_
    refine r_aload_n C 0 rfl (dk_at dk_Shar_isQuiet_0 13 rfl) ?_
    refine r_getR C fl_Shar_9 90 (hL.1 90 _ rfl) rfl (dk_at dk_Shar_isQuiet_0 14 rfl) ?_
    refine r_iload_n C 2 rfl (dk_at dk_Shar_isQuiet_0 15 rfl) ?_
    obtain ⟨q8, h⟩ := h
    refine r_iald C 93 (hL.1 93 _ rfl) q8 (dk_at dk_Shar_isQuiet_0 16 rfl) ?_
    refine r_ishr C (dk_at dk_Shar_isQuiet_0 17 rfl) ?_
    refine r_iconst C 1 (dk_at dk_Shar_isQuiet_0 18 rfl) ?_
    refine r_iand C (dk_at dk_Shar_isQuiet_0 19 rfl) ?_
    refine r_if_eq C 37 rfl (dk_at dk_Shar_isQuiet_0 20 rfl) (fun c9 => ?_) (fun c9 => ?_)
    · replace h := h.1 c9
      refine r_iconst C 0 (dk_at dk_Shar_isQuiet_0 23 rfl) ?_
      refine r_lv [0, 1, 2] rfl ?_
      exact t_Shar_isQuiet_j38 C hL k2 h
    · replace h := h.2 c9
      refine r_iconst C 1 (dk_at dk_Shar_isQuiet_0 21 rfl) ?_
      refine r_goto C 38 rfl (dk_at dk_Shar_isQuiet_0 22 rfl) ?_
      refine r_lv [0, 1, 2] rfl ?_
      exact t_Shar_isQuiet_j38 C hL k2 h
set_option maxRecDepth 20000 in
theorem t_Shar_isQuiet_l2 {X : CT} {w : WO} (C : CF X w (lim0 w) 4 cX6_isQuiet RX6 (some .boolean) (.code yX6_isQuiet cX6_isQuiet 4 (some .boolean)) (rmK 0 0)) {T : TXT} {z : EXa} (hL : LyX w T z) {a1 : Int32} {post : Int32 → DD → Prop} {σ : DD} {a2 : Int32} (h : w_Shar_isQuiet_l2 T post σ a1 a2) : gW X w (lim0 w) 4 (QI X w post) σ 2 [(0, .ref (wAd w 90)), (1, .int a1), (2, .int a2)] [] :=
  LoopW (G := fun x : DD × Int32 => gW X w (lim0 w) 4 (QI X w post) x.1 2 [(0, .ref (wAd w 90)), (1, .int a1), (2, .int x.2)] []) (fun K x hK hF => t_Shar_isQuiet_b2 C hL (fun σ a2 q => hK (σ, a2) q) hF) h
set_option maxRecDepth 20000 in
theorem m_Shar_isQuiet {l : Launch} {w : WO} {T : TXT} {z : EXa} (hL : LyX w T z) {σ : DD} {a1 : Int32} {post : Int32 → DD → Prop} (h : w_Shar_isQuiet T σ a1 post) : MI l w yX6_isQuiet cX6_isQuiet 4 .boolean (rmK 0 0) σ [.ref (wAd w 90), .int a1] post :=
  met_head (rt := (some .boolean)) (by decide) rfl (fun X hX C => by
  subst hX
  unfold w_Shar_isQuiet at h
  show gW X w (lim0 w) 4 (QI X w post) σ 0 [(0, .ref (wAd w 90)), (1, .int a1)] []
  refine r_iconst C 0 (dk_at dk_Shar_isQuiet_0 0 rfl) ?_
  refine r_istore_n C [(2, .int 0), (0, .ref (wAd w 90)), (1, .int a1)] rfl rfl (dk_at dk_Shar_isQuiet_0 1 rfl) ?_
  refine r_lv [1, 2, 0] rfl ?_
  exact t_Shar_isQuiet_l2 C hL h
  )
set_option maxRecDepth 20000 in
theorem t_Shar_spreadFrom_b12 {o_spreadFrom : DD → Int32 → Int32 → (Int32 → DD → Prop) → Prop} {f0 q0 f_spreadFrom q_spreadFrom : Nat} {X : CT} {w : WO} (C : CF X w (lim0 w) 4 cX6_spreadFrom RX6 (some .boolean) (.code yX6_spreadFrom cX6_spreadFrom 4 (some .boolean)) (rmK f0 q0)) {T : TXT} {z : EXa} (hL : LyX w T z) (hr0 : 1 ≤ f0 ∧ 23 ≤ q0) (hr_spreadFrom : f_spreadFrom + 1 ≤ f0 ∧ 8 + (4 + 11) + q_spreadFrom ≤ q0) (ho_spreadFrom : ∀ (σ : DD) (a1 : Int32) (a2 : Int32) (post : Int32 → DD → Prop), o_spreadFrom σ a1 a2 post → MI X.l w yX6_spreadFrom cX6_spreadFrom 4 .boolean (rmK f_spreadFrom q_spreadFrom) σ [.ref (wAd w 90), .int a1, .int a2] post) {a1 : Int32} {a2 : Int32} {K12 : DD → Int32 → Prop} {post : Int32 → DD → Prop} (k12 : ∀ (σ : DD) (a3 : Int32), K12 σ a3 → gW X w (lim0 w) 4 (QI X w post) σ 12 [(0, .ref (wAd w 90)), (1, .int a1), (2, .int a2), (3, .int a3)] []) {σ : DD} {a3 : Int32} (h : w_Shar_spreadFrom_b12 T o_spreadFrom a1 a2 K12 post σ a3) : gW X w (lim0 w) 4 (QI X w post) σ 12 [(0, .ref (wAd w 90)), (1, .int a1), (2, .int a2), (3, .int a3)] [] := by
  unfold w_Shar_spreadFrom_b12 at h
  refine r_iload_n C 3 rfl (dk_at dk_Shar_spreadFrom_0 8 rfl) ?_
  refine r_iload_n C 2 rfl (dk_at dk_Shar_spreadFrom_0 9 rfl) ?_
  refine r_icmp_ge C 56 rfl (dk_at dk_Shar_spreadFrom_0 10 rfl) (fun c1 => ?_) (fun c1 => ?_)
  · replace h := h.1 c1
    refine r_iconst C 0 (dk_at dk_Shar_spreadFrom_0 34 rfl) ?_
    exact r_zret C (Or.inl rfl) h (dk_at dk_Shar_spreadFrom_0 35 rfl)
  · replace h := h.2 c1
    refine r_iload_n C 3 rfl (dk_at dk_Shar_spreadFrom_0 11 rfl) ?_
    refine r_iload_n C 1 rfl (dk_at dk_Shar_spreadFrom_0 12 rfl) ?_
    refine r_icmp_gt C 56 rfl (dk_at dk_Shar_spreadFrom_0 13 rfl) (fun c2 => ?_) (fun c2 => ?_)
    · replace h := h.1 c2
      refine r_iconst C 0 (dk_at dk_Shar_spreadFrom_0 34 rfl) ?_
      exact r_zret C (Or.inl rfl) h (dk_at dk_Shar_spreadFrom_0 35 rfl)
    · replace h := h.2 c2
      refine r_aload_n C 0 rfl (dk_at dk_Shar_spreadFrom_0 14 rfl) ?_
      refine r_getR C fl_Shar_15 90 (hL.1 90 _ rfl) rfl (dk_at dk_Shar_spreadFrom_0 15 rfl) ?_
      refine r_iload_n C 1 rfl (dk_at dk_Shar_spreadFrom_0 16 rfl) ?_
      refine r_iload_n C 3 rfl (dk_at dk_Shar_spreadFrom_0 17 rfl) ?_
      obtain ⟨q5, h⟩ := h
      refine r_iast C 94 (hL.1 94 _ rfl) q5 (dk_at dk_Shar_spreadFrom_0 18 rfl) (r_sg (fun σ3 e4 => ?_))
      replace h := h σ3 e4
      refine r_aload_n C 0 rfl (dk_at dk_Shar_spreadFrom_0 19 rfl) ?_
      refine r_iload_n C 1 rfl (dk_at dk_Shar_spreadFrom_0 20 rfl) ?_
      refine r_cvI C cl_Shar_87 90 (hL.1 90 _ rfl) [.int a1] (m_Shar_isQuiet hL h) (rmK_ok2 (f := f0) (q := q0) (f' := 0) (q' := 0) (by omega) (by omega)) rfl rfl (Nat.le_of_ble_eq_true rfl) (dk_at dk_Shar_spreadFrom_0 21 rfl) (fun r6 σ7 h => ?_)
      refine r_if_eq C 50 rfl (dk_at dk_Shar_spreadFrom_0 22 rfl) (fun c8 => ?_) (fun c8 => ?_)
      · replace h := h.1 c8
        refine r_iinc C 3 rfl rfl [(3, .int (a3 + 1)), (0, .ref (wAd w 90)), (1, .int a1), (2, .int a2)] rfl rfl (dk_at dk_Shar_spreadFrom_0 32 rfl) ?_
        refine r_goto C 12 rfl (dk_at dk_Shar_spreadFrom_0 33 rfl) ?_
        refine r_lv [1, 2, 3, 0] rfl ?_
        exact k12 _ _ h
      · replace h := h.2 c8
        refine r_aload_n C 0 rfl (dk_at dk_Shar_spreadFrom_0 23 rfl) ?_
        refine r_iload_n C 1 rfl (dk_at dk_Shar_spreadFrom_0 24 rfl) ?_
        refine r_iconst C 1 (dk_at dk_Shar_spreadFrom_0 25 rfl) ?_
        refine r_iadd C (dk_at dk_Shar_spreadFrom_0 26 rfl) ?_
        refine r_iload_n C 2 rfl (dk_at dk_Shar_spreadFrom_0 27 rfl) ?_
        refine r_cvI C cl_Shar_83 90 (hL.1 90 _ rfl) [.int (a1 + 1), .int a2] (ho_spreadFrom _ _ _ _ h) (rmK_ok2 hr_spreadFrom.1 hr_spreadFrom.2) rfl rfl (Nat.le_of_ble_eq_true rfl) (dk_at dk_Shar_spreadFrom_0 28 rfl) (fun r9 σ10 h => ?_)
        refine r_if_eq C 50 rfl (dk_at dk_Shar_spreadFrom_0 29 rfl) (fun c11 => ?_) (fun c11 => ?_)
        · replace h := h.1 c11
          refine r_iinc C 3 rfl rfl [(3, .int (a3 + 1)), (0, .ref (wAd w 90)), (1, .int a1), (2, .int a2)] rfl rfl (dk_at dk_Shar_spreadFrom_0 32 rfl) ?_
          refine r_goto C 12 rfl (dk_at dk_Shar_spreadFrom_0 33 rfl) ?_
          refine r_lv [1, 2, 3, 0] rfl ?_
          exact k12 _ _ h
        · replace h := h.2 c11
          refine r_iconst C 1 (dk_at dk_Shar_spreadFrom_0 30 rfl) ?_
          exact r_zret C (Or.inr rfl) h (dk_at dk_Shar_spreadFrom_0 31 rfl)
set_option maxRecDepth 20000 in
theorem t_Shar_spreadFrom_l12 {o_spreadFrom : DD → Int32 → Int32 → (Int32 → DD → Prop) → Prop} {f0 q0 f_spreadFrom q_spreadFrom : Nat} {X : CT} {w : WO} (C : CF X w (lim0 w) 4 cX6_spreadFrom RX6 (some .boolean) (.code yX6_spreadFrom cX6_spreadFrom 4 (some .boolean)) (rmK f0 q0)) {T : TXT} {z : EXa} (hL : LyX w T z) (hr0 : 1 ≤ f0 ∧ 23 ≤ q0) (hr_spreadFrom : f_spreadFrom + 1 ≤ f0 ∧ 8 + (4 + 11) + q_spreadFrom ≤ q0) (ho_spreadFrom : ∀ (σ : DD) (a1 : Int32) (a2 : Int32) (post : Int32 → DD → Prop), o_spreadFrom σ a1 a2 post → MI X.l w yX6_spreadFrom cX6_spreadFrom 4 .boolean (rmK f_spreadFrom q_spreadFrom) σ [.ref (wAd w 90), .int a1, .int a2] post) {a1 : Int32} {a2 : Int32} {post : Int32 → DD → Prop} {σ : DD} {a3 : Int32} (h : w_Shar_spreadFrom_l12 T o_spreadFrom post σ a1 a2 a3) : gW X w (lim0 w) 4 (QI X w post) σ 12 [(0, .ref (wAd w 90)), (1, .int a1), (2, .int a2), (3, .int a3)] [] :=
  LoopW (G := fun x : DD × Int32 => gW X w (lim0 w) 4 (QI X w post) x.1 12 [(0, .ref (wAd w 90)), (1, .int a1), (2, .int a2), (3, .int x.2)] []) (fun K x hK hF => t_Shar_spreadFrom_b12 C hL hr0 hr_spreadFrom ho_spreadFrom (fun σ a3 q => hK (σ, a3) q) hF) h
set_option maxRecDepth 20000 in
theorem m_Shar_spreadFrom_o {l : Launch} {w : WO} {T : TXT} {z : EXa} (hL : LyX w T z) {o_spreadFrom : DD → Int32 → Int32 → (Int32 → DD → Prop) → Prop} {f0 q0 f_spreadFrom q_spreadFrom : Nat} (hr0 : 1 ≤ f0 ∧ 23 ≤ q0) (hr_spreadFrom : f_spreadFrom + 1 ≤ f0 ∧ 8 + (4 + 11) + q_spreadFrom ≤ q0) (ho_spreadFrom : ∀ (σ : DD) (a1 : Int32) (a2 : Int32) (post : Int32 → DD → Prop), o_spreadFrom σ a1 a2 post → MI l w yX6_spreadFrom cX6_spreadFrom 4 .boolean (rmK f_spreadFrom q_spreadFrom) σ [.ref (wAd w 90), .int a1, .int a2] post) {σ : DD} {a1 : Int32} {a2 : Int32} {post : Int32 → DD → Prop} (h : w_Shar_spreadFrom_o T o_spreadFrom σ a1 a2 post) : MI l w yX6_spreadFrom cX6_spreadFrom 4 .boolean (rmK f0 q0) σ [.ref (wAd w 90), .int a1, .int a2] post :=
  met_head (rt := (some .boolean)) (by decide) rfl (fun X hX C => by
  subst hX
  unfold w_Shar_spreadFrom_o at h
  show gW X w (lim0 w) 4 (QI X w post) σ 0 [(0, .ref (wAd w 90)), (1, .int a1), (2, .int a2)] []
  refine r_iload_n C 1 rfl (dk_at dk_Shar_spreadFrom_0 0 rfl) ?_
  refine r_aload_n C 0 rfl (dk_at dk_Shar_spreadFrom_0 1 rfl) ?_
  refine r_getI C fl_Shar_32 90 (hL.1 90 _ rfl) rfl (dk_at dk_Shar_spreadFrom_0 2 rfl) ?_
  refine r_icmp_lt C 10 rfl (dk_at dk_Shar_spreadFrom_0 3 rfl) (fun c12 => ?_) (fun c12 => ?_)
  · replace h := h.1 c12
    refine r_iconst C 0 (dk_at dk_Shar_spreadFrom_0 6 rfl) ?_
    refine r_istore_n C [(3, .int 0), (0, .ref (wAd w 90)), (1, .int a1), (2, .int a2)] rfl rfl (dk_at dk_Shar_spreadFrom_0 7 rfl) ?_
    refine r_lv [1, 2, 3, 0] rfl ?_
    exact t_Shar_spreadFrom_l12 C hL hr0 hr_spreadFrom ho_spreadFrom h
  · replace h := h.2 c12
    refine r_iconst C 1 (dk_at dk_Shar_spreadFrom_0 4 rfl) ?_
    exact r_zret C (Or.inr rfl) h (dk_at dk_Shar_spreadFrom_0 5 rfl)
  )
set_option maxRecDepth 20000 in
theorem m_Shar_spreadFrom_d {l : Launch} {w : WO} {T : TXT} {z : EXa} (hL : LyX w T z) : ∀ d : Nat, ∀ (σ : DD) (a1 : Int32) (a2 : Int32) (post : Int32 → DD → Prop), w_Shar_spreadFrom_d T d σ a1 a2 post → MI l w yX6_spreadFrom cX6_spreadFrom 4 .boolean (rmK (1 + 1 * d) (23 + 23 * d)) σ [.ref (wAd w 90), .int a1, .int a2] post := by
  intro d
  induction d with
  | zero => exact fun _ _ _ _ h => h.elim
  | succ n ih =>
    rw [show 1 + 1 * (n + 1) = 1 + 1 * n + 1 by omega, show 23 + 23 * (n + 1) = 23 + 23 * n + 23 by omega]
    exact (fun _ _ _ _ h => m_Shar_spreadFrom_o hL (f0 := 1 + 1 * n + 1) (q0 := 23 + 23 * n + 23) (f_spreadFrom := 1 + 1 * n + 0) (q_spreadFrom := 23 + 23 * n + 0) (by omega) (by omega) ih h)
set_option maxRecDepth 20000 in
theorem m_Shar_spreadFrom {l : Launch} {w : WO} {T : TXT} {z : EXa} (hL : LyX w T z) {σ : DD} {a1 : Int32} {a2 : Int32} {post : Int32 → DD → Prop} (h : w_Shar_spreadFrom T σ a1 a2 post) : MI l w yX6_spreadFrom cX6_spreadFrom 4 .boolean (rmK 13 299) σ [.ref (wAd w 90), .int a1, .int a2] post :=
  m_Shar_spreadFrom_d hL 12 _ _ _ _ h
set_option maxRecDepth 20000 in
theorem t_Shar_fewestDays_b7 {X : CT} {w : WO} (C : CF X w (lim0 w) 3 cX6_fewestDays RX6 (some .int) (.code yX6_fewestDays cX6_fewestDays 3 (some .int)) (rmK 14 322)) {T : TXT} {z : EXa} (hL : LyX w T z) {K7 : DD → Int32 → Prop} {post : Int32 → DD → Prop} (k7 : ∀ (σ : DD) (a2 : Int32), K7 σ a2 → gW X w (lim0 w) 3 (QI X w post) σ 7 [(0, .ref (wAd w 90)), (2, .int a2)] []) {σ : DD} {a2 : Int32} (h : w_Shar_fewestDays_b7 T K7 post σ a2) : gW X w (lim0 w) 3 (QI X w post) σ 7 [(0, .ref (wAd w 90)), (2, .int a2)] [] := by
  unfold w_Shar_fewestDays_b7 at h
  refine r_iload_n C 1 rfl (dk_at dk_Shar_fewestDays_0 5 rfl) ?_
  refine r_aload_n C 0 rfl (dk_at dk_Shar_fewestDays_0 6 rfl) ?_
  refine r_getI C fl_Shar_32 90 (hL.1 90 _ rfl) rfl (dk_at dk_Shar_fewestDays_0 7 rfl) ?_
  refine r_icmp_ge C 32 rfl (dk_at dk_Shar_fewestDays_0 8 rfl) (fun c1 => ?_) (fun c1 => ?_)
  · replace h := h.1 c1
    refine r_aload_n C 0 rfl (dk_at dk_Shar_fewestDays_0 18 rfl) ?_
    refine r_iconst C 0 (dk_at dk_Shar_fewestDays_0 19 rfl) ?_
    refine r_aload_n C 0 rfl (dk_at dk_Shar_fewestDays_0 20 rfl) ?_
    refine r_getI C fl_Shar_32 90 (hL.1 90 _ rfl) rfl (dk_at dk_Shar_fewestDays_0 21 rfl) ?_
    refine r_cvI C cl_Shar_83 90 (hL.1 90 _ rfl) [.int 0, .int (gI σ 90 6)] (m_Shar_spreadFrom hL h) (rmK_ok rfl rfl) rfl rfl (Nat.le_of_ble_eq_true rfl) (dk_at dk_Shar_fewestDays_0 22 rfl) (fun r2 σ3 h => ?_)
    refine r_pop C rfl (dk_at dk_Shar_fewestDays_0 23 rfl) ?_
    refine r_aload_n C 0 rfl (dk_at dk_Shar_fewestDays_0 24 rfl) ?_
    refine r_getI C fl_Shar_32 90 (hL.1 90 _ rfl) rfl (dk_at dk_Shar_fewestDays_0 25 rfl) ?_
    exact r_iret C h (dk_at dk_Shar_fewestDays_0 26 rfl)
  · replace h := h.2 c1
    refine r_aload_n C 0 rfl (dk_at dk_Shar_fewestDays_0 9 rfl) ?_
    refine r_iconst C 0 (dk_at dk_Shar_fewestDays_0 10 rfl) ?_
    refine r_iload_n C 1 rfl (dk_at dk_Shar_fewestDays_0 11 rfl) ?_
    refine r_cvI C cl_Shar_83 90 (hL.1 90 _ rfl) [.int 0, .int a2] (m_Shar_spreadFrom hL h) (rmK_ok rfl rfl) rfl rfl (Nat.le_of_ble_eq_true rfl) (dk_at dk_Shar_fewestDays_0 12 rfl) (fun r4 σ5 h => ?_)
    refine r_if_eq C 26 rfl (dk_at dk_Shar_fewestDays_0 13 rfl) (fun c6 => ?_) (fun c6 => ?_)
    · replace h := h.1 c6
      refine r_iinc C 1 rfl rfl [(2, .int (a2 + 1)), (0, .ref (wAd w 90))] rfl rfl (dk_at dk_Shar_fewestDays_0 16 rfl) ?_
      refine r_goto C 7 rfl (dk_at dk_Shar_fewestDays_0 17 rfl) ?_
      refine r_lv [1, 0] rfl ?_
      exact k7 _ _ h
    · replace h := h.2 c6
      refine r_iload_n C 1 rfl (dk_at dk_Shar_fewestDays_0 14 rfl) ?_
      exact r_iret C h (dk_at dk_Shar_fewestDays_0 15 rfl)
set_option maxRecDepth 20000 in
theorem t_Shar_fewestDays_l7 {X : CT} {w : WO} (C : CF X w (lim0 w) 3 cX6_fewestDays RX6 (some .int) (.code yX6_fewestDays cX6_fewestDays 3 (some .int)) (rmK 14 322)) {T : TXT} {z : EXa} (hL : LyX w T z) {post : Int32 → DD → Prop} {σ : DD} {a2 : Int32} (h : w_Shar_fewestDays_l7 T post σ a2) : gW X w (lim0 w) 3 (QI X w post) σ 7 [(0, .ref (wAd w 90)), (2, .int a2)] [] :=
  LoopW (G := fun x : DD × Int32 => gW X w (lim0 w) 3 (QI X w post) x.1 7 [(0, .ref (wAd w 90)), (2, .int x.2)] []) (fun K x hK hF => t_Shar_fewestDays_b7 C hL (fun σ a2 q => hK (σ, a2) q) hF) h
set_option maxRecDepth 20000 in
theorem m_Shar_fewestDays {l : Launch} {w : WO} {T : TXT} {z : EXa} (hL : LyX w T z) {σ : DD} {a1 : Int32} {post : Int32 → DD → Prop} (h : w_Shar_fewestDays T σ a1 post) : MI l w yX6_fewestDays cX6_fewestDays 3 .int (rmK 14 322) σ [.ref (wAd w 90), .int a1] post :=
  met_head (rt := (some .int)) (by decide) rfl (fun X hX C => by
  subst hX
  unfold w_Shar_fewestDays at h
  show gW X w (lim0 w) 3 (QI X w post) σ 0 [(0, .ref (wAd w 90)), (1, .int a1)] []
  refine r_aload_n C 0 rfl (dk_at dk_Shar_fewestDays_0 0 rfl) ?_
  refine r_iload_n C 1 rfl (dk_at dk_Shar_fewestDays_0 1 rfl) ?_
  refine r_cvV C cl_Shar_41 90 (hL.1 90 _ rfl) [.int a1] (m_Shar_list hL h) (rmK_ok rfl rfl) rfl rfl (Nat.le_of_ble_eq_true rfl) (dk_at dk_Shar_fewestDays_0 2 rfl) (fun σ8 h => ?_)
  refine r_iconst C 1 (dk_at dk_Shar_fewestDays_0 3 rfl) ?_
  refine r_istore_n C [(2, .int 1), (0, .ref (wAd w 90)), (1, .int a1)] rfl rfl (dk_at dk_Shar_fewestDays_0 4 rfl) ?_
  refine r_lv [1, 0] rfl ?_
  exact t_Shar_fewestDays_l7 C hL h
  )
set_option maxRecDepth 20000 in
theorem t_Shar_isSpeakable_b15 {X : CT} {w : WO} (C : CF X w (lim0 w) 4 cX6_isSpeakable RX6 (some .boolean) (.code yX6_isSpeakable cX6_isSpeakable 4 (some .boolean)) (rmK 3 97)) {T : TXT} {z : EXa} (hL : LyX w T z) {K2 : DD → Int32 → Prop} {a1 : Int32} {a2 : Int32} {K15 : DD → Int32 → Prop} {post : Int32 → DD → Prop} (k2 : ∀ (σ : DD) (a2 : Int32), K2 σ a2 → gW X w (lim0 w) 4 (QI X w post) σ 2 [(0, .ref (wAd w 90)), (1, .int a1), (2, .int a2)] []) (k15 : ∀ (σ : DD) (a3 : Int32), K15 σ a3 → gW X w (lim0 w) 4 (QI X w post) σ 15 [(0, .ref (wAd w 90)), (1, .int a1), (2, .int a2), (3, .int a3)] []) {σ : DD} {a3 : Int32} (h : w_Shar_isSpeakable_b15 T K2 a1 a2 K15 post σ a3) : gW X w (lim0 w) 4 (QI X w post) σ 15 [(0, .ref (wAd w 90)), (1, .int a1), (2, .int a2), (3, .int a3)] [] := by
  unfold w_Shar_isSpeakable_b15 at h
  refine r_iload_n C 3 rfl (dk_at dk_Shar_isSpeakable_0 9 rfl) ?_
  refine r_bipush C 7 (dk_at dk_Shar_isSpeakable_0 10 rfl) ?_
  refine r_icmp_ge C 42 rfl (dk_at dk_Shar_isSpeakable_0 11 rfl) (fun c1 => ?_) (fun c1 => ?_)
  · replace h := h.1 c1
    refine r_iinc C 2 rfl rfl [(2, .int (a2 + 1)), (0, .ref (wAd w 90)), (1, .int a1), (3, .int a3)] rfl rfl (dk_at dk_Shar_isSpeakable_0 23 rfl) ?_
    refine r_goto C 2 rfl (dk_at dk_Shar_isSpeakable_0 24 rfl) ?_
    refine r_lv [1, 2, 0] rfl ?_
    exact k2 _ _ h
  · replace h := h.2 c1
    refine r_aload_n C 0 rfl (dk_at dk_Shar_isSpeakable_0 12 rfl) ?_
    refine r_getR C fl_Shar_28 90 (hL.1 90 _ rfl) rfl (dk_at dk_Shar_isSpeakable_0 13 rfl) ?_
    refine r_iload_n C 1 rfl (dk_at dk_Shar_isSpeakable_0 14 rfl) ?_
    refine r_iload_n C 2 rfl (dk_at dk_Shar_isSpeakable_0 15 rfl) ?_
    refine r_iload_n C 3 rfl (dk_at dk_Shar_isSpeakable_0 16 rfl) ?_
    refine r_cvI C cl_Shar_100 50 (hL.1 50 _ rfl) [.int a1, .int a2, .int a3] (m_Court_canAlone hL h) (rmK_ok rfl rfl) rfl rfl (Nat.le_of_ble_eq_true rfl) (dk_at dk_Shar_isSpeakable_0 17 rfl) (fun r2 σ3 h => ?_)
    refine r_if_eq C 36 rfl (dk_at dk_Shar_isSpeakable_0 18 rfl) (fun c4 => ?_) (fun c4 => ?_)
    · replace h := h.1 c4
      refine r_iinc C 3 rfl rfl [(3, .int (a3 + 1)), (0, .ref (wAd w 90)), (1, .int a1), (2, .int a2)] rfl rfl (dk_at dk_Shar_isSpeakable_0 21 rfl) ?_
      refine r_goto C 15 rfl (dk_at dk_Shar_isSpeakable_0 22 rfl) ?_
      refine r_lv [1, 2, 3, 0] rfl ?_
      exact k15 _ _ h
    · replace h := h.2 c4
      refine r_iconst C 1 (dk_at dk_Shar_isSpeakable_0 19 rfl) ?_
      exact r_zret C (Or.inr rfl) h (dk_at dk_Shar_isSpeakable_0 20 rfl)
set_option maxRecDepth 20000 in
theorem t_Shar_isSpeakable_l15 {X : CT} {w : WO} (C : CF X w (lim0 w) 4 cX6_isSpeakable RX6 (some .boolean) (.code yX6_isSpeakable cX6_isSpeakable 4 (some .boolean)) (rmK 3 97)) {T : TXT} {z : EXa} (hL : LyX w T z) {K2 : DD → Int32 → Prop} {a1 : Int32} {a2 : Int32} {post : Int32 → DD → Prop} (k2 : ∀ (σ : DD) (a2 : Int32), K2 σ a2 → gW X w (lim0 w) 4 (QI X w post) σ 2 [(0, .ref (wAd w 90)), (1, .int a1), (2, .int a2)] []) {σ : DD} {a3 : Int32} (h : w_Shar_isSpeakable_l15 T K2 post σ a1 a2 a3) : gW X w (lim0 w) 4 (QI X w post) σ 15 [(0, .ref (wAd w 90)), (1, .int a1), (2, .int a2), (3, .int a3)] [] :=
  LoopW (G := fun x : DD × Int32 => gW X w (lim0 w) 4 (QI X w post) x.1 15 [(0, .ref (wAd w 90)), (1, .int a1), (2, .int a2), (3, .int x.2)] []) (fun K x hK hF => t_Shar_isSpeakable_b15 C hL k2 (fun σ a3 q => hK (σ, a3) q) hF) h
set_option maxRecDepth 20000 in
theorem t_Shar_isSpeakable_b2 {X : CT} {w : WO} (C : CF X w (lim0 w) 4 cX6_isSpeakable RX6 (some .boolean) (.code yX6_isSpeakable cX6_isSpeakable 4 (some .boolean)) (rmK 3 97)) {T : TXT} {z : EXa} (hL : LyX w T z) {a1 : Int32} {K2 : DD → Int32 → Prop} {post : Int32 → DD → Prop} (k2 : ∀ (σ : DD) (a2 : Int32), K2 σ a2 → gW X w (lim0 w) 4 (QI X w post) σ 2 [(0, .ref (wAd w 90)), (1, .int a1), (2, .int a2)] []) {σ : DD} {a2 : Int32} (h : w_Shar_isSpeakable_b2 T a1 K2 post σ a2) : gW X w (lim0 w) 4 (QI X w post) σ 2 [(0, .ref (wAd w 90)), (1, .int a1), (2, .int a2)] [] := by
  unfold w_Shar_isSpeakable_b2 at h
  refine r_iload_n C 2 rfl (dk_at dk_Shar_isSpeakable_0 2 rfl) ?_
  refine r_aload_n C 0 rfl (dk_at dk_Shar_isSpeakable_0 3 rfl) ?_
  refine r_getR C fl_Shar_24 90 (hL.1 90 _ rfl) rfl (dk_at dk_Shar_isSpeakable_0 4 rfl) ?_
  refine r_getI C fl_Shar_52 200 (hL.1 200 _ rfl) rfl (dk_at dk_Shar_isSpeakable_0 5 rfl) ?_
  refine r_icmp_ge C 48 rfl (dk_at dk_Shar_isSpeakable_0 6 rfl) (fun c5 => ?_) (fun c5 => ?_)
  · replace h := h.1 c5
    refine r_iconst C 0 (dk_at dk_Shar_isSpeakable_0 25 rfl) ?_
    exact r_zret C (Or.inl rfl) h (dk_at dk_Shar_isSpeakable_0 26 rfl)
  · replace h := h.2 c5
    refine r_iconst C 0 (dk_at dk_Shar_isSpeakable_0 7 rfl) ?_
    refine r_istore_n C [(3, .int 0), (0, .ref (wAd w 90)), (1, .int a1), (2, .int a2)] rfl rfl (dk_at dk_Shar_isSpeakable_0 8 rfl) ?_
    refine r_lv [1, 2, 3, 0] rfl ?_
    exact t_Shar_isSpeakable_l15 C hL k2 h
set_option maxRecDepth 20000 in
theorem t_Shar_isSpeakable_l2 {X : CT} {w : WO} (C : CF X w (lim0 w) 4 cX6_isSpeakable RX6 (some .boolean) (.code yX6_isSpeakable cX6_isSpeakable 4 (some .boolean)) (rmK 3 97)) {T : TXT} {z : EXa} (hL : LyX w T z) {a1 : Int32} {post : Int32 → DD → Prop} {σ : DD} {a2 : Int32} (h : w_Shar_isSpeakable_l2 T post σ a1 a2) : gW X w (lim0 w) 4 (QI X w post) σ 2 [(0, .ref (wAd w 90)), (1, .int a1), (2, .int a2)] [] :=
  LoopW (G := fun x : DD × Int32 => gW X w (lim0 w) 4 (QI X w post) x.1 2 [(0, .ref (wAd w 90)), (1, .int a1), (2, .int x.2)] []) (fun K x hK hF => t_Shar_isSpeakable_b2 C hL (fun σ a2 q => hK (σ, a2) q) hF) h
set_option maxRecDepth 20000 in
theorem m_Shar_isSpeakable {l : Launch} {w : WO} {T : TXT} {z : EXa} (hL : LyX w T z) {σ : DD} {a1 : Int32} {post : Int32 → DD → Prop} (h : w_Shar_isSpeakable T σ a1 post) : MI l w yX6_isSpeakable cX6_isSpeakable 4 .boolean (rmK 3 97) σ [.ref (wAd w 90), .int a1] post :=
  met_head (rt := (some .boolean)) (by decide) rfl (fun X hX C => by
  subst hX
  unfold w_Shar_isSpeakable at h
  show gW X w (lim0 w) 4 (QI X w post) σ 0 [(0, .ref (wAd w 90)), (1, .int a1)] []
  refine r_iconst C 0 (dk_at dk_Shar_isSpeakable_0 0 rfl) ?_
  refine r_istore_n C [(2, .int 0), (0, .ref (wAd w 90)), (1, .int a1)] rfl rfl (dk_at dk_Shar_isSpeakable_0 1 rfl) ?_
  refine r_lv [1, 2, 0] rfl ?_
  exact t_Shar_isSpeakable_l2 C hL h
  )
set_option maxRecDepth 20000 in
theorem t_Shar_deadBits_j116 {X : CT} {w : WO} (C : CF X w (lim0 w) 6 cX6_deadBits RX6 (some .int) (.code yX6_deadBits cX6_deadBits 6 (some .int)) (rmK 4 120)) {T : TXT} {z : EXa} (hL : LyX w T z) {K54 : DD → Int32 → Int32 → Prop} {K68 : DD → Int32 → Int32 → Prop} {post : Int32 → DD → Prop} {a1 : Int32} {a2 : Int32} {a3 : Int32} {a4 : Int32} (k54 : ∀ (σ : DD) (a2 : Int32) (a3 : Int32), K54 σ a2 a3 → gW X w (lim0 w) 6 (QI X w post) σ 54 [(0, .ref (wAd w 90)), (1, .int a1), (2, .int a2), (3, .int a3)] []) (k68 : ∀ (σ : DD) (a2 : Int32) (a4 : Int32), K68 σ a2 a4 → gW X w (lim0 w) 6 (QI X w post) σ 68 [(0, .ref (wAd w 90)), (1, .int a1), (2, .int a2), (3, .int a3), (4, .int a4)] []) {σ : DD} (h : w_Shar_deadBits_j116 T K54 K68 post σ a1 a2 a3 a4) : gW X w (lim0 w) 6 (QI X w post) σ 116 [(0, .ref (wAd w 90)), (1, .int a1), (2, .int a2), (3, .int a3), (4, .int a4)] [] := by
  unfold w_Shar_deadBits_j116 at h
  refine r_iload_n C 2 rfl (dk_at dk_Shar_deadBits_1 25 rfl) ?_
  refine r_iconst C 1 (dk_at dk_Shar_deadBits_1 26 rfl) ?_
  refine r_iload C 4 rfl (dk_at dk_Shar_deadBits_1 27 rfl) ?_
  refine r_ishl C (dk_at dk_Shar_deadBits_1 28 rfl) ?_
  refine r_ior C (dk_at dk_Shar_deadBits_1 29 rfl) ?_
  refine r_topi (fun v1 e2 => ?_)
  replace h := h v1 e2
  refine r_istore_n C [(2, .int v1), (0, .ref (wAd w 90)), (1, .int a1), (3, .int a3), (4, .int a4)] rfl rfl (dk_at dk_Shar_deadBits_1 30 rfl) ?_
  refine r_iinc C 4 rfl rfl [(4, .int (a4 + 1)), (2, .int v1), (0, .ref (wAd w 90)), (1, .int a1), (3, .int a3)] rfl rfl (dk_at dk_Shar_deadBits_1 31 rfl) ?_
  refine r_goto C 68 rfl (dk_at dk_Shar_deadBits_1 32 rfl) ?_
  refine r_lv [2, 3, 1, 4, 0] rfl ?_
  exact k68 _ _ _ h
set_option maxRecDepth 20000 in
theorem t_Shar_deadBits_b68 {X : CT} {w : WO} (C : CF X w (lim0 w) 6 cX6_deadBits RX6 (some .int) (.code yX6_deadBits cX6_deadBits 6 (some .int)) (rmK 4 120)) {T : TXT} {z : EXa} (hL : LyX w T z) {K54 : DD → Int32 → Int32 → Prop} {a1 : Int32} {a3 : Int32} {K68 : DD → Int32 → Int32 → Prop} {post : Int32 → DD → Prop} (k54 : ∀ (σ : DD) (a2 : Int32) (a3 : Int32), K54 σ a2 a3 → gW X w (lim0 w) 6 (QI X w post) σ 54 [(0, .ref (wAd w 90)), (1, .int a1), (2, .int a2), (3, .int a3)] []) (k68 : ∀ (σ : DD) (a2 : Int32) (a4 : Int32), K68 σ a2 a4 → gW X w (lim0 w) 6 (QI X w post) σ 68 [(0, .ref (wAd w 90)), (1, .int a1), (2, .int a2), (3, .int a3), (4, .int a4)] []) {σ : DD} {a2 : Int32} {a4 : Int32} (h : w_Shar_deadBits_b68 T K54 a1 a3 K68 post σ a2 a4) : gW X w (lim0 w) 6 (QI X w post) σ 68 [(0, .ref (wAd w 90)), (1, .int a1), (2, .int a2), (3, .int a3), (4, .int a4)] [] := by
  unfold w_Shar_deadBits_b68 at h
  refine r_iload C 4 rfl (dk_at dk_Shar_deadBits_0 39 rfl) ?_
  refine r_aload_n C 0 rfl (dk_at dk_Shar_deadBits_1 0 rfl) ?_
  refine r_getR C fl_Shar_24 90 (hL.1 90 _ rfl) rfl (dk_at dk_Shar_deadBits_1 1 rfl) ?_
  refine r_getI C fl_Shar_36 200 (hL.1 200 _ rfl) rfl (dk_at dk_Shar_deadBits_1 2 rfl) ?_
  refine r_icmp_ge C 129 rfl (dk_at dk_Shar_deadBits_1 3 rfl) (fun c3 => ?_) (fun c3 => ?_)
  · replace h := h.1 c3
    refine r_iinc C 3 rfl rfl [(3, .int (a3 + 1)), (0, .ref (wAd w 90)), (1, .int a1), (2, .int a2), (4, .int a4)] rfl rfl (dk_at dk_Shar_deadBits_1 33 rfl) ?_
    refine r_goto C 54 rfl (dk_at dk_Shar_deadBits_1 34 rfl) ?_
    refine r_lv [1, 2, 3, 0] rfl ?_
    exact k54 _ _ _ h
  · replace h := h.2 c3
    refine r_aload_n C 0 rfl (dk_at dk_Shar_deadBits_1 4 rfl) ?_
    refine r_getR C fl_Shar_24 90 (hL.1 90 _ rfl) rfl (dk_at dk_Shar_deadBits_1 5 rfl) ?_
    refine r_iload C 4 rfl (dk_at dk_Shar_deadBits_1 6 rfl) ?_
    refine r_iconst C 3 (dk_at dk_Shar_deadBits_1 7 rfl) ?_
    refine r_cvI C cl_Shar_96 200 (hL.1 200 _ rfl) [.int a4, .int 3] (m_Real_trait hL h) (rmK_ok rfl rfl) rfl rfl (Nat.le_of_ble_eq_true rfl) (dk_at dk_Shar_deadBits_1 8 rfl) (fun r4 σ5 h => ?_)
    refine r_istore C [(5, .int r4), (0, .ref (wAd w 90)), (1, .int a1), (2, .int a2), (3, .int a3), (4, .int a4)] rfl rfl (dk_at dk_Shar_deadBits_1 9 rfl) ?_
    refine r_iload_n C 2 rfl (dk_at dk_Shar_deadBits_1 10 rfl) ?_
    refine r_iload C 5 rfl (dk_at dk_Shar_deadBits_1 11 rfl) ?_
    refine r_ishr C (dk_at dk_Shar_deadBits_1 12 rfl) ?_
    refine r_iconst C 1 (dk_at dk_Shar_deadBits_1 13 rfl) ?_
    refine r_iand C (dk_at dk_Shar_deadBits_1 14 rfl) ?_
    refine r_if_eq C 123 rfl (dk_at dk_Shar_deadBits_1 15 rfl) (fun c6 => ?_) (fun c6 => ?_)
    · replace h := h.1 c6
      refine r_iinc C 5 rfl rfl [(4, .int (a4 + 1)), (5, .int r4), (0, .ref (wAd w 90)), (1, .int a1), (2, .int a2), (3, .int a3)] rfl rfl (dk_at dk_Shar_deadBits_1 31 rfl) ?_
      refine r_goto C 68 rfl (dk_at dk_Shar_deadBits_1 32 rfl) ?_
      refine r_lv [2, 3, 4, 5, 0] rfl ?_
      exact k68 _ _ _ h
    · replace h := h.2 c6
      refine r_iload C 0 rfl (dk_at dk_Shar_deadBits_1 16 rfl) ?_
      refine r_iconst C (-1) (dk_at dk_Shar_deadBits_1 17 rfl) ?_
      refine r_icmp_eq C 116 rfl (dk_at dk_Shar_deadBits_1 18 rfl) (fun c7 => ?_) (fun c7 => ?_)
      · replace h := h.1 c7
        refine r_lv [1, 2, 3, 4, 5] rfl ?_
        exact t_Shar_deadBits_j116 C hL k54 k68 h
      · replace h := h.2 c7
        refine r_iload_n C 3 rfl (dk_at dk_Shar_deadBits_1 19 rfl) ?_
        refine r_iload C 0 rfl (dk_at dk_Shar_deadBits_1 20 rfl) ?_
        refine r_ishr C (dk_at dk_Shar_deadBits_1 21 rfl) ?_
        refine r_iconst C 1 (dk_at dk_Shar_deadBits_1 22 rfl) ?_
        refine r_iand C (dk_at dk_Shar_deadBits_1 23 rfl) ?_
        refine r_if_eq C 123 rfl (dk_at dk_Shar_deadBits_1 24 rfl) (fun c8 => ?_) (fun c8 => ?_)
        · replace h := h.1 c8
          refine r_iinc C 5 rfl rfl [(4, .int (a4 + 1)), (5, .int r4), (0, .ref (wAd w 90)), (1, .int a1), (2, .int a2), (3, .int a3)] rfl rfl (dk_at dk_Shar_deadBits_1 31 rfl) ?_
          refine r_goto C 68 rfl (dk_at dk_Shar_deadBits_1 32 rfl) ?_
          refine r_lv [2, 3, 4, 5, 0] rfl ?_
          exact k68 _ _ _ h
        · replace h := h.2 c8
          refine r_lv [1, 2, 3, 4, 5] rfl ?_
          exact t_Shar_deadBits_j116 C hL k54 k68 h
set_option maxRecDepth 20000 in
theorem t_Shar_deadBits_l68 {X : CT} {w : WO} (C : CF X w (lim0 w) 6 cX6_deadBits RX6 (some .int) (.code yX6_deadBits cX6_deadBits 6 (some .int)) (rmK 4 120)) {T : TXT} {z : EXa} (hL : LyX w T z) {K54 : DD → Int32 → Int32 → Prop} {a1 : Int32} {a3 : Int32} {post : Int32 → DD → Prop} (k54 : ∀ (σ : DD) (a2 : Int32) (a3 : Int32), K54 σ a2 a3 → gW X w (lim0 w) 6 (QI X w post) σ 54 [(0, .ref (wAd w 90)), (1, .int a1), (2, .int a2), (3, .int a3)] []) {σ : DD} {a2 : Int32} {a4 : Int32} (h : w_Shar_deadBits_l68 T K54 post σ a1 a2 a3 a4) : gW X w (lim0 w) 6 (QI X w post) σ 68 [(0, .ref (wAd w 90)), (1, .int a1), (2, .int a2), (3, .int a3), (4, .int a4)] [] :=
  LoopW (G := fun x : DD × Int32 × Int32 => gW X w (lim0 w) 6 (QI X w post) x.1 68 [(0, .ref (wAd w 90)), (1, .int a1), (2, .int x.2.1), (3, .int a3), (4, .int x.2.2)] []) (fun K x hK hF => t_Shar_deadBits_b68 C hL k54 (fun σ a2 a4 q => hK (σ, a2, a4) q) hF) h
set_option maxRecDepth 20000 in
theorem t_Shar_deadBits_b54 {X : CT} {w : WO} (C : CF X w (lim0 w) 6 cX6_deadBits RX6 (some .int) (.code yX6_deadBits cX6_deadBits 6 (some .int)) (rmK 4 120)) {T : TXT} {z : EXa} (hL : LyX w T z) {a1 : Int32} {K54 : DD → Int32 → Int32 → Prop} {post : Int32 → DD → Prop} (k54 : ∀ (σ : DD) (a2 : Int32) (a3 : Int32), K54 σ a2 a3 → gW X w (lim0 w) 6 (QI X w post) σ 54 [(0, .ref (wAd w 90)), (1, .int a1), (2, .int a2), (3, .int a3)] []) {σ : DD} {a2 : Int32} {a3 : Int32} (h : w_Shar_deadBits_b54 T a1 K54 post σ a2 a3) : gW X w (lim0 w) 6 (QI X w post) σ 54 [(0, .ref (wAd w 90)), (1, .int a1), (2, .int a2), (3, .int a3)] [] := by
  unfold w_Shar_deadBits_b54 at h
  refine r_iload_n C 3 rfl (dk_at dk_Shar_deadBits_0 32 rfl) ?_
  refine r_aload_n C 0 rfl (dk_at dk_Shar_deadBits_0 33 rfl) ?_
  refine r_getR C fl_Shar_24 90 (hL.1 90 _ rfl) rfl (dk_at dk_Shar_deadBits_0 34 rfl) ?_
  refine r_getI C fl_Shar_36 200 (hL.1 200 _ rfl) rfl (dk_at dk_Shar_deadBits_0 35 rfl) ?_
  refine r_icmp_ge C 135 rfl (dk_at dk_Shar_deadBits_0 36 rfl) (fun c9 => ?_) (fun c9 => ?_)
  · replace h := h.1 c9
    refine r_iconst C 1 (dk_at dk_Shar_deadBits_1 35 rfl) ?_
    refine r_aload_n C 0 rfl (dk_at dk_Shar_deadBits_1 36 rfl) ?_
    refine r_getR C fl_Shar_24 90 (hL.1 90 _ rfl) rfl (dk_at dk_Shar_deadBits_1 37 rfl) ?_
    refine r_getI C fl_Shar_36 200 (hL.1 200 _ rfl) rfl (dk_at dk_Shar_deadBits_1 38 rfl) ?_
    refine r_ishl C (dk_at dk_Shar_deadBits_1 39 rfl) ?_
    refine r_iconst C 1 (dk_at dk_Shar_deadBits_2 0 rfl) ?_
    refine r_isub C (dk_at dk_Shar_deadBits_2 1 rfl) ?_
    refine r_iload_n C 2 rfl (dk_at dk_Shar_deadBits_2 2 rfl) ?_
    refine r_iconst C (-1) (dk_at dk_Shar_deadBits_2 3 rfl) ?_
    refine r_ixor C (dk_at dk_Shar_deadBits_2 4 rfl) ?_
    refine r_iand C (dk_at dk_Shar_deadBits_2 5 rfl) ?_
    exact r_iret C h (dk_at dk_Shar_deadBits_2 6 rfl)
  · replace h := h.2 c9
    refine r_iconst C 0 (dk_at dk_Shar_deadBits_0 37 rfl) ?_
    refine r_istore C [(4, .int 0), (0, .ref (wAd w 90)), (1, .int a1), (2, .int a2), (3, .int a3)] rfl rfl (dk_at dk_Shar_deadBits_0 38 rfl) ?_
    refine r_lv [1, 2, 3, 4, 0] rfl ?_
    exact t_Shar_deadBits_l68 C hL k54 h
set_option maxRecDepth 20000 in
theorem t_Shar_deadBits_l54 {X : CT} {w : WO} (C : CF X w (lim0 w) 6 cX6_deadBits RX6 (some .int) (.code yX6_deadBits cX6_deadBits 6 (some .int)) (rmK 4 120)) {T : TXT} {z : EXa} (hL : LyX w T z) {a1 : Int32} {post : Int32 → DD → Prop} {σ : DD} {a2 : Int32} {a3 : Int32} (h : w_Shar_deadBits_l54 T post σ a1 a2 a3) : gW X w (lim0 w) 6 (QI X w post) σ 54 [(0, .ref (wAd w 90)), (1, .int a1), (2, .int a2), (3, .int a3)] [] :=
  LoopW (G := fun x : DD × Int32 × Int32 => gW X w (lim0 w) 6 (QI X w post) x.1 54 [(0, .ref (wAd w 90)), (1, .int a1), (2, .int x.2.1), (3, .int x.2.2)] []) (fun K x hK hF => t_Shar_deadBits_b54 C hL (fun σ a2 a3 q => hK (σ, a2, a3) q) hF) h
set_option maxRecDepth 20000 in
theorem t_Shar_deadBits_b4 {X : CT} {w : WO} (C : CF X w (lim0 w) 6 cX6_deadBits RX6 (some .int) (.code yX6_deadBits cX6_deadBits 6 (some .int)) (rmK 4 120)) {T : TXT} {z : EXa} (hL : LyX w T z) {K4 : DD → Int32 → Int32 → Prop} {post : Int32 → DD → Prop} (k4 : ∀ (σ : DD) (a1 : Int32) (a2 : Int32), K4 σ a1 a2 → gW X w (lim0 w) 6 (QI X w post) σ 4 [(0, .ref (wAd w 90)), (1, .int a1), (2, .int a2)] []) {σ : DD} {a1 : Int32} {a2 : Int32} (h : w_Shar_deadBits_b4 T K4 post σ a1 a2) : gW X w (lim0 w) 6 (QI X w post) σ 4 [(0, .ref (wAd w 90)), (1, .int a1), (2, .int a2)] [] := by
  unfold w_Shar_deadBits_b4 at h
  refine r_iload_n C 2 rfl (dk_at dk_Shar_deadBits_0 4 rfl) ?_
  refine r_aload_n C 0 rfl (dk_at dk_Shar_deadBits_0 5 rfl) ?_
  refine r_getR C fl_Shar_24 90 (hL.1 90 _ rfl) rfl (dk_at dk_Shar_deadBits_0 6 rfl) ?_
  refine r_getI C fl_Shar_36 200 (hL.1 200 _ rfl) rfl (dk_at dk_Shar_deadBits_0 7 rfl) ?_
  refine r_icmp_ge C 35 rfl (dk_at dk_Shar_deadBits_0 8 rfl) (fun c10 => ?_) (fun c10 => ?_)
  · replace h := h.1 c10
    refine r_aload_n C 0 rfl (dk_at dk_Shar_deadBits_0 21 rfl) ?_
    refine r_getR C fl_Shar_28 90 (hL.1 90 _ rfl) rfl (dk_at dk_Shar_deadBits_0 22 rfl) ?_
    refine r_aload_n C 0 rfl (dk_at dk_Shar_deadBits_0 23 rfl) ?_
    refine r_getR C fl_Shar_24 90 (hL.1 90 _ rfl) rfl (dk_at dk_Shar_deadBits_0 24 rfl) ?_
    refine r_getR C fl_Shar_64 200 (hL.1 200 _ rfl) rfl (dk_at dk_Shar_deadBits_0 25 rfl) ?_
    refine r_iconst C 0 (dk_at dk_Shar_deadBits_0 26 rfl) ?_
    refine r_ialdK C 208 (hL.1 208 _ rfl) lk_0 (vk_0_4) (dk_at dk_Shar_deadBits_0 27 rfl) ?_
    refine r_cvI C cl_Shar_93 50 (hL.1 50 _ rfl) [.int (gI σ 208 0)] (m_Court_heldBits hL h) (rmK_ok rfl rfl) rfl rfl (Nat.le_of_ble_eq_true rfl) (dk_at dk_Shar_deadBits_0 28 rfl) (fun r11 σ12 h => ?_)
    refine r_istore_n C [(2, .int r11), (0, .ref (wAd w 90)), (1, .int a1)] rfl rfl (dk_at dk_Shar_deadBits_0 29 rfl) ?_
    refine r_iconst C 0 (dk_at dk_Shar_deadBits_0 30 rfl) ?_
    refine r_istore_n C [(3, .int 0), (2, .int r11), (0, .ref (wAd w 90)), (1, .int a1)] rfl rfl (dk_at dk_Shar_deadBits_0 31 rfl) ?_
    refine r_lv [2, 3, 1, 0] rfl ?_
    exact t_Shar_deadBits_l54 C hL h
  · replace h := h.2 c10
    refine r_aload_n C 0 rfl (dk_at dk_Shar_deadBits_0 9 rfl) ?_
    refine r_iload_n C 2 rfl (dk_at dk_Shar_deadBits_0 10 rfl) ?_
    refine r_cvI C cl_Shar_90 90 (hL.1 90 _ rfl) [.int a2] (m_Shar_isSpeakable hL h) (rmK_ok rfl rfl) rfl rfl (Nat.le_of_ble_eq_true rfl) (dk_at dk_Shar_deadBits_0 11 rfl) (fun r13 σ14 h => ?_)
    refine r_if_eq C 29 rfl (dk_at dk_Shar_deadBits_0 12 rfl) (fun c15 => ?_) (fun c15 => ?_)
    · replace h := h.1 c15
      refine r_iinc C 2 rfl rfl [(2, .int (a2 + 1)), (0, .ref (wAd w 90)), (1, .int a1)] rfl rfl (dk_at dk_Shar_deadBits_0 19 rfl) ?_
      refine r_goto C 4 rfl (dk_at dk_Shar_deadBits_0 20 rfl) ?_
      refine r_lv [1, 2, 0] rfl ?_
      exact k4 _ _ _ h
    · replace h := h.2 c15
      refine r_iload_n C 1 rfl (dk_at dk_Shar_deadBits_0 13 rfl) ?_
      refine r_iconst C 1 (dk_at dk_Shar_deadBits_0 14 rfl) ?_
      refine r_iload_n C 2 rfl (dk_at dk_Shar_deadBits_0 15 rfl) ?_
      refine r_ishl C (dk_at dk_Shar_deadBits_0 16 rfl) ?_
      refine r_ior C (dk_at dk_Shar_deadBits_0 17 rfl) ?_
      refine r_topi (fun v16 e17 => ?_)
      replace h := h v16 e17
      refine r_istore_n C [(1, .int v16), (0, .ref (wAd w 90)), (2, .int a2)] rfl rfl (dk_at dk_Shar_deadBits_0 18 rfl) ?_
      refine r_iinc C 2 rfl rfl [(2, .int (a2 + 1)), (1, .int v16), (0, .ref (wAd w 90))] rfl rfl (dk_at dk_Shar_deadBits_0 19 rfl) ?_
      refine r_goto C 4 rfl (dk_at dk_Shar_deadBits_0 20 rfl) ?_
      refine r_lv [2, 1, 0] rfl ?_
      exact k4 _ _ _ h
set_option maxRecDepth 20000 in
theorem t_Shar_deadBits_l4 {X : CT} {w : WO} (C : CF X w (lim0 w) 6 cX6_deadBits RX6 (some .int) (.code yX6_deadBits cX6_deadBits 6 (some .int)) (rmK 4 120)) {T : TXT} {z : EXa} (hL : LyX w T z) {post : Int32 → DD → Prop} {σ : DD} {a1 : Int32} {a2 : Int32} (h : w_Shar_deadBits_l4 T post σ a1 a2) : gW X w (lim0 w) 6 (QI X w post) σ 4 [(0, .ref (wAd w 90)), (1, .int a1), (2, .int a2)] [] :=
  LoopW (G := fun x : DD × Int32 × Int32 => gW X w (lim0 w) 6 (QI X w post) x.1 4 [(0, .ref (wAd w 90)), (1, .int x.2.1), (2, .int x.2.2)] []) (fun K x hK hF => t_Shar_deadBits_b4 C hL (fun σ a1 a2 q => hK (σ, a1, a2) q) hF) h
set_option maxRecDepth 20000 in
theorem m_Shar_deadBits {l : Launch} {w : WO} {T : TXT} {z : EXa} (hL : LyX w T z) {σ : DD} {post : Int32 → DD → Prop} (h : w_Shar_deadBits T σ post) : MI l w yX6_deadBits cX6_deadBits 6 .int (rmK 4 120) σ [.ref (wAd w 90)] post :=
  met_head (rt := (some .int)) (by decide) rfl (fun X hX C => by
  subst hX
  unfold w_Shar_deadBits at h
  show gW X w (lim0 w) 6 (QI X w post) σ 0 [(0, .ref (wAd w 90))] []
  refine r_iconst C 0 (dk_at dk_Shar_deadBits_0 0 rfl) ?_
  refine r_istore_n C [(1, .int 0), (0, .ref (wAd w 90))] rfl rfl (dk_at dk_Shar_deadBits_0 1 rfl) ?_
  refine r_iconst C 0 (dk_at dk_Shar_deadBits_0 2 rfl) ?_
  refine r_istore_n C [(2, .int 0), (1, .int 0), (0, .ref (wAd w 90))] rfl rfl (dk_at dk_Shar_deadBits_0 3 rfl) ?_
  refine r_lv [2, 1, 0] rfl ?_
  exact t_Shar_deadBits_l4 C hL h
  )
set_option maxRecDepth 20000 in
theorem t_Tape_add_b3 {X : CT} {w : WO} (C : CF X w (lim0 w) 3 cX7_add RX7 none (.code yX7_add cX7_add 3 none) (rmK 0 0)) {T : TXT} {z : EXa} (hL : LyX w T z) {a1 : Int32} {K3 : DD → Int32 → Prop} {post : DD → Prop} (k3 : ∀ (σ : DD) (a2 : Int32), K3 σ a2 → gW X w (lim0 w) 3 (QV X w post) σ 3 [(0, .ref (wAd w 20)), (1, .int a1), (2, .int a2)] []) {σ : DD} {a2 : Int32} (h : w_Tape_add_b3 T a1 K3 post σ a2) : gW X w (lim0 w) 3 (QV X w post) σ 3 [(0, .ref (wAd w 20)), (1, .int a1), (2, .int a2)] [] := by
  unfold w_Tape_add_b3 at h
  refine r_iload_n C 2 rfl (dk_at dk_Tape_add_0 2 rfl) ?_
  refine r_if_lt C 49 rfl (dk_at dk_Tape_add_0 3 rfl) (fun c1 => ?_) (fun c1 => ?_)
  · replace h := h.1 c1
    exact r_vret C h (dk_at dk_Tape_add_0 26 rfl)
  · replace h := h.2 c1
    refine r_aload_n C 0 rfl (dk_at dk_Tape_add_0 4 rfl) ?_
    refine r_getI C fl_Tape_15 20 (hL.1 20 _ rfl) rfl (dk_at dk_Tape_add_0 5 rfl) ?_
    refine r_sipush C 400 (dk_at dk_Tape_add_0 6 rfl) ?_
    refine r_icmp_ge C 49 rfl (dk_at dk_Tape_add_0 7 rfl) (fun c2 => ?_) (fun c2 => ?_)
    · replace h := h.1 c2
      exact r_vret C h (dk_at dk_Tape_add_0 26 rfl)
    · replace h := h.2 c2
      refine r_aload_n C 0 rfl (dk_at dk_Tape_add_0 8 rfl) ?_
      refine r_getR C fl_Tape_11 20 (hL.1 20 _ rfl) rfl (dk_at dk_Tape_add_0 9 rfl) ?_
      refine r_aload_n C 0 rfl (dk_at dk_Tape_add_0 10 rfl) ?_
      refine r_getI C fl_Tape_15 20 (hL.1 20 _ rfl) rfl (dk_at dk_Tape_add_0 11 rfl) ?_
      refine r_iload_n C 1 rfl (dk_at dk_Tape_add_0 12 rfl) ?_
      refine r_iload_n C 2 rfl (dk_at dk_Tape_add_0 13 rfl) ?_
      refine r_iushr C (dk_at dk_Tape_add_0 14 rfl) ?_
      refine r_sipush C 255 (dk_at dk_Tape_add_0 15 rfl) ?_
      refine r_iand C (dk_at dk_Tape_add_0 16 rfl) ?_
      obtain ⟨q5, h⟩ := h
      refine r_iast C 21 (hL.1 21 _ rfl) q5 (dk_at dk_Tape_add_0 17 rfl) (r_sg (fun σ3 e4 => ?_))
      replace h := h σ3 e4
      refine r_aload_n C 0 rfl (dk_at dk_Tape_add_0 18 rfl) ?_
      refine r_dup C rfl (dk_at dk_Tape_add_0 19 rfl) ?_
      refine r_getI C fl_Tape_15 20 (hL.1 20 _ rfl) rfl (dk_at dk_Tape_add_0 20 rfl) ?_
      refine r_iconst C 1 (dk_at dk_Tape_add_0 21 rfl) ?_
      refine r_iadd C (dk_at dk_Tape_add_0 22 rfl) ?_
      refine r_putI C fl_Tape_15 20 (hL.1 20 _ rfl) rfl (dk_at dk_Tape_add_0 23 rfl) (r_sg (fun σ6 e7 => ?_))
      replace h := h σ6 e7
      refine r_iinc C 2 rfl (iincM (m := (-8)) (by decide)) [(2, .int (a2 + (-8))), (0, .ref (wAd w 20)), (1, .int a1)] rfl rfl (dk_at dk_Tape_add_0 24 rfl) ?_
      refine r_goto C 3 rfl (dk_at dk_Tape_add_0 25 rfl) ?_
      refine r_lv [1, 2, 0] rfl ?_
      exact k3 _ _ h
set_option maxRecDepth 20000 in
theorem t_Tape_add_l3 {X : CT} {w : WO} (C : CF X w (lim0 w) 3 cX7_add RX7 none (.code yX7_add cX7_add 3 none) (rmK 0 0)) {T : TXT} {z : EXa} (hL : LyX w T z) {a1 : Int32} {post : DD → Prop} {σ : DD} {a2 : Int32} (h : w_Tape_add_l3 T post σ a1 a2) : gW X w (lim0 w) 3 (QV X w post) σ 3 [(0, .ref (wAd w 20)), (1, .int a1), (2, .int a2)] [] :=
  LoopW (G := fun x : DD × Int32 => gW X w (lim0 w) 3 (QV X w post) x.1 3 [(0, .ref (wAd w 20)), (1, .int a1), (2, .int x.2)] []) (fun K x hK hF => t_Tape_add_b3 C hL (fun σ a2 q => hK (σ, a2) q) hF) h
set_option maxRecDepth 20000 in
theorem m_Tape_add {l : Launch} {w : WO} {T : TXT} {z : EXa} (hL : LyX w T z) {σ : DD} {a1 : Int32} {post : DD → Prop} (h : w_Tape_add T σ a1 post) : MV l w yX7_add cX7_add 3 (rmK 0 0) σ [.ref (wAd w 20), .int a1] post :=
  met_head (rt := none) (by decide) rfl (fun X hX C => by
  subst hX
  unfold w_Tape_add at h
  show gW X w (lim0 w) 3 (QV X w post) σ 0 [(0, .ref (wAd w 20)), (1, .int a1)] []
  refine r_bipush C 24 (dk_at dk_Tape_add_0 0 rfl) ?_
  refine r_istore_n C [(2, .int 24), (0, .ref (wAd w 20)), (1, .int a1)] rfl rfl (dk_at dk_Tape_add_0 1 rfl) ?_
  refine r_lv [1, 2, 0] rfl ?_
  exact t_Tape_add_l3 C hL h
  )
set_option maxRecDepth 20000 in
theorem m_Tape_rewind {l : Launch} {w : WO} {T : TXT} {z : EXa} (hL : LyX w T z) {σ : DD} {post : DD → Prop} (h : w_Tape_rewind T σ post) : MV l w yX7_rewind cX7_rewind 1 (rmK 2 40) σ [.ref (wAd w 20)] post :=
  met_head (rt := none) (by decide) rfl (fun X hX C => by
  subst hX
  unfold w_Tape_rewind at h
  show gW X w (lim0 w) 1 (QV X w post) σ 0 [(0, .ref (wAd w 20))] []
  refine r_aload_n C 0 rfl (dk_at dk_Tape_rewind_0 0 rfl) ?_
  refine r_iconst C 0 (dk_at dk_Tape_rewind_0 1 rfl) ?_
  refine r_putI C fl_Tape_19 20 (hL.1 20 _ rfl) rfl (dk_at dk_Tape_rewind_0 2 rfl) (r_sg (fun σ1 e2 => ?_))
  replace h := h σ1 e2
  refine r_aload_n C 0 rfl (dk_at dk_Tape_rewind_0 3 rfl) ?_
  refine r_cvV C cl_Tape_22 20 (hL.1 20 _ rfl) [] (m_Tape_advance hL h) (rmK_ok rfl rfl) rfl rfl (Nat.le_of_ble_eq_true rfl) (dk_at dk_Tape_rewind_0 4 rfl) (fun σ4 h => ?_)
  exact r_vret C h (dk_at dk_Tape_rewind_0 5 rfl)
  )
set_option maxRecDepth 20000 in
theorem m_Tape_isAtEnd {l : Launch} {w : WO} {T : TXT} {z : EXa} (hL : LyX w T z) {σ : DD} {post : Int32 → DD → Prop} (h : w_Tape_isAtEnd T σ post) : MI l w yX7_isAtEnd cX7_isAtEnd 1 .boolean (rmK 0 0) σ [.ref (wAd w 20)] post :=
  met_head (rt := (some .boolean)) (by decide) rfl (fun X hX C => by
  subst hX
  unfold w_Tape_isAtEnd at h
  show gW X w (lim0 w) 1 (QI X w post) σ 0 [(0, .ref (wAd w 20))] []
  refine r_aload_n C 0 rfl (dk_at dk_Tape_isAtEnd_0 0 rfl) ?_
  refine r_getI C fl_Tape_28 20 (hL.1 20 _ rfl) rfl (dk_at dk_Tape_isAtEnd_0 1 rfl) ?_
  refine r_iconst C 3 (dk_at dk_Tape_isAtEnd_0 2 rfl) ?_
  refine r_icmp_ne C 12 rfl (dk_at dk_Tape_isAtEnd_0 3 rfl) (fun c1 => ?_) (fun c1 => ?_)
  · replace h := h.1 c1
    refine r_iconst C 0 (dk_at dk_Tape_isAtEnd_0 6 rfl) ?_
    exact r_zret C (Or.inl rfl) h (dk_at dk_Tape_isAtEnd_0 7 rfl)
  · replace h := h.2 c1
    refine r_iconst C 1 (dk_at dk_Tape_isAtEnd_0 4 rfl) ?_
    refine r_goto C 13 rfl (dk_at dk_Tape_isAtEnd_0 5 rfl) ?_
    exact r_zret C (Or.inr rfl) h (dk_at dk_Tape_isAtEnd_0 7 rfl)
  )
set_option maxRecDepth 20000 in
theorem t_J7_fill_53178_b5 {X : CT} {w : WO} (C : CF X w (lim0 w) 4 cJ7_fill_53178 RJ7 none (.code yJ7_fill_53178 cJ7_fill_53178 4 none) (rmK 0 0)) {T : TXT} {z : EXa} (hL : LyX w T z) {a0 : Nat} {n0 : Nat} (hy0 : wLy w a0 = some (lI 0 n0)) {a1 : Int32} {a3 : Int32} {K5 : DD → Int32 → Prop} {post : DD → Prop} (k5 : ∀ (σ : DD) (a2 : Int32), K5 σ a2 → gW X w (lim0 w) 4 (QV X w post) σ 5 [(0, .ref (wAd w a0)), (1, .int a1), (2, .int a2), (3, .int a3)] []) {σ : DD} {a2 : Int32} (h : w_J7_fill_53178_b5 T a0 n0 a1 a3 K5 post σ a2) : gW X w (lim0 w) 4 (QV X w post) σ 5 [(0, .ref (wAd w a0)), (1, .int a1), (2, .int a2), (3, .int a3)] [] := by
  unfold w_J7_fill_53178_b5 at h
  refine r_iload_n C 2 rfl (dk_at dk_J7_fill_53178_0 5 rfl) ?_
  refine r_iload_n C 3 rfl (dk_at dk_J7_fill_53178_0 6 rfl) ?_
  refine r_icmp_ge C 20 rfl (dk_at dk_J7_fill_53178_0 7 rfl) (fun c1 => ?_) (fun c1 => ?_)
  · replace h := h.1 c1
    exact r_vret C h (dk_at dk_J7_fill_53178_0 14 rfl)
  · replace h := h.2 c1
    refine r_aload_n C 0 rfl (dk_at dk_J7_fill_53178_0 8 rfl) ?_
    refine r_iload_n C 2 rfl (dk_at dk_J7_fill_53178_0 9 rfl) ?_
    refine r_iload_n C 1 rfl (dk_at dk_J7_fill_53178_0 10 rfl) ?_
    obtain ⟨q4, h⟩ := h
    refine r_iast C a0 hy0 q4 (dk_at dk_J7_fill_53178_0 11 rfl) (r_sg (fun σ2 e3 => ?_))
    replace h := h σ2 e3
    refine r_iinc C 2 rfl rfl [(2, .int (a2 + 1)), (0, .ref (wAd w a0)), (1, .int a1), (3, .int a3)] rfl rfl (dk_at dk_J7_fill_53178_0 12 rfl) ?_
    refine r_goto C 5 rfl (dk_at dk_J7_fill_53178_0 13 rfl) ?_
    refine r_lv [1, 2, 0, 3] rfl ?_
    exact k5 _ _ h
set_option maxRecDepth 20000 in
theorem t_J7_fill_53178_l5 {X : CT} {w : WO} (C : CF X w (lim0 w) 4 cJ7_fill_53178 RJ7 none (.code yJ7_fill_53178 cJ7_fill_53178 4 none) (rmK 0 0)) {T : TXT} {z : EXa} (hL : LyX w T z) {a0 : Nat} {n0 : Nat} (hy0 : wLy w a0 = some (lI 0 n0)) {a1 : Int32} {a3 : Int32} {post : DD → Prop} {σ : DD} {a2 : Int32} (h : w_J7_fill_53178_l5 T a0 n0 post σ a1 a2 a3) : gW X w (lim0 w) 4 (QV X w post) σ 5 [(0, .ref (wAd w a0)), (1, .int a1), (2, .int a2), (3, .int a3)] [] :=
  LoopW (G := fun x : DD × Int32 => gW X w (lim0 w) 4 (QV X w post) x.1 5 [(0, .ref (wAd w a0)), (1, .int a1), (2, .int x.2), (3, .int a3)] []) (fun K x hK hF => t_J7_fill_53178_b5 C hL hy0 (fun σ a2 q => hK (σ, a2) q) hF) h
set_option maxRecDepth 20000 in
theorem m_J7_fill_53178 {l : Launch} {w : WO} {T : TXT} {z : EXa} (hL : LyX w T z) {a0 : Nat} {n0 : Nat} (hy0 : wLy w a0 = some (lI 0 n0)) {σ : DD} {a1 : Int32} {post : DD → Prop} (h : w_J7_fill_53178 T a0 n0 σ a1 post) : MV l w yJ7_fill_53178 cJ7_fill_53178 4 (rmK 0 0) σ [.ref (wAd w a0), .int a1] post :=
  met_head (rt := none) (by decide) rfl (fun X hX C => by
  subst hX
  unfold w_J7_fill_53178 at h
  show gW X w (lim0 w) 4 (QV X w post) σ 0 [(0, .ref (wAd w a0)), (1, .int a1)] []
  refine r_iconst C 0 (dk_at dk_J7_fill_53178_0 0 rfl) ?_
  refine r_istore_n C [(2, .int 0), (0, .ref (wAd w a0)), (1, .int a1)] rfl rfl (dk_at dk_J7_fill_53178_0 1 rfl) ?_
  refine r_aload_n C 1 rfl (dk_at dk_J7_fill_53178_0 2 rfl) ?_
  refine r_alenI C a0 hy0 (by decide) _ rfl (dk_at dk_J7_fill_53178_0 3 rfl) ?_
  refine r_topi (fun v5 e6 => ?_)
  replace h := h v5 e6
  refine r_istore_n C [(3, .int v5), (2, .int 0), (0, .ref (wAd w a0)), (1, .int a1)] rfl rfl (dk_at dk_J7_fill_53178_0 4 rfl) ?_
  refine r_lv [2, 3, 1, 0] rfl ?_
  exact t_J7_fill_53178_l5 C hL hy0 h
  )
set_option maxRecDepth 20000 in
theorem m_Year_draw {l : Launch} {w : WO} {T : TXT} {z : EXa} (hL : LyX w T z) {σ : DD} {a1 : Int32} {post : Int32 → DD → Prop} (h : w_Year_draw T σ a1 post) : MI l w yX9_draw cX9_draw 2 .int (rmK 0 0) σ [.ref (wAd w 110), .int a1] post :=
  met_head (rt := (some .int)) (by decide) rfl (fun X hX C => by
  subst hX
  unfold w_Year_draw at h
  show gW X w (lim0 w) 2 (QI X w post) σ 0 [(0, .ref (wAd w 110)), (1, .int a1)] []
  refine r_aload_n C 0 rfl (dk_at dk_Year_draw_0 0 rfl) ?_
  refine r_aload_n C 0 rfl (dk_at dk_Year_draw_0 1 rfl) ?_
  refine r_getI C fl_Year_35 110 (hL.1 110 _ rfl) rfl (dk_at dk_Year_draw_0 2 rfl) ?_
  refine r_sipush C 1103 (dk_at dk_Year_draw_0 3 rfl) ?_
  refine r_imul C (dk_at dk_Year_draw_0 4 rfl) ?_
  refine r_sipush C 12345 (dk_at dk_Year_draw_0 5 rfl) ?_
  refine r_iadd C (dk_at dk_Year_draw_0 6 rfl) ?_
  refine r_ldc C tw_1143 (dk_at dk_Year_draw_0 7 rfl) ?_
  refine r_irem C (by decide) (dk_at dk_Year_draw_0 8 rfl) ?_
  refine r_putI C fl_Year_35 110 (hL.1 110 _ rfl) rfl (dk_at dk_Year_draw_0 9 rfl) (r_sg (fun σ1 e2 => ?_))
  replace h := h σ1 e2
  refine r_iload_n C 1 rfl (dk_at dk_Year_draw_0 10 rfl) ?_
  refine r_if_le C 32 rfl (dk_at dk_Year_draw_0 11 rfl) (fun c3 => ?_) (fun c3 => ?_)
  · replace h := h.1 c3
    refine r_iconst C 0 (dk_at dk_Year_draw_0 17 rfl) ?_
    exact r_iret C h (dk_at dk_Year_draw_0 18 rfl)
  · replace h := h.2 c3
    refine r_aload_n C 0 rfl (dk_at dk_Year_draw_0 12 rfl) ?_
    refine r_getI C fl_Year_35 110 (hL.1 110 _ rfl) rfl (dk_at dk_Year_draw_0 13 rfl) ?_
    refine r_iload_n C 1 rfl (dk_at dk_Year_draw_0 14 rfl) ?_
    obtain ⟨q4, h⟩ := h
    refine r_irem C q4 (dk_at dk_Year_draw_0 15 rfl) ?_
    refine r_goto C 33 rfl (dk_at dk_Year_draw_0 16 rfl) ?_
    exact r_iret C h (dk_at dk_Year_draw_0 18 rfl)
  )
set_option maxRecDepth 20000 in
theorem t_Year_live_b219 {X : CT} {w : WO} (C : CF X w (lim0 w) 12 cX9_live RX9 (some .int) (.code yX9_live cX9_live 12 (some .int)) (rmK 5 145)) {T : TXT} {z : EXa} (hL : LyX w T z) {K55 : DD → Int32 → Prop} {a2 : Int32} {a3 : Int32} {a4 : Int32} {a5 : Int32} {a10 : Int32} {K219 : DD → Int32 → Prop} {post : Int32 → DD → Prop} (k55 : ∀ (σ : DD) (a5 : Int32), K55 σ a5 → gW X w (lim0 w) 12 (QI X w post) σ 55 [(0, .ref (wAd w 110)), (2, .int a2), (3, .int a3), (4, .int a4), (5, .int a5)] []) (k219 : ∀ (σ : DD) (a11 : Int32), K219 σ a11 → gW X w (lim0 w) 12 (QI X w post) σ 219 [(0, .ref (wAd w 110)), (2, .int a2), (3, .int a3), (4, .int a4), (5, .int a5), (10, .int a10), (11, .int a11)] []) {σ : DD} {a11 : Int32} (h : w_Year_live_b219 T K55 a2 a3 a4 a5 a10 K219 post σ a11) : gW X w (lim0 w) 12 (QI X w post) σ 219 [(0, .ref (wAd w 110)), (2, .int a2), (3, .int a3), (4, .int a4), (5, .int a5), (10, .int a10), (11, .int a11)] [] := by
  unfold w_Year_live_b219 at h
  refine r_iload C 6 rfl (dk_at dk_Year_live_2 29 rfl) ?_
  refine r_aload_n C 0 rfl (dk_at dk_Year_live_2 30 rfl) ?_
  refine r_getI C fl_Year_41 110 (hL.1 110 _ rfl) rfl (dk_at dk_Year_live_2 31 rfl) ?_
  refine r_icmp_ge C 251 rfl (dk_at dk_Year_live_2 32 rfl) (fun c1 => ?_) (fun c1 => ?_)
  · replace h := h.1 c1
    refine r_iinc C 4 rfl rfl [(5, .int (a5 + 1)), (0, .ref (wAd w 110)), (2, .int a2), (3, .int a3), (4, .int a4), (10, .int a10), (11, .int a11)] rfl rfl (dk_at dk_Year_live_3 7 rfl) ?_
    refine r_goto C 55 rfl (dk_at dk_Year_live_3 8 rfl) ?_
    refine r_lv [1, 2, 3, 4, 0] rfl ?_
    exact k55 _ _ h
  · replace h := h.2 c1
    refine r_aload_n C 0 rfl (dk_at dk_Year_live_2 33 rfl) ?_
    refine r_getR C fl_Year_15 110 (hL.1 110 _ rfl) rfl (dk_at dk_Year_live_2 34 rfl) ?_
    refine r_iload C 6 rfl (dk_at dk_Year_live_2 35 rfl) ?_
    refine r_dup2 C rfl rfl (dk_at dk_Year_live_2 36 rfl) ?_
    obtain ⟨q2, h⟩ := h
    refine r_iald C 115 (hL.1 115 _ rfl) q2 (dk_at dk_Year_live_2 37 rfl) ?_
    refine r_iload C 5 rfl (dk_at dk_Year_live_2 38 rfl) ?_
    refine r_iload C 6 rfl (dk_at dk_Year_live_2 39 rfl) ?_
    refine r_ishr C (dk_at dk_Year_live_3 0 rfl) ?_
    refine r_iconst C 1 (dk_at dk_Year_live_3 1 rfl) ?_
    refine r_iand C (dk_at dk_Year_live_3 2 rfl) ?_
    refine r_iadd C (dk_at dk_Year_live_3 3 rfl) ?_
    obtain ⟨q5, h⟩ := h
    refine r_iast C 115 (hL.1 115 _ rfl) q5 (dk_at dk_Year_live_3 4 rfl) (r_sg (fun σ3 e4 => ?_))
    replace h := h σ3 e4
    refine r_iinc C 6 rfl rfl [(11, .int (a11 + 1)), (0, .ref (wAd w 110)), (2, .int a2), (3, .int a3), (4, .int a4), (5, .int a5), (10, .int a10)] rfl rfl (dk_at dk_Year_live_3 5 rfl) ?_
    refine r_goto C 219 rfl (dk_at dk_Year_live_3 6 rfl) ?_
    refine r_lv [1, 2, 3, 4, 5, 6, 0] rfl ?_
    exact k219 _ _ h
set_option maxRecDepth 20000 in
theorem t_Year_live_l219 {X : CT} {w : WO} (C : CF X w (lim0 w) 12 cX9_live RX9 (some .int) (.code yX9_live cX9_live 12 (some .int)) (rmK 5 145)) {T : TXT} {z : EXa} (hL : LyX w T z) {K55 : DD → Int32 → Prop} {a2 : Int32} {a3 : Int32} {a4 : Int32} {a5 : Int32} {a10 : Int32} {post : Int32 → DD → Prop} (k55 : ∀ (σ : DD) (a5 : Int32), K55 σ a5 → gW X w (lim0 w) 12 (QI X w post) σ 55 [(0, .ref (wAd w 110)), (2, .int a2), (3, .int a3), (4, .int a4), (5, .int a5)] []) {σ : DD} {a11 : Int32} (h : w_Year_live_l219 T K55 post σ a2 a3 a4 a5 a10 a11) : gW X w (lim0 w) 12 (QI X w post) σ 219 [(0, .ref (wAd w 110)), (2, .int a2), (3, .int a3), (4, .int a4), (5, .int a5), (10, .int a10), (11, .int a11)] [] :=
  LoopW (G := fun x : DD × Int32 => gW X w (lim0 w) 12 (QI X w post) x.1 219 [(0, .ref (wAd w 110)), (2, .int a2), (3, .int a3), (4, .int a4), (5, .int a5), (10, .int a10), (11, .int x.2)] []) (fun K x hK hF => t_Year_live_b219 C hL k55 (fun σ a11 q => hK (σ, a11) q) hF) h
set_option maxRecDepth 20000 in
theorem t_Year_live_j205 {X : CT} {w : WO} (C : CF X w (lim0 w) 12 cX9_live RX9 (some .int) (.code yX9_live cX9_live 12 (some .int)) (rmK 5 145)) {T : TXT} {z : EXa} (hL : LyX w T z) {K55 : DD → Int32 → Prop} {post : Int32 → DD → Prop} {a2 : Int32} {a3 : Int32} {a4 : Int32} {a5 : Int32} (k55 : ∀ (σ : DD) (a5 : Int32), K55 σ a5 → gW X w (lim0 w) 12 (QI X w post) σ 55 [(0, .ref (wAd w 110)), (2, .int a2), (3, .int a3), (4, .int a4), (5, .int a5)] []) {σ : DD} (h : w_Year_live_j205 T K55 post σ a2 a3 a4 a5) : gW X w (lim0 w) 12 (QI X w post) σ 205 [(0, .ref (wAd w 110)), (2, .int a2), (3, .int a3), (4, .int a4), (5, .int a5)] [] := by
  unfold w_Year_live_j205 at h
  refine r_aload_n C 0 rfl (dk_at dk_Year_live_2 22 rfl) ?_
  refine r_getR C fl_Year_22 110 (hL.1 110 _ rfl) rfl (dk_at dk_Year_live_2 23 rfl) ?_
  refine r_iload C 4 rfl (dk_at dk_Year_live_2 24 rfl) ?_
  refine r_cvI C cl_Year_69 50 (hL.1 50 _ rfl) [.int a5] (m_Court_heldBits hL h) (rmK_ok rfl rfl) rfl rfl (Nat.le_of_ble_eq_true rfl) (dk_at dk_Year_live_2 25 rfl) (fun r6 σ7 h => ?_)
  refine r_istore C [(10, .int r6), (0, .ref (wAd w 110)), (2, .int a2), (3, .int a3), (4, .int a4), (5, .int a5)] rfl rfl (dk_at dk_Year_live_2 26 rfl) ?_
  refine r_iconst C 0 (dk_at dk_Year_live_2 27 rfl) ?_
  refine r_istore C [(11, .int 0), (10, .int r6), (0, .ref (wAd w 110)), (2, .int a2), (3, .int a3), (4, .int a4), (5, .int a5)] rfl rfl (dk_at dk_Year_live_2 28 rfl) ?_
  refine r_lv [2, 3, 4, 5, 6, 1, 0] rfl ?_
  exact t_Year_live_l219 C hL k55 h
set_option maxRecDepth 20000 in
theorem t_Year_live_j158 {X : CT} {w : WO} (C : CF X w (lim0 w) 12 cX9_live RX9 (some .int) (.code yX9_live cX9_live 12 (some .int)) (rmK 5 145)) {T : TXT} {z : EXa} (hL : LyX w T z) {K55 : DD → Int32 → Prop} {post : Int32 → DD → Prop} {a2 : Int32} {a3 : Int32} {a4 : Int32} {a5 : Int32} {a7 : Int32} {a8 : Int32} {t0 : Int32} (k55 : ∀ (σ : DD) (a5 : Int32), K55 σ a5 → gW X w (lim0 w) 12 (QI X w post) σ 55 [(0, .ref (wAd w 110)), (2, .int a2), (3, .int a3), (4, .int a4), (5, .int a5)] []) {σ : DD} (h : w_Year_live_j158 T K55 post σ a2 a3 a4 a5 a7 a8 t0) : gW X w (lim0 w) 12 (QI X w post) σ 158 [(0, .ref (wAd w 110)), (2, .int a2), (3, .int a3), (4, .int a4), (5, .int a5), (7, .int a7), (8, .int a8)] [.int t0] := by
  unfold w_Year_live_j158 at h
  refine r_istore C [(9, .int t0), (0, .ref (wAd w 110)), (2, .int a2), (3, .int a3), (4, .int a4), (5, .int a5), (7, .int a7), (8, .int a8)] rfl rfl (dk_at dk_Year_live_1 38 rfl) ?_
  refine r_iload C 0 rfl (dk_at dk_Year_live_1 39 rfl) ?_
  refine r_if_ne C 205 rfl (dk_at dk_Year_live_2 0 rfl) (fun c8 => ?_) (fun c8 => ?_)
  · replace h := h.1 c8
    refine r_lv [1, 2, 3, 4, 5] rfl ?_
    exact t_Year_live_j205 C hL k55 h
  · replace h := h.2 c8
    refine r_aload_n C 1 rfl (dk_at dk_Year_live_2 1 rfl) ?_
    refine r_getR C fl_Year_22 110 (hL.1 110 _ rfl) rfl (dk_at dk_Year_live_2 2 rfl) ?_
    refine r_iload C 6 rfl (dk_at dk_Year_live_2 3 rfl) ?_
    refine r_iload C 7 rfl (dk_at dk_Year_live_2 4 rfl) ?_
    refine r_iload C 5 rfl (dk_at dk_Year_live_2 5 rfl) ?_
    refine r_cvI C cl_Year_61 50 (hL.1 50 _ rfl) [.int a7, .int a8, .int a5] (m_Court_can hL h) (rmK_ok rfl rfl) rfl rfl (Nat.le_of_ble_eq_true rfl) (dk_at dk_Year_live_2 6 rfl) (fun r9 σ10 h => ?_)
    refine r_if_eq C 205 rfl (dk_at dk_Year_live_2 7 rfl) (fun c11 => ?_) (fun c11 => ?_)
    · replace h := h.1 c11
      refine r_lv [1, 2, 3, 4, 5] rfl ?_
      exact t_Year_live_j205 C hL k55 h
    · replace h := h.2 c11
      refine r_aload_n C 1 rfl (dk_at dk_Year_live_2 8 rfl) ?_
      refine r_getR C fl_Year_18 110 (hL.1 110 _ rfl) rfl (dk_at dk_Year_live_2 9 rfl) ?_
      refine r_iload C 6 rfl (dk_at dk_Year_live_2 10 rfl) ?_
      refine r_iload C 7 rfl (dk_at dk_Year_live_2 11 rfl) ?_
      refine r_iload C 5 rfl (dk_at dk_Year_live_2 12 rfl) ?_
      refine r_cvV C cl_Year_65 200 (hL.1 200 _ rfl) [.int a7, .int a8, .int a5] (m_Real_write hL h) (rmK_ok rfl rfl) rfl rfl (Nat.le_of_ble_eq_true rfl) (dk_at dk_Year_live_2 13 rfl) (fun σ13 h => ?_)
      refine r_aload_n C 1 rfl (dk_at dk_Year_live_2 14 rfl) ?_
      refine r_getR C fl_Year_9 110 (hL.1 110 _ rfl) rfl (dk_at dk_Year_live_2 15 rfl) ?_
      refine r_iload C 6 rfl (dk_at dk_Year_live_2 16 rfl) ?_
      refine r_dup2 C rfl rfl (dk_at dk_Year_live_2 17 rfl) ?_
      obtain ⟨q14, h⟩ := h
      refine r_iald C 114 (hL.1 114 _ rfl) q14 (dk_at dk_Year_live_2 18 rfl) ?_
      refine r_iconst C 1 (dk_at dk_Year_live_2 19 rfl) ?_
      refine r_iadd C (dk_at dk_Year_live_2 20 rfl) ?_
      obtain ⟨q17, h⟩ := h
      refine r_iast C 114 (hL.1 114 _ rfl) q17 (dk_at dk_Year_live_2 21 rfl) (r_sg (fun σ15 e16 => ?_))
      replace h := h σ15 e16
      refine r_lv [1, 2, 3, 4, 5] rfl ?_
      exact t_Year_live_j205 C hL k55 h
set_option maxRecDepth 20000 in
theorem t_Year_live_j157 {X : CT} {w : WO} (C : CF X w (lim0 w) 12 cX9_live RX9 (some .int) (.code yX9_live cX9_live 12 (some .int)) (rmK 5 145)) {T : TXT} {z : EXa} (hL : LyX w T z) {K55 : DD → Int32 → Prop} {post : Int32 → DD → Prop} {a2 : Int32} {a3 : Int32} {a4 : Int32} {a5 : Int32} {a7 : Int32} {a8 : Int32} (k55 : ∀ (σ : DD) (a5 : Int32), K55 σ a5 → gW X w (lim0 w) 12 (QI X w post) σ 55 [(0, .ref (wAd w 110)), (2, .int a2), (3, .int a3), (4, .int a4), (5, .int a5)] []) {σ : DD} (h : w_Year_live_j157 T K55 post σ a2 a3 a4 a5 a7 a8) : gW X w (lim0 w) 12 (QI X w post) σ 157 [(0, .ref (wAd w 110)), (2, .int a2), (3, .int a3), (4, .int a4), (5, .int a5), (7, .int a7), (8, .int a8)] [] := by
  unfold w_Year_live_j157 at h
  refine r_iconst C 0 (dk_at dk_Year_live_1 37 rfl) ?_
  refine r_lv [0, 1, 2, 3, 4, 5, 6] rfl ?_
  exact t_Year_live_j158 C hL k55 h
set_option maxRecDepth 20000 in
theorem t_Year_live_j95 {X : CT} {w : WO} (C : CF X w (lim0 w) 12 cX9_live RX9 (some .int) (.code yX9_live cX9_live 12 (some .int)) (rmK 5 145)) {T : TXT} {z : EXa} (hL : LyX w T z) {K55 : DD → Int32 → Prop} {post : Int32 → DD → Prop} {a2 : Int32} {a3 : Int32} {a4 : Int32} {a5 : Int32} {t0 : Int32} (k55 : ∀ (σ : DD) (a5 : Int32), K55 σ a5 → gW X w (lim0 w) 12 (QI X w post) σ 55 [(0, .ref (wAd w 110)), (2, .int a2), (3, .int a3), (4, .int a4), (5, .int a5)] []) {σ : DD} (h : w_Year_live_j95 T K55 post σ a2 a3 a4 a5 t0) : gW X w (lim0 w) 12 (QI X w post) σ 95 [(0, .ref (wAd w 110)), (2, .int a2), (3, .int a3), (4, .int a4), (5, .int a5)] [.int t0] := by
  unfold w_Year_live_j95 at h
  refine r_istore C [(6, .int t0), (0, .ref (wAd w 110)), (2, .int a2), (3, .int a3), (4, .int a4), (5, .int a5)] rfl rfl (dk_at dk_Year_live_1 8 rfl) ?_
  refine r_aload_n C 1 rfl (dk_at dk_Year_live_1 9 rfl) ?_
  refine r_aload_n C 1 rfl (dk_at dk_Year_live_1 10 rfl) ?_
  refine r_getR C fl_Year_18 110 (hL.1 110 _ rfl) rfl (dk_at dk_Year_live_1 11 rfl) ?_
  refine r_getI C fl_Year_38 200 (hL.1 200 _ rfl) rfl (dk_at dk_Year_live_1 12 rfl) ?_
  refine r_cvI C cl_Year_48 110 (hL.1 110 _ rfl) [.int (gI σ 200 0)] (m_Year_draw hL h) (rmK_ok rfl rfl) rfl rfl (Nat.le_of_ble_eq_true rfl) (dk_at dk_Year_live_1 13 rfl) (fun r18 σ19 h => ?_)
  refine r_istore C [(7, .int r18), (6, .int t0), (0, .ref (wAd w 110)), (2, .int a2), (3, .int a3), (4, .int a4), (5, .int a5)] rfl rfl (dk_at dk_Year_live_1 14 rfl) ?_
  refine r_aload_n C 2 rfl (dk_at dk_Year_live_1 15 rfl) ?_
  refine r_aload_n C 2 rfl (dk_at dk_Year_live_1 16 rfl) ?_
  refine r_getR C fl_Year_18 110 (hL.1 110 _ rfl) rfl (dk_at dk_Year_live_1 17 rfl) ?_
  refine r_getI C fl_Year_52 200 (hL.1 200 _ rfl) rfl (dk_at dk_Year_live_1 18 rfl) ?_
  refine r_cvI C cl_Year_48 110 (hL.1 110 _ rfl) [.int (gI σ19 200 3)] (m_Year_draw hL h) (rmK_ok rfl rfl) rfl rfl (Nat.le_of_ble_eq_true rfl) (dk_at dk_Year_live_1 19 rfl) (fun r20 σ21 h => ?_)
  refine r_istore C [(8, .int r20), (7, .int r18), (6, .int t0), (0, .ref (wAd w 110)), (2, .int a2), (3, .int a3), (4, .int a4), (5, .int a5)] rfl rfl (dk_at dk_Year_live_1 20 rfl) ?_
  refine r_iload C 2 rfl (dk_at dk_Year_live_1 21 rfl) ?_
  refine r_if_eq C 157 rfl (dk_at dk_Year_live_1 22 rfl) (fun c22 => ?_) (fun c22 => ?_)
  · replace h := h.1 c22
    refine r_lv [3, 4, 5, 6, 7, 1, 0] rfl ?_
    exact t_Year_live_j157 C hL k55 h
  · replace h := h.2 c22
    refine r_aload_n C 3 rfl (dk_at dk_Year_live_1 23 rfl) ?_
    refine r_getR C fl_Year_22 110 (hL.1 110 _ rfl) rfl (dk_at dk_Year_live_1 24 rfl) ?_
    refine r_iload C 1 rfl (dk_at dk_Year_live_1 25 rfl) ?_
    refine r_iload C 0 rfl (dk_at dk_Year_live_1 26 rfl) ?_
    refine r_iload C 7 rfl (dk_at dk_Year_live_1 27 rfl) ?_
    refine r_cvI C cl_Year_55 50 (hL.1 50 _ rfl) [.int r18, .int r20, .int a5] (m_Court_takes hL h) (rmK_ok rfl rfl) rfl rfl (Nat.le_of_ble_eq_true rfl) (dk_at dk_Year_live_1 28 rfl) (fun r23 σ24 h => ?_)
    refine r_aload_n C 3 rfl (dk_at dk_Year_live_1 29 rfl) ?_
    refine r_getR C fl_Year_18 110 (hL.1 110 _ rfl) rfl (dk_at dk_Year_live_1 30 rfl) ?_
    refine r_getR C fl_Year_32 200 (hL.1 200 _ rfl) rfl (dk_at dk_Year_live_1 31 rfl) ?_
    refine r_iconst C 2 (dk_at dk_Year_live_1 32 rfl) ?_
    refine r_ialdK C 208 (hL.1 208 _ rfl) lk_2 (vk_2_4) (dk_at dk_Year_live_1 33 rfl) ?_
    refine r_icmp_le C 157 rfl (dk_at dk_Year_live_1 34 rfl) (fun c25 => ?_) (fun c25 => ?_)
    · replace h := h.1 c25
      refine r_lv [3, 4, 5, 6, 7, 1, 0] rfl ?_
      exact t_Year_live_j157 C hL k55 h
    · replace h := h.2 c25
      refine r_iconst C 1 (dk_at dk_Year_live_1 35 rfl) ?_
      refine r_goto C 158 rfl (dk_at dk_Year_live_1 36 rfl) ?_
      refine r_lv [3, 4, 5, 6, 7, 1, 0] rfl ?_
      exact t_Year_live_j158 C hL k55 h
set_option maxRecDepth 20000 in
theorem t_Year_live_j257 {X : CT} {w : WO} (C : CF X w (lim0 w) 12 cX9_live RX9 (some .int) (.code yX9_live cX9_live 12 (some .int)) (rmK 5 145)) {T : TXT} {z : EXa} (hL : LyX w T z) {post : Int32 → DD → Prop} {a3 : Int32} {σ : DD} (h : w_Year_live_j257 T post σ a3) : gW X w (lim0 w) 12 (QI X w post) σ 257 [(0, .ref (wAd w 110)), (3, .int a3)] [] := by
  unfold w_Year_live_j257 at h
  refine r_aload_n C 0 rfl (dk_at dk_Year_live_3 9 rfl) ?_
  refine r_getR C fl_Year_18 110 (hL.1 110 _ rfl) rfl (dk_at dk_Year_live_3 10 rfl) ?_
  refine r_getI C fl_Year_26 200 (hL.1 200 _ rfl) rfl (dk_at dk_Year_live_3 11 rfl) ?_
  refine r_iload_n C 1 rfl (dk_at dk_Year_live_3 12 rfl) ?_
  refine r_isub C (dk_at dk_Year_live_3 13 rfl) ?_
  refine r_topi (fun v26 e27 => ?_)
  replace h := h v26 e27
  refine r_istore C [(5, .int v26), (0, .ref (wAd w 110)), (3, .int a3)] rfl rfl (dk_at dk_Year_live_3 14 rfl) ?_
  refine r_aload_n C 1 rfl (dk_at dk_Year_live_3 15 rfl) ?_
  refine r_getR C fl_Year_18 110 (hL.1 110 _ rfl) rfl (dk_at dk_Year_live_3 16 rfl) ?_
  refine r_iload_n C 2 rfl (dk_at dk_Year_live_3 17 rfl) ?_
  refine r_putI C fl_Year_26 200 (hL.1 200 _ rfl) rfl (dk_at dk_Year_live_3 18 rfl) (r_sg (fun σ28 e29 => ?_))
  replace h := h σ28 e29
  refine r_iload C 0 rfl (dk_at dk_Year_live_3 19 rfl) ?_
  exact r_iret C h (dk_at dk_Year_live_3 20 rfl)
set_option maxRecDepth 20000 in
theorem t_Year_live_b55 {X : CT} {w : WO} (C : CF X w (lim0 w) 12 cX9_live RX9 (some .int) (.code yX9_live cX9_live 12 (some .int)) (rmK 5 145)) {T : TXT} {z : EXa} (hL : LyX w T z) {a2 : Int32} {a3 : Int32} {a4 : Int32} {K55 : DD → Int32 → Prop} {post : Int32 → DD → Prop} (k55 : ∀ (σ : DD) (a5 : Int32), K55 σ a5 → gW X w (lim0 w) 12 (QI X w post) σ 55 [(0, .ref (wAd w 110)), (2, .int a2), (3, .int a3), (4, .int a4), (5, .int a5)] []) {σ : DD} {a5 : Int32} (h : w_Year_live_b55 T a2 a3 a4 K55 post σ a5) : gW X w (lim0 w) 12 (QI X w post) σ 55 [(0, .ref (wAd w 110)), (2, .int a2), (3, .int a3), (4, .int a4), (5, .int a5)] [] := by
  unfold w_Year_live_b55 at h
  refine r_iload C 4 rfl (dk_at dk_Year_live_0 28 rfl) ?_
  refine r_iload C 3 rfl (dk_at dk_Year_live_0 29 rfl) ?_
  refine r_iload_n C 1 rfl (dk_at dk_Year_live_0 30 rfl) ?_
  refine r_iadd C (dk_at dk_Year_live_0 31 rfl) ?_
  refine r_icmp_ge C 257 rfl (dk_at dk_Year_live_0 32 rfl) (fun c30 => ?_) (fun c30 => ?_)
  · replace h := h.1 c30
    refine r_lv [0, 2] rfl ?_
    exact t_Year_live_j257 C hL h
  · replace h := h.2 c30
    refine r_iload C 4 rfl (dk_at dk_Year_live_0 33 rfl) ?_
    refine r_sipush C 999 (dk_at dk_Year_live_0 34 rfl) ?_
    refine r_icmp_gt C 257 rfl (dk_at dk_Year_live_0 35 rfl) (fun c31 => ?_) (fun c31 => ?_)
    · replace h := h.1 c31
      refine r_lv [0, 2] rfl ?_
      exact t_Year_live_j257 C hL h
    · replace h := h.2 c31
      refine r_aload_n C 0 rfl (dk_at dk_Year_live_0 36 rfl) ?_
      refine r_bipush C 10 (dk_at dk_Year_live_0 37 rfl) ?_
      refine r_cvI C cl_Year_48 110 (hL.1 110 _ rfl) [.int 10] (m_Year_draw hL h) (rmK_ok rfl rfl) rfl rfl (Nat.le_of_ble_eq_true rfl) (dk_at dk_Year_live_0 38 rfl) (fun r32 σ33 h => ?_)
      refine r_aload_n C 0 rfl (dk_at dk_Year_live_0 39 rfl) ?_
      refine r_getR C fl_Year_18 110 (hL.1 110 _ rfl) rfl (dk_at dk_Year_live_1 0 rfl) ?_
      refine r_getR C fl_Year_32 200 (hL.1 200 _ rfl) rfl (dk_at dk_Year_live_1 1 rfl) ?_
      refine r_iconst C 1 (dk_at dk_Year_live_1 2 rfl) ?_
      refine r_ialdK C 208 (hL.1 208 _ rfl) lk_1 (vk_1_4) (dk_at dk_Year_live_1 3 rfl) ?_
      refine r_icmp_ge C 94 rfl (dk_at dk_Year_live_1 4 rfl) (fun c34 => ?_) (fun c34 => ?_)
      · replace h := h.1 c34
        refine r_iconst C 0 (dk_at dk_Year_live_1 7 rfl) ?_
        refine r_lv [0, 1, 2, 3, 4] rfl ?_
        exact t_Year_live_j95 C hL k55 h
      · replace h := h.2 c34
        refine r_iconst C 1 (dk_at dk_Year_live_1 5 rfl) ?_
        refine r_goto C 95 rfl (dk_at dk_Year_live_1 6 rfl) ?_
        refine r_lv [0, 1, 2, 3, 4] rfl ?_
        exact t_Year_live_j95 C hL k55 h
set_option maxRecDepth 20000 in
theorem t_Year_live_l55 {X : CT} {w : WO} (C : CF X w (lim0 w) 12 cX9_live RX9 (some .int) (.code yX9_live cX9_live 12 (some .int)) (rmK 5 145)) {T : TXT} {z : EXa} (hL : LyX w T z) {a2 : Int32} {a3 : Int32} {a4 : Int32} {post : Int32 → DD → Prop} {σ : DD} {a5 : Int32} (h : w_Year_live_l55 T post σ a2 a3 a4 a5) : gW X w (lim0 w) 12 (QI X w post) σ 55 [(0, .ref (wAd w 110)), (2, .int a2), (3, .int a3), (4, .int a4), (5, .int a5)] [] :=
  LoopW (G := fun x : DD × Int32 => gW X w (lim0 w) 12 (QI X w post) x.1 55 [(0, .ref (wAd w 110)), (2, .int a2), (3, .int a3), (4, .int a4), (5, .int x.2)] []) (fun K x hK hF => t_Year_live_b55 C hL (fun σ a5 q => hK (σ, a5) q) hF) h
set_option maxRecDepth 20000 in
theorem m_Year_live {l : Launch} {w : WO} {T : TXT} {z : EXa} (hL : LyX w T z) {σ : DD} {a1 : Int32} {a2 : Int32} {post : Int32 → DD → Prop} (h : w_Year_live T σ a1 a2 post) : MI l w yX9_live cX9_live 12 .int (rmK 5 145) σ [.ref (wAd w 110), .int a1, .int a2] post :=
  met_head (rt := (some .int)) (by decide) rfl (fun X hX C => by
  subst hX
  unfold w_Year_live at h
  show gW X w (lim0 w) 12 (QI X w post) σ 0 [(0, .ref (wAd w 110)), (1, .int a1), (2, .int a2)] []
  refine r_aload_n C 0 rfl (dk_at dk_Year_live_0 0 rfl) ?_
  refine r_getR C fl_Year_18 110 (hL.1 110 _ rfl) rfl (dk_at dk_Year_live_0 1 rfl) ?_
  refine r_getI C fl_Year_26 200 (hL.1 200 _ rfl) rfl (dk_at dk_Year_live_0 2 rfl) ?_
  refine r_topi (fun v35 e36 => ?_)
  replace h := h v35 e36
  refine r_istore_n C [(3, .int v35), (0, .ref (wAd w 110)), (1, .int a1), (2, .int a2)] rfl rfl (dk_at dk_Year_live_0 3 rfl) ?_
  refine r_aload_n C 1 rfl (dk_at dk_Year_live_0 4 rfl) ?_
  refine r_getR C fl_Year_18 110 (hL.1 110 _ rfl) rfl (dk_at dk_Year_live_0 5 rfl) ?_
  refine r_getR C fl_Year_32 200 (hL.1 200 _ rfl) rfl (dk_at dk_Year_live_0 6 rfl) ?_
  refine r_iconst C 0 (dk_at dk_Year_live_0 7 rfl) ?_
  refine r_ialdK C 208 (hL.1 208 _ rfl) lk_0 (vk_0_4) (dk_at dk_Year_live_0 8 rfl) ?_
  refine r_topi (fun v37 e38 => ?_)
  replace h := h v37 e38
  refine r_istore C [(4, .int v37), (3, .int v35), (0, .ref (wAd w 110)), (1, .int a1), (2, .int a2)] rfl rfl (dk_at dk_Year_live_0 9 rfl) ?_
  refine r_aload_n C 2 rfl (dk_at dk_Year_live_0 10 rfl) ?_
  refine r_iload_n C 3 rfl (dk_at dk_Year_live_0 11 rfl) ?_
  refine r_putI C fl_Year_35 110 (hL.1 110 _ rfl) rfl (dk_at dk_Year_live_0 12 rfl) (r_sg (fun σ39 e40 => ?_))
  replace h := h σ39 e40
  refine r_aload_n C 2 rfl (dk_at dk_Year_live_0 13 rfl) ?_
  refine r_aload_n C 2 rfl (dk_at dk_Year_live_0 14 rfl) ?_
  refine r_getR C fl_Year_18 110 (hL.1 110 _ rfl) rfl (dk_at dk_Year_live_0 15 rfl) ?_
  refine r_getI C fl_Year_38 200 (hL.1 200 _ rfl) rfl (dk_at dk_Year_live_0 16 rfl) ?_
  refine r_putI C fl_Year_41 110 (hL.1 110 _ rfl) rfl (dk_at dk_Year_live_0 17 rfl) (r_sg (fun σ41 e42 => ?_))
  replace h := h σ41 e42
  refine r_aload_n C 2 rfl (dk_at dk_Year_live_0 18 rfl) ?_
  refine r_getR C fl_Year_9 110 (hL.1 110 _ rfl) rfl (dk_at dk_Year_live_0 19 rfl) ?_
  refine r_iconst C 0 (dk_at dk_Year_live_0 20 rfl) ?_
  refine r_csV C cs_Year_42 [.ref (wAd w 114), .int 0] (m_J7_fill_53178 hL (hL.1 114 _ rfl) h) (rmK_ok rfl rfl) rfl rfl (Nat.le_of_ble_eq_true rfl) (dk_at dk_Year_live_0 21 rfl) (fun σ44 h => ?_)
  refine r_aload_n C 2 rfl (dk_at dk_Year_live_0 22 rfl) ?_
  refine r_getR C fl_Year_15 110 (hL.1 110 _ rfl) rfl (dk_at dk_Year_live_0 23 rfl) ?_
  refine r_iconst C 0 (dk_at dk_Year_live_0 24 rfl) ?_
  refine r_csV C cs_Year_42 [.ref (wAd w 115), .int 0] (m_J7_fill_53178 hL (hL.1 115 _ rfl) h) (rmK_ok rfl rfl) rfl rfl (Nat.le_of_ble_eq_true rfl) (dk_at dk_Year_live_0 25 rfl) (fun σ46 h => ?_)
  refine r_iload C 0 rfl (dk_at dk_Year_live_0 26 rfl) ?_
  refine r_istore C [(5, .int v37), (4, .int v37), (3, .int v35), (0, .ref (wAd w 110)), (1, .int a1), (2, .int a2)] rfl rfl (dk_at dk_Year_live_0 27 rfl) ?_
  refine r_lv [3, 5, 2, 1, 0] rfl ?_
  exact t_Year_live_l55 C hL h
  )
