set_option maxRecDepth 20000 in
theorem t_Face_refused_j22 {X : CT} {w : WO} (C : CF X w (lim0 w) 3 cX10_refused RX10 (some .int) (.code yX10_refused cX10_refused 3 (some .int)) (rmK 0 0)) {T : TXT} {z : EXa} (hL : LyX w T z) {post : Int32 → DD → Prop} {a1 : Int32} {t0 : Int32} {σ : DD} (h : w_Face_refused_j22 T post σ a1 t0) : gW X w (lim0 w) 3 (QI X w post) σ 22 [(0, .ref (wAd w 0)), (1, .int a1)] [.int t0] := by
  unfold w_Face_refused_j22 at h
  refine r_istore_n C [(2, .int t0), (0, .ref (wAd w 0)), (1, .int a1)] rfl rfl (dk_at dk_Face_refused_0 15 rfl) ?_
  refine r_iload_n C 0 rfl (dk_at dk_Face_refused_0 16 rfl) ?_
  refine r_if_lt C 46 rfl (dk_at dk_Face_refused_0 17 rfl) (fun c1 => ?_) (fun c1 => ?_)
  · replace h := h.1 c1
    refine r_iload_n C 2 rfl (dk_at dk_Face_refused_0 31 rfl) ?_
    exact r_iret C h (dk_at dk_Face_refused_0 32 rfl)
  · replace h := h.2 c1
    refine r_iload_n C 0 rfl (dk_at dk_Face_refused_0 18 rfl) ?_
    refine r_aload_n C 1 rfl (dk_at dk_Face_refused_0 19 rfl) ?_
    refine r_getR C fl_Face_82 0 (hL.1 0 _ rfl) rfl (dk_at dk_Face_refused_0 20 rfl) ?_
    refine r_alenI C 11 (hL.1 11 _ rfl) (by decide) 5 (by decide) (dk_at dk_Face_refused_0 21 rfl) ?_
    refine r_icmp_ge C 46 rfl (dk_at dk_Face_refused_0 22 rfl) (fun c2 => ?_) (fun c2 => ?_)
    · replace h := h.1 c2
      refine r_iload_n C 2 rfl (dk_at dk_Face_refused_0 31 rfl) ?_
      exact r_iret C h (dk_at dk_Face_refused_0 32 rfl)
    · replace h := h.2 c2
      refine r_aload_n C 1 rfl (dk_at dk_Face_refused_0 23 rfl) ?_
      refine r_getR C fl_Face_82 0 (hL.1 0 _ rfl) rfl (dk_at dk_Face_refused_0 24 rfl) ?_
      refine r_iload_n C 0 rfl (dk_at dk_Face_refused_0 25 rfl) ?_
      refine r_dup2 C rfl rfl (dk_at dk_Face_refused_0 26 rfl) ?_
      obtain ⟨q3, h⟩ := h
      refine r_iald C 11 (hL.1 11 _ rfl) q3 (dk_at dk_Face_refused_0 27 rfl) ?_
      refine r_iconst C 1 (dk_at dk_Face_refused_0 28 rfl) ?_
      refine r_iadd C (dk_at dk_Face_refused_0 29 rfl) ?_
      obtain ⟨q6, h⟩ := h
      refine r_iast C 11 (hL.1 11 _ rfl) q6 (dk_at dk_Face_refused_0 30 rfl) (r_sg (fun σ4 e5 => ?_))
      replace h := h σ4 e5
      refine r_iload_n C 2 rfl (dk_at dk_Face_refused_0 31 rfl) ?_
      exact r_iret C h (dk_at dk_Face_refused_0 32 rfl)
set_option maxRecDepth 20000 in
theorem m_Face_refused {l : Launch} {w : WO} {T : TXT} {z : EXa} (hL : LyX w T z) {σ : DD} {a1 : Int32} {post : Int32 → DD → Prop} (h : w_Face_refused T σ a1 post) : MI l w yX10_refused cX10_refused 3 .int (rmK 0 0) σ [.ref (wAd w 0), .int a1] post :=
  met_head (rt := (some .int)) (by decide) rfl (fun X hX C => by
  subst hX
  unfold w_Face_refused at h
  show gW X w (lim0 w) 3 (QI X w post) σ 0 [(0, .ref (wAd w 0)), (1, .int a1)] []
  refine r_aload_n C 0 rfl (dk_at dk_Face_refused_0 0 rfl) ?_
  refine r_iload_n C 1 rfl (dk_at dk_Face_refused_0 1 rfl) ?_
  refine r_putI C fl_Face_312 0 (hL.1 0 _ rfl) rfl (dk_at dk_Face_refused_0 2 rfl) (r_sg (fun σ7 e8 => ?_))
  replace h := h σ7 e8
  refine r_iload_n C 1 rfl (dk_at dk_Face_refused_0 3 rfl) ?_
  refine r_bipush C (-5) (dk_at dk_Face_refused_0 4 rfl) ?_
  refine r_icmp_le C 18 rfl (dk_at dk_Face_refused_0 5 rfl) (fun c9 => ?_) (fun c9 => ?_)
  · replace h := h.1 c9
    refine r_iload_n C 1 rfl (dk_at dk_Face_refused_0 11 rfl) ?_
    refine r_ineg C (dk_at dk_Face_refused_0 12 rfl) ?_
    refine r_iconst C 2 (dk_at dk_Face_refused_0 13 rfl) ?_
    refine r_isub C (dk_at dk_Face_refused_0 14 rfl) ?_
    refine r_lv [0, 1] rfl ?_
    exact t_Face_refused_j22 C hL h
  · replace h := h.2 c9
    refine r_iload_n C 1 rfl (dk_at dk_Face_refused_0 6 rfl) ?_
    refine r_ineg C (dk_at dk_Face_refused_0 7 rfl) ?_
    refine r_iconst C 1 (dk_at dk_Face_refused_0 8 rfl) ?_
    refine r_isub C (dk_at dk_Face_refused_0 9 rfl) ?_
    refine r_goto C 22 rfl (dk_at dk_Face_refused_0 10 rfl) ?_
    refine r_lv [0, 1] rfl ?_
    exact t_Face_refused_j22 C hL h
  )
set_option maxRecDepth 20000 in
theorem m_Face_granted {l : Launch} {w : WO} {T : TXT} {z : EXa} (hL : LyX w T z) {σ : DD} {a1 : Int32} {post : Int32 → DD → Prop} (h : w_Face_granted T σ a1 post) : MI l w yX10_granted cX10_granted 2 .int (rmK 0 0) σ [.ref (wAd w 0), .int a1] post :=
  met_head (rt := (some .int)) (by decide) rfl (fun X hX C => by
  subst hX
  unfold w_Face_granted at h
  show gW X w (lim0 w) 2 (QI X w post) σ 0 [(0, .ref (wAd w 0)), (1, .int a1)] []
  refine r_aload_n C 0 rfl (dk_at dk_Face_granted_0 0 rfl) ?_
  refine r_iconst C 0 (dk_at dk_Face_granted_0 1 rfl) ?_
  refine r_putI C fl_Face_312 0 (hL.1 0 _ rfl) rfl (dk_at dk_Face_granted_0 2 rfl) (r_sg (fun σ1 e2 => ?_))
  replace h := h σ1 e2
  refine r_iload_n C 1 rfl (dk_at dk_Face_granted_0 3 rfl) ?_
  exact r_iret C h (dk_at dk_Face_granted_0 4 rfl)
  )
set_option maxRecDepth 20000 in
theorem m_Face_act {l : Launch} {w : WO} {T : TXT} {z : EXa} (hL : LyX w T z) {σ : DD} {a1 : Int32} {a2 : Int32} {a3 : Int32} {post : Int32 → DD → Prop} (h : w_Face_act T σ a1 a2 a3 post) : MI l w yX10_act cX10_act 4 .int (rmK 2 43) σ [.ref (wAd w 0), .int a1, .int a2, .int a3] post :=
  met_head (rt := (some .int)) (by decide) rfl (fun X hX C => by
  subst hX
  unfold w_Face_act at h
  show gW X w (lim0 w) 4 (QI X w post) σ 0 [(0, .ref (wAd w 0)), (1, .int a1), (2, .int a2), (3, .int a3)] []
  refine r_iload_n C 1 rfl (dk_at dk_Face_act_0 0 rfl) ?_
  refine r_iload_n C 2 rfl (dk_at dk_Face_act_0 1 rfl) ?_
  refine r_iload_n C 3 rfl (dk_at dk_Face_act_0 2 rfl) ?_
  refine r_csI C cs_Face_86 [.int a1, .int a2, .int a3] (m_Real_canBeAct hL h) (rmK_ok rfl rfl) rfl rfl (Nat.le_of_ble_eq_true rfl) (dk_at dk_Face_act_0 3 rfl) (fun r1 σ2 h => ?_)
  refine r_if_ne C 15 rfl (dk_at dk_Face_act_0 4 rfl) (fun c3 => ?_) (fun c3 => ?_)
  · replace h := h.1 c3
    refine r_aload_n C 0 rfl (dk_at dk_Face_act_0 9 rfl) ?_
    refine r_getR C fl_Face_10 0 (hL.1 0 _ rfl) rfl (dk_at dk_Face_act_0 10 rfl) ?_
    refine r_getI C fl_Face_94 200 (hL.1 200 _ rfl) rfl (dk_at dk_Face_act_0 11 rfl) ?_
    refine r_bipush C 8 (dk_at dk_Face_act_0 12 rfl) ?_
    refine r_icmp_lt C 34 rfl (dk_at dk_Face_act_0 13 rfl) (fun c4 => ?_) (fun c4 => ?_)
    · replace h := h.1 c4
      refine r_aload_n C 0 rfl (dk_at dk_Face_act_0 18 rfl) ?_
      refine r_aload_n C 0 rfl (dk_at dk_Face_act_0 19 rfl) ?_
      refine r_getR C fl_Face_10 0 (hL.1 0 _ rfl) rfl (dk_at dk_Face_act_0 20 rfl) ?_
      refine r_iload_n C 1 rfl (dk_at dk_Face_act_0 21 rfl) ?_
      refine r_iload_n C 2 rfl (dk_at dk_Face_act_0 22 rfl) ?_
      refine r_iload_n C 3 rfl (dk_at dk_Face_act_0 23 rfl) ?_
      refine r_iconst C (-1) (dk_at dk_Face_act_0 24 rfl) ?_
      refine r_cvI C cl_Face_98 200 (hL.1 200 _ rfl) [.int a1, .int a2, .int a3, .int (-1)] (m_Real_addAct hL h) (rmK_ok rfl rfl) rfl rfl (Nat.le_of_ble_eq_true rfl) (dk_at dk_Face_act_0 25 rfl) (fun r5 σ6 h => ?_)
      refine r_cvI C cl_Face_102 0 (hL.1 0 _ rfl) [.int r5] (m_Face_granted hL h) (rmK_ok rfl rfl) rfl rfl (Nat.le_of_ble_eq_true rfl) (dk_at dk_Face_act_0 26 rfl) (fun r7 σ8 h => ?_)
      exact r_iret C h (dk_at dk_Face_act_0 27 rfl)
    · replace h := h.2 c4
      refine r_aload_n C 0 rfl (dk_at dk_Face_act_0 14 rfl) ?_
      refine r_bipush C (-5) (dk_at dk_Face_act_0 15 rfl) ?_
      refine r_cvI C cl_Face_90 0 (hL.1 0 _ rfl) [.int (-5)] (m_Face_refused hL h) (rmK_ok rfl rfl) rfl rfl (Nat.le_of_ble_eq_true rfl) (dk_at dk_Face_act_0 16 rfl) (fun r9 σ10 h => ?_)
      exact r_iret C h (dk_at dk_Face_act_0 17 rfl)
  · replace h := h.2 c3
    refine r_aload_n C 0 rfl (dk_at dk_Face_act_0 5 rfl) ?_
    refine r_iconst C (-1) (dk_at dk_Face_act_0 6 rfl) ?_
    refine r_cvI C cl_Face_90 0 (hL.1 0 _ rfl) [.int (-1)] (m_Face_refused hL h) (rmK_ok rfl rfl) rfl rfl (Nat.le_of_ble_eq_true rfl) (dk_at dk_Face_act_0 7 rfl) (fun r11 σ12 h => ?_)
    exact r_iret C h (dk_at dk_Face_act_0 8 rfl)
  )
set_option maxRecDepth 20000 in
theorem t_Face_put_j75 {X : CT} {w : WO} (C : CF X w (lim0 w) 7 cX10_put RX10 (some .int) (.code yX10_put cX10_put 7 (some .int)) (rmK 1 22)) {T : TXT} {z : EXa} (hL : LyX w T z) {post : Int32 → DD → Prop} {σ : DD} (h : w_Face_put_j75 T post σ) : gW X w (lim0 w) 7 (QI X w post) σ 75 [(0, .ref (wAd w 0))] [] := by
  unfold w_Face_put_j75 at h
  refine r_aload_n C 0 rfl (dk_at dk_Face_put_0 39 rfl) ?_
  refine r_bipush C (-2) (dk_at dk_Face_put_1 0 rfl) ?_
  refine r_cvI C cl_Face_90 0 (hL.1 0 _ rfl) [.int (-2)] (m_Face_refused hL h) (rmK_ok rfl rfl) rfl rfl (Nat.le_of_ble_eq_true rfl) (dk_at dk_Face_put_1 1 rfl) (fun r1 σ2 h => ?_)
  exact r_iret C h (dk_at dk_Face_put_1 2 rfl)
set_option maxRecDepth 20000 in
theorem t_Face_put_j82 {X : CT} {w : WO} (C : CF X w (lim0 w) 7 cX10_put RX10 (some .int) (.code yX10_put cX10_put 7 (some .int)) (rmK 1 22)) {T : TXT} {z : EXa} (hL : LyX w T z) {post : Int32 → DD → Prop} {a1 : Int32} {a2 : Int32} {a3 : Int32} {σ : DD} (h : w_Face_put_j82 T post σ a1 a2 a3) : gW X w (lim0 w) 7 (QI X w post) σ 82 [(0, .ref (wAd w 0)), (1, .int a1), (2, .int a2), (3, .int a3)] [] := by
  unfold w_Face_put_j82 at h
  refine r_aload_n C 0 rfl (dk_at dk_Face_put_1 3 rfl) ?_
  refine r_getR C fl_Face_10 0 (hL.1 0 _ rfl) rfl (dk_at dk_Face_put_1 4 rfl) ?_
  refine r_iload_n C 1 rfl (dk_at dk_Face_put_1 5 rfl) ?_
  refine r_iload_n C 2 rfl (dk_at dk_Face_put_1 6 rfl) ?_
  refine r_cvI C cl_Face_116 200 (hL.1 200 _ rfl) [.int a1, .int a2] (m_Real_trait hL h) (rmK_ok rfl rfl) rfl rfl (Nat.le_of_ble_eq_true rfl) (dk_at dk_Face_put_1 7 rfl) (fun r3 σ4 h => ?_)
  refine r_istore C [(6, .int r3), (0, .ref (wAd w 0)), (1, .int a1), (2, .int a2), (3, .int a3)] rfl rfl (dk_at dk_Face_put_1 8 rfl) ?_
  refine r_aload_n C 1 rfl (dk_at dk_Face_put_1 9 rfl) ?_
  refine r_getR C fl_Face_10 0 (hL.1 0 _ rfl) rfl (dk_at dk_Face_put_1 10 rfl) ?_
  refine r_getR C fl_Face_120 200 (hL.1 200 _ rfl) rfl (dk_at dk_Face_put_1 11 rfl) ?_
  refine r_iload_n C 2 rfl (dk_at dk_Face_put_1 12 rfl) ?_
  refine r_iconst C 4 (dk_at dk_Face_put_1 13 rfl) ?_
  refine r_imul C (dk_at dk_Face_put_1 14 rfl) ?_
  refine r_iload_n C 3 rfl (dk_at dk_Face_put_1 15 rfl) ?_
  refine r_iadd C (dk_at dk_Face_put_1 16 rfl) ?_
  refine r_iload_n C 4 rfl (dk_at dk_Face_put_1 17 rfl) ?_
  obtain ⟨q7, h⟩ := h
  refine r_iast C 202 (hL.1 202 _ rfl) q7 (dk_at dk_Face_put_1 18 rfl) (r_sg (fun σ5 e6 => ?_))
  replace h := h σ5 e6
  refine r_aload_n C 1 rfl (dk_at dk_Face_put_1 19 rfl) ?_
  refine r_getR C fl_Face_41 0 (hL.1 0 _ rfl) rfl (dk_at dk_Face_put_1 20 rfl) ?_
  refine r_cvV C cl_Face_123 50 (hL.1 50 _ rfl) [] (m_Court_forget hL h) (rmK_ok rfl rfl) rfl rfl (Nat.le_of_ble_eq_true rfl) (dk_at dk_Face_put_1 21 rfl) (fun σ9 h => ?_)
  refine r_aload_n C 1 rfl (dk_at dk_Face_put_1 22 rfl) ?_
  refine r_iload C 0 rfl (dk_at dk_Face_put_1 23 rfl) ?_
  refine r_cvI C cl_Face_102 0 (hL.1 0 _ rfl) [.int r3] (m_Face_granted hL h) (rmK_ok rfl rfl) rfl rfl (Nat.le_of_ble_eq_true rfl) (dk_at dk_Face_put_1 24 rfl) (fun r10 σ11 h => ?_)
  exact r_iret C h (dk_at dk_Face_put_1 25 rfl)
set_option maxRecDepth 20000 in
theorem t_Face_put_j46 {X : CT} {w : WO} (C : CF X w (lim0 w) 7 cX10_put RX10 (some .int) (.code yX10_put cX10_put 7 (some .int)) (rmK 1 22)) {T : TXT} {z : EXa} (hL : LyX w T z) {post : Int32 → DD → Prop} {a1 : Int32} {a2 : Int32} {a3 : Int32} {t0 : Int32} {σ : DD} (h : w_Face_put_j46 T post σ a1 a2 a3 t0) : gW X w (lim0 w) 7 (QI X w post) σ 46 [(0, .ref (wAd w 0)), (1, .int a1), (2, .int a2), (3, .int a3)] [.int t0] := by
  unfold w_Face_put_j46 at h
  refine r_istore C [(5, .int t0), (0, .ref (wAd w 0)), (1, .int a1), (2, .int a2), (3, .int a3)] rfl rfl (dk_at dk_Face_put_0 26 rfl) ?_
  refine r_aload_n C 1 rfl (dk_at dk_Face_put_0 27 rfl) ?_
  refine r_getR C fl_Face_10 0 (hL.1 0 _ rfl) rfl (dk_at dk_Face_put_0 28 rfl) ?_
  refine r_iload_n C 2 rfl (dk_at dk_Face_put_0 29 rfl) ?_
  refine r_cvI C cl_Face_112 200 (hL.1 200 _ rfl) [.int a1] (m_Real_isAct hL h) (rmK_ok rfl rfl) rfl rfl (Nat.le_of_ble_eq_true rfl) (dk_at dk_Face_put_0 30 rfl) (fun r12 σ13 h => ?_)
  refine r_if_eq C 75 rfl (dk_at dk_Face_put_0 31 rfl) (fun c14 => ?_) (fun c14 => ?_)
  · replace h := h.1 c14
    refine r_lv [1] rfl ?_
    exact t_Face_put_j75 C hL h
  · replace h := h.2 c14
    refine r_iload C 0 rfl (dk_at dk_Face_put_0 32 rfl) ?_
    refine r_if_eq C 82 rfl (dk_at dk_Face_put_0 33 rfl) (fun c15 => ?_) (fun c15 => ?_)
    · replace h := h.1 c15
      refine r_lv [1, 2, 3, 4] rfl ?_
      exact t_Face_put_j82 C hL h
    · replace h := h.2 c15
      refine r_aload_n C 1 rfl (dk_at dk_Face_put_0 34 rfl) ?_
      refine r_getR C fl_Face_10 0 (hL.1 0 _ rfl) rfl (dk_at dk_Face_put_0 35 rfl) ?_
      refine r_iload_n C 4 rfl (dk_at dk_Face_put_0 36 rfl) ?_
      refine r_cvI C cl_Face_112 200 (hL.1 200 _ rfl) [.int a3] (m_Real_isAct hL h) (rmK_ok rfl rfl) rfl rfl (Nat.le_of_ble_eq_true rfl) (dk_at dk_Face_put_0 37 rfl) (fun r16 σ17 h => ?_)
      refine r_if_ne C 82 rfl (dk_at dk_Face_put_0 38 rfl) (fun c18 => ?_) (fun c18 => ?_)
      · replace h := h.1 c18
        refine r_lv [1, 2, 3, 4] rfl ?_
        exact t_Face_put_j82 C hL h
      · replace h := h.2 c18
        refine r_lv [1] rfl ?_
        exact t_Face_put_j75 C hL h
set_option maxRecDepth 20000 in
theorem t_Face_put_j45 {X : CT} {w : WO} (C : CF X w (lim0 w) 7 cX10_put RX10 (some .int) (.code yX10_put cX10_put 7 (some .int)) (rmK 1 22)) {T : TXT} {z : EXa} (hL : LyX w T z) {post : Int32 → DD → Prop} {a1 : Int32} {a2 : Int32} {a3 : Int32} {σ : DD} (h : w_Face_put_j45 T post σ a1 a2 a3) : gW X w (lim0 w) 7 (QI X w post) σ 45 [(0, .ref (wAd w 0)), (1, .int a1), (2, .int a2), (3, .int a3)] [] := by
  unfold w_Face_put_j45 at h
  refine r_iconst C 0 (dk_at dk_Face_put_0 25 rfl) ?_
  refine r_lv [0, 1, 2, 3] rfl ?_
  exact t_Face_put_j46 C hL h
set_option maxRecDepth 20000 in
theorem t_Face_put_j18 {X : CT} {w : WO} (C : CF X w (lim0 w) 7 cX10_put RX10 (some .int) (.code yX10_put cX10_put 7 (some .int)) (rmK 1 22)) {T : TXT} {z : EXa} (hL : LyX w T z) {post : Int32 → DD → Prop} {a1 : Int32} {a2 : Int32} {a3 : Int32} {t0 : Int32} {σ : DD} (h : w_Face_put_j18 T post σ a1 a2 a3 t0) : gW X w (lim0 w) 7 (QI X w post) σ 18 [(0, .ref (wAd w 0)), (1, .int a1), (2, .int a2), (3, .int a3)] [.int t0] := by
  unfold w_Face_put_j18 at h
  refine r_istore C [(4, .int t0), (0, .ref (wAd w 0)), (1, .int a1), (2, .int a2), (3, .int a3)] rfl rfl (dk_at dk_Face_put_0 10 rfl) ?_
  refine r_iload C 0 rfl (dk_at dk_Face_put_0 11 rfl) ?_
  refine r_if_ne C 31 rfl (dk_at dk_Face_put_0 12 rfl) (fun c19 => ?_) (fun c19 => ?_)
  · replace h := h.1 c19
    refine r_iload_n C 3 rfl (dk_at dk_Face_put_0 17 rfl) ?_
    refine r_iconst C 3 (dk_at dk_Face_put_0 18 rfl) ?_
    refine r_icmp_ne C 45 rfl (dk_at dk_Face_put_0 19 rfl) (fun c20 => ?_) (fun c20 => ?_)
    · replace h := h.1 c20
      refine r_lv [1, 2, 3, 4] rfl ?_
      exact t_Face_put_j45 C hL h
    · replace h := h.2 c20
      refine r_iload_n C 4 rfl (dk_at dk_Face_put_0 20 rfl) ?_
      refine r_iconst C (-1) (dk_at dk_Face_put_0 21 rfl) ?_
      refine r_icmp_eq C 45 rfl (dk_at dk_Face_put_0 22 rfl) (fun c21 => ?_) (fun c21 => ?_)
      · replace h := h.1 c21
        refine r_lv [1, 2, 3, 4] rfl ?_
        exact t_Face_put_j45 C hL h
      · replace h := h.2 c21
        refine r_iconst C 1 (dk_at dk_Face_put_0 23 rfl) ?_
        refine r_goto C 46 rfl (dk_at dk_Face_put_0 24 rfl) ?_
        refine r_lv [1, 2, 3, 4] rfl ?_
        exact t_Face_put_j46 C hL h
  · replace h := h.2 c19
    refine r_aload_n C 1 rfl (dk_at dk_Face_put_0 13 rfl) ?_
    refine r_iconst C (-1) (dk_at dk_Face_put_0 14 rfl) ?_
    refine r_cvI C cl_Face_90 0 (hL.1 0 _ rfl) [.int (-1)] (m_Face_refused hL h) (rmK_ok rfl rfl) rfl rfl (Nat.le_of_ble_eq_true rfl) (dk_at dk_Face_put_0 15 rfl) (fun r22 σ23 h => ?_)
    exact r_iret C h (dk_at dk_Face_put_0 16 rfl)
set_option maxRecDepth 20000 in
theorem m_Face_put {l : Launch} {w : WO} {T : TXT} {z : EXa} (hL : LyX w T z) {σ : DD} {a1 : Int32} {a2 : Int32} {a3 : Int32} {post : Int32 → DD → Prop} (h : w_Face_put T σ a1 a2 a3 post) : MI l w yX10_put cX10_put 7 .int (rmK 1 22) σ [.ref (wAd w 0), .int a1, .int a2, .int a3] post :=
  met_head (rt := (some .int)) (by decide) rfl (fun X hX C => by
  subst hX
  unfold w_Face_put at h
  show gW X w (lim0 w) 7 (QI X w post) σ 0 [(0, .ref (wAd w 0)), (1, .int a1), (2, .int a2), (3, .int a3)] []
  refine r_iload_n C 2 rfl (dk_at dk_Face_put_0 0 rfl) ?_
  refine r_iconst C 3 (dk_at dk_Face_put_0 1 rfl) ?_
  refine r_icmp_ne C 13 rfl (dk_at dk_Face_put_0 2 rfl) (fun c24 => ?_) (fun c24 => ?_)
  · replace h := h.1 c24
    refine r_iload_n C 2 rfl (dk_at dk_Face_put_0 7 rfl) ?_
    refine r_iload_n C 3 rfl (dk_at dk_Face_put_0 8 rfl) ?_
    refine r_csI C cs_Face_109 [.int a2, .int a3] (m_Real_canBeTrait hL h) (rmK_ok rfl rfl) rfl rfl (Nat.le_of_ble_eq_true rfl) (dk_at dk_Face_put_0 9 rfl) (fun r25 σ26 h => ?_)
    refine r_lv [0, 1, 2, 3] rfl ?_
    exact t_Face_put_j18 C hL h
  · replace h := h.2 c24
    refine r_iload_n C 1 rfl (dk_at dk_Face_put_0 3 rfl) ?_
    refine r_iload_n C 3 rfl (dk_at dk_Face_put_0 4 rfl) ?_
    refine r_csI C cs_Face_105 [.int a1, .int a3] (m_Real_canBeNeed hL h) (rmK_ok rfl rfl) rfl rfl (Nat.le_of_ble_eq_true rfl) (dk_at dk_Face_put_0 5 rfl) (fun r27 σ28 h => ?_)
    refine r_goto C 18 rfl (dk_at dk_Face_put_0 6 rfl) ?_
    refine r_lv [0, 1, 2, 3] rfl ?_
    exact t_Face_put_j18 C hL h
  )
set_option maxRecDepth 20000 in
theorem m_Face_of {l : Launch} {w : WO} {T : TXT} {z : EXa} (hL : LyX w T z) {σ : DD} {a1 : Int32} {a2 : Int32} {post : Int32 → DD → Prop} (h : w_Face_of T σ a1 a2 post) : MI l w yX10_of cX10_of 4 .int (rmK 4 119) σ [.ref (wAd w 0), .int a1, .int a2] post :=
  met_head (rt := (some .int)) (by decide) rfl (fun X hX C => by
  subst hX
  unfold w_Face_of at h
  show gW X w (lim0 w) 4 (QI X w post) σ 0 [(0, .ref (wAd w 0)), (1, .int a1), (2, .int a2)] []
  refine r_aload_n C 0 rfl (dk_at dk_Face_of_0 0 rfl) ?_
  refine r_getR C fl_Face_10 0 (hL.1 0 _ rfl) rfl (dk_at dk_Face_of_0 1 rfl) ?_
  refine r_iload_n C 1 rfl (dk_at dk_Face_of_0 2 rfl) ?_
  refine r_cvI C cl_Face_112 200 (hL.1 200 _ rfl) [.int a1] (m_Real_isAct hL h) (rmK_ok rfl rfl) rfl rfl (Nat.le_of_ble_eq_true rfl) (dk_at dk_Face_of_0 3 rfl) (fun r1 σ2 h => ?_)
  refine r_if_eq C 20 rfl (dk_at dk_Face_of_0 4 rfl) (fun c3 => ?_) (fun c3 => ?_)
  · replace h := h.1 c3
    refine r_iconst C (-1) (dk_at dk_Face_of_0 10 rfl) ?_
    exact r_iret C h (dk_at dk_Face_of_0 11 rfl)
  · replace h := h.2 c3
    refine r_iload_n C 2 rfl (dk_at dk_Face_of_0 5 rfl) ?_
    refine r_if_lt C 20 rfl (dk_at dk_Face_of_0 6 rfl) (fun c4 => ?_) (fun c4 => ?_)
    · replace h := h.1 c4
      refine r_iconst C (-1) (dk_at dk_Face_of_0 10 rfl) ?_
      exact r_iret C h (dk_at dk_Face_of_0 11 rfl)
    · replace h := h.2 c4
      refine r_iload_n C 2 rfl (dk_at dk_Face_of_0 7 rfl) ?_
      refine r_iconst C 5 (dk_at dk_Face_of_0 8 rfl) ?_
      refine r_icmp_le C 22 rfl (dk_at dk_Face_of_0 9 rfl) (fun c5 => ?_) (fun c5 => ?_)
      · replace h := h.1 c5
        refine r_iload_n C 2 rfl (dk_at dk_Face_of_0 12 rfl) ?_
        refine r_iconst C 4 (dk_at dk_Face_of_0 13 rfl) ?_
        refine r_icmp_ge C 37 rfl (dk_at dk_Face_of_0 14 rfl) (fun c6 => ?_) (fun c6 => ?_)
        · replace h := h.1 c6
          refine r_aload_n C 0 rfl (dk_at dk_Face_of_0 21 rfl) ?_
          refine r_getR C fl_Face_10 0 (hL.1 0 _ rfl) rfl (dk_at dk_Face_of_0 22 rfl) ?_
          refine r_getR C fl_Face_126 200 (hL.1 200 _ rfl) rfl (dk_at dk_Face_of_0 23 rfl) ?_
          refine r_iconst C 0 (dk_at dk_Face_of_0 24 rfl) ?_
          refine r_ialdK C 208 (hL.1 208 _ rfl) lk_0 (vk_0_4) (dk_at dk_Face_of_0 25 rfl) ?_
          refine r_topi (fun v7 e8 => ?_)
          replace h := h v7 e8
          refine r_istore_n C [(3, .int v7), (0, .ref (wAd w 0)), (1, .int a1), (2, .int a2)] rfl rfl (dk_at dk_Face_of_0 26 rfl) ?_
          refine r_iload_n C 3 rfl (dk_at dk_Face_of_0 27 rfl) ?_
          refine r_iconst C 4 (dk_at dk_Face_of_0 28 rfl) ?_
          refine r_icmp_ne C 62 rfl (dk_at dk_Face_of_0 29 rfl) (fun c9 => ?_) (fun c9 => ?_)
          · replace h := h.1 c9
            refine r_aload_n C 1 rfl (dk_at dk_Face_of_0 36 rfl) ?_
            refine r_getR C fl_Face_41 0 (hL.1 0 _ rfl) rfl (dk_at dk_Face_of_0 37 rfl) ?_
            refine r_iload_n C 2 rfl (dk_at dk_Face_of_0 38 rfl) ?_
            refine r_iload_n C 0 rfl (dk_at dk_Face_of_0 39 rfl) ?_
            refine r_cvI C cl_Face_132 50 (hL.1 50 _ rfl) [.int a1, .int v7] (m_Court_holds hL h) (rmK_ok rfl rfl) rfl rfl (Nat.le_of_ble_eq_true rfl) (dk_at dk_Face_of_1 0 rfl) (fun r10 σ11 h => ?_)
            refine r_if_eq C 78 rfl (dk_at dk_Face_of_1 1 rfl) (fun c12 => ?_) (fun c12 => ?_)
            · replace h := h.1 c12
              refine r_iconst C 0 (dk_at dk_Face_of_1 4 rfl) ?_
              exact r_iret C h (dk_at dk_Face_of_1 5 rfl)
            · replace h := h.2 c12
              refine r_iconst C 1 (dk_at dk_Face_of_1 2 rfl) ?_
              refine r_goto C 79 rfl (dk_at dk_Face_of_1 3 rfl) ?_
              exact r_iret C h (dk_at dk_Face_of_1 5 rfl)
          · replace h := h.2 c9
            refine r_aload_n C 1 rfl (dk_at dk_Face_of_0 30 rfl) ?_
            refine r_getR C fl_Face_10 0 (hL.1 0 _ rfl) rfl (dk_at dk_Face_of_0 31 rfl) ?_
            refine r_iload_n C 2 rfl (dk_at dk_Face_of_0 32 rfl) ?_
            refine r_iload_n C 0 rfl (dk_at dk_Face_of_0 33 rfl) ?_
            refine r_cvI C cl_Face_129 200 (hL.1 200 _ rfl) [.int a1, .int v7] (m_Real_daysSince hL h) (rmK_ok rfl rfl) rfl rfl (Nat.le_of_ble_eq_true rfl) (dk_at dk_Face_of_0 34 rfl) (fun r13 σ14 h => ?_)
            exact r_iret C h (dk_at dk_Face_of_0 35 rfl)
        · replace h := h.2 c6
          refine r_aload_n C 0 rfl (dk_at dk_Face_of_0 15 rfl) ?_
          refine r_getR C fl_Face_10 0 (hL.1 0 _ rfl) rfl (dk_at dk_Face_of_0 16 rfl) ?_
          refine r_iload_n C 1 rfl (dk_at dk_Face_of_0 17 rfl) ?_
          refine r_iload_n C 2 rfl (dk_at dk_Face_of_0 18 rfl) ?_
          refine r_cvI C cl_Face_116 200 (hL.1 200 _ rfl) [.int a1, .int a2] (m_Real_trait hL h) (rmK_ok rfl rfl) rfl rfl (Nat.le_of_ble_eq_true rfl) (dk_at dk_Face_of_0 19 rfl) (fun r15 σ16 h => ?_)
          exact r_iret C h (dk_at dk_Face_of_0 20 rfl)
      · replace h := h.2 c5
        refine r_iconst C (-1) (dk_at dk_Face_of_0 10 rfl) ?_
        exact r_iret C h (dk_at dk_Face_of_0 11 rfl)
  )
set_option maxRecDepth 20000 in
theorem t_Face_gainsay_j14 {X : CT} {w : WO} (C : CF X w (lim0 w) 5 cX10_gainsay RX10 (some .int) (.code yX10_gainsay cX10_gainsay 5 (some .int)) (rmK 1 22)) {T : TXT} {z : EXa} (hL : LyX w T z) {post : Int32 → DD → Prop} {σ : DD} (h : w_Face_gainsay_j14 T post σ) : gW X w (lim0 w) 5 (QI X w post) σ 14 [(0, .ref (wAd w 0))] [] := by
  unfold w_Face_gainsay_j14 at h
  refine r_aload_n C 0 rfl (dk_at dk_Face_gainsay_0 8 rfl) ?_
  refine r_iconst C (-1) (dk_at dk_Face_gainsay_0 9 rfl) ?_
  refine r_cvI C cl_Face_90 0 (hL.1 0 _ rfl) [.int (-1)] (m_Face_refused hL h) (rmK_ok rfl rfl) rfl rfl (Nat.le_of_ble_eq_true rfl) (dk_at dk_Face_gainsay_0 10 rfl) (fun r1 σ2 h => ?_)
  exact r_iret C h (dk_at dk_Face_gainsay_0 11 rfl)
set_option maxRecDepth 20000 in
theorem t_Face_gainsay_j42 {X : CT} {w : WO} (C : CF X w (lim0 w) 5 cX10_gainsay RX10 (some .int) (.code yX10_gainsay cX10_gainsay 5 (some .int)) (rmK 1 22)) {T : TXT} {z : EXa} (hL : LyX w T z) {post : Int32 → DD → Prop} {σ : DD} (h : w_Face_gainsay_j42 T post σ) : gW X w (lim0 w) 5 (QI X w post) σ 42 [(0, .ref (wAd w 0))] [] := by
  unfold w_Face_gainsay_j42 at h
  refine r_aload_n C 0 rfl (dk_at dk_Face_gainsay_0 22 rfl) ?_
  refine r_bipush C (-2) (dk_at dk_Face_gainsay_0 23 rfl) ?_
  refine r_cvI C cl_Face_90 0 (hL.1 0 _ rfl) [.int (-2)] (m_Face_refused hL h) (rmK_ok rfl rfl) rfl rfl (Nat.le_of_ble_eq_true rfl) (dk_at dk_Face_gainsay_0 24 rfl) (fun r3 σ4 h => ?_)
  exact r_iret C h (dk_at dk_Face_gainsay_0 25 rfl)
set_option maxRecDepth 20000 in
theorem m_Face_gainsay {l : Launch} {w : WO} {T : TXT} {z : EXa} (hL : LyX w T z) {σ : DD} {a1 : Int32} {a2 : Int32} {a3 : Int32} {post : Int32 → DD → Prop} (h : w_Face_gainsay T σ a1 a2 a3 post) : MI l w yX10_gainsay cX10_gainsay 5 .int (rmK 1 22) σ [.ref (wAd w 0), .int a1, .int a2, .int a3] post :=
  met_head (rt := (some .int)) (by decide) rfl (fun X hX C => by
  subst hX
  unfold w_Face_gainsay at h
  show gW X w (lim0 w) 5 (QI X w post) σ 0 [(0, .ref (wAd w 0)), (1, .int a1), (2, .int a2), (3, .int a3)] []
  refine r_iload_n C 1 rfl (dk_at dk_Face_gainsay_0 0 rfl) ?_
  refine r_iload_n C 2 rfl (dk_at dk_Face_gainsay_0 1 rfl) ?_
  refine r_icmp_eq C 14 rfl (dk_at dk_Face_gainsay_0 2 rfl) (fun c5 => ?_) (fun c5 => ?_)
  · replace h := h.1 c5
    refine r_lv [0] rfl ?_
    exact t_Face_gainsay_j14 C hL h
  · replace h := h.2 c5
    refine r_iload_n C 3 rfl (dk_at dk_Face_gainsay_0 3 rfl) ?_
    refine r_if_lt C 14 rfl (dk_at dk_Face_gainsay_0 4 rfl) (fun c6 => ?_) (fun c6 => ?_)
    · replace h := h.1 c6
      refine r_lv [0] rfl ?_
      exact t_Face_gainsay_j14 C hL h
    · replace h := h.2 c6
      refine r_iload_n C 3 rfl (dk_at dk_Face_gainsay_0 5 rfl) ?_
      refine r_iconst C 1 (dk_at dk_Face_gainsay_0 6 rfl) ?_
      refine r_icmp_le C 20 rfl (dk_at dk_Face_gainsay_0 7 rfl) (fun c7 => ?_) (fun c7 => ?_)
      · replace h := h.1 c7
        refine r_aload_n C 0 rfl (dk_at dk_Face_gainsay_0 12 rfl) ?_
        refine r_getR C fl_Face_10 0 (hL.1 0 _ rfl) rfl (dk_at dk_Face_gainsay_0 13 rfl) ?_
        refine r_iload_n C 1 rfl (dk_at dk_Face_gainsay_0 14 rfl) ?_
        refine r_cvI C cl_Face_112 200 (hL.1 200 _ rfl) [.int a1] (m_Real_isAct hL h) (rmK_ok rfl rfl) rfl rfl (Nat.le_of_ble_eq_true rfl) (dk_at dk_Face_gainsay_0 15 rfl) (fun r8 σ9 h => ?_)
        refine r_if_eq C 42 rfl (dk_at dk_Face_gainsay_0 16 rfl) (fun c10 => ?_) (fun c10 => ?_)
        · replace h := h.1 c10
          refine r_lv [0] rfl ?_
          exact t_Face_gainsay_j42 C hL h
        · replace h := h.2 c10
          refine r_aload_n C 0 rfl (dk_at dk_Face_gainsay_0 17 rfl) ?_
          refine r_getR C fl_Face_10 0 (hL.1 0 _ rfl) rfl (dk_at dk_Face_gainsay_0 18 rfl) ?_
          refine r_iload_n C 2 rfl (dk_at dk_Face_gainsay_0 19 rfl) ?_
          refine r_cvI C cl_Face_112 200 (hL.1 200 _ rfl) [.int a2] (m_Real_isAct hL h) (rmK_ok rfl rfl) rfl rfl (Nat.le_of_ble_eq_true rfl) (dk_at dk_Face_gainsay_0 20 rfl) (fun r11 σ12 h => ?_)
          refine r_if_ne C 49 rfl (dk_at dk_Face_gainsay_0 21 rfl) (fun c13 => ?_) (fun c13 => ?_)
          · replace h := h.1 c13
            refine r_aload_n C 0 rfl (dk_at dk_Face_gainsay_0 26 rfl) ?_
            refine r_getR C fl_Face_10 0 (hL.1 0 _ rfl) rfl (dk_at dk_Face_gainsay_0 27 rfl) ?_
            refine r_getR C fl_Face_135 200 (hL.1 200 _ rfl) rfl (dk_at dk_Face_gainsay_0 28 rfl) ?_
            refine r_iload_n C 1 rfl (dk_at dk_Face_gainsay_0 29 rfl) ?_
            obtain ⟨q14, h⟩ := h
            refine r_iald C 203 (hL.1 203 _ rfl) q14 (dk_at dk_Face_gainsay_0 30 rfl) ?_
            refine r_iload_n C 2 rfl (dk_at dk_Face_gainsay_0 31 rfl) ?_
            refine r_ishr C (dk_at dk_Face_gainsay_0 32 rfl) ?_
            refine r_iconst C 1 (dk_at dk_Face_gainsay_0 33 rfl) ?_
            refine r_iand C (dk_at dk_Face_gainsay_0 34 rfl) ?_
            refine r_topi (fun v15 e16 => ?_)
            replace h := h v15 e16
            refine r_istore C [(4, .int v15), (0, .ref (wAd w 0)), (1, .int a1), (2, .int a2), (3, .int a3)] rfl rfl (dk_at dk_Face_gainsay_0 35 rfl) ?_
            refine r_aload_n C 1 rfl (dk_at dk_Face_gainsay_0 36 rfl) ?_
            refine r_getR C fl_Face_10 0 (hL.1 0 _ rfl) rfl (dk_at dk_Face_gainsay_0 37 rfl) ?_
            refine r_getR C fl_Face_135 200 (hL.1 200 _ rfl) rfl (dk_at dk_Face_gainsay_0 38 rfl) ?_
            refine r_iload_n C 2 rfl (dk_at dk_Face_gainsay_0 39 rfl) ?_
            refine r_aload_n C 1 rfl (dk_at dk_Face_gainsay_1 0 rfl) ?_
            refine r_getR C fl_Face_10 0 (hL.1 0 _ rfl) rfl (dk_at dk_Face_gainsay_1 1 rfl) ?_
            refine r_getR C fl_Face_135 200 (hL.1 200 _ rfl) rfl (dk_at dk_Face_gainsay_1 2 rfl) ?_
            refine r_iload_n C 2 rfl (dk_at dk_Face_gainsay_1 3 rfl) ?_
            obtain ⟨q17, h⟩ := h
            refine r_iald C 203 (hL.1 203 _ rfl) q17 (dk_at dk_Face_gainsay_1 4 rfl) ?_
            refine r_iconst C 1 (dk_at dk_Face_gainsay_1 5 rfl) ?_
            refine r_iload_n C 3 rfl (dk_at dk_Face_gainsay_1 6 rfl) ?_
            refine r_ishl C (dk_at dk_Face_gainsay_1 7 rfl) ?_
            refine r_iconst C (-1) (dk_at dk_Face_gainsay_1 8 rfl) ?_
            refine r_ixor C (dk_at dk_Face_gainsay_1 9 rfl) ?_
            refine r_iand C (dk_at dk_Face_gainsay_1 10 rfl) ?_
            refine r_iload_n C 4 rfl (dk_at dk_Face_gainsay_1 11 rfl) ?_
            refine r_iload_n C 3 rfl (dk_at dk_Face_gainsay_1 12 rfl) ?_
            refine r_ishl C (dk_at dk_Face_gainsay_1 13 rfl) ?_
            refine r_ior C (dk_at dk_Face_gainsay_1 14 rfl) ?_
            obtain ⟨q20, h⟩ := h
            refine r_iast C 203 (hL.1 203 _ rfl) q20 (dk_at dk_Face_gainsay_1 15 rfl) (r_sg (fun σ18 e19 => ?_))
            replace h := h σ18 e19
            refine r_aload_n C 1 rfl (dk_at dk_Face_gainsay_1 16 rfl) ?_
            refine r_getR C fl_Face_10 0 (hL.1 0 _ rfl) rfl (dk_at dk_Face_gainsay_1 17 rfl) ?_
            refine r_getR C fl_Face_135 200 (hL.1 200 _ rfl) rfl (dk_at dk_Face_gainsay_1 18 rfl) ?_
            refine r_iload_n C 3 rfl (dk_at dk_Face_gainsay_1 19 rfl) ?_
            refine r_aload_n C 1 rfl (dk_at dk_Face_gainsay_1 20 rfl) ?_
            refine r_getR C fl_Face_10 0 (hL.1 0 _ rfl) rfl (dk_at dk_Face_gainsay_1 21 rfl) ?_
            refine r_getR C fl_Face_135 200 (hL.1 200 _ rfl) rfl (dk_at dk_Face_gainsay_1 22 rfl) ?_
            refine r_iload_n C 3 rfl (dk_at dk_Face_gainsay_1 23 rfl) ?_
            obtain ⟨q21, h⟩ := h
            refine r_iald C 203 (hL.1 203 _ rfl) q21 (dk_at dk_Face_gainsay_1 24 rfl) ?_
            refine r_iconst C 1 (dk_at dk_Face_gainsay_1 25 rfl) ?_
            refine r_iload_n C 2 rfl (dk_at dk_Face_gainsay_1 26 rfl) ?_
            refine r_ishl C (dk_at dk_Face_gainsay_1 27 rfl) ?_
            refine r_iconst C (-1) (dk_at dk_Face_gainsay_1 28 rfl) ?_
            refine r_ixor C (dk_at dk_Face_gainsay_1 29 rfl) ?_
            refine r_iand C (dk_at dk_Face_gainsay_1 30 rfl) ?_
            refine r_iload_n C 4 rfl (dk_at dk_Face_gainsay_1 31 rfl) ?_
            refine r_iload_n C 2 rfl (dk_at dk_Face_gainsay_1 32 rfl) ?_
            refine r_ishl C (dk_at dk_Face_gainsay_1 33 rfl) ?_
            refine r_ior C (dk_at dk_Face_gainsay_1 34 rfl) ?_
            obtain ⟨q24, h⟩ := h
            refine r_iast C 203 (hL.1 203 _ rfl) q24 (dk_at dk_Face_gainsay_1 35 rfl) (r_sg (fun σ22 e23 => ?_))
            replace h := h σ22 e23
            refine r_aload_n C 1 rfl (dk_at dk_Face_gainsay_1 36 rfl) ?_
            refine r_iload C 0 rfl (dk_at dk_Face_gainsay_1 37 rfl) ?_
            refine r_cvI C cl_Face_102 0 (hL.1 0 _ rfl) [.int v15] (m_Face_granted hL h) (rmK_ok rfl rfl) rfl rfl (Nat.le_of_ble_eq_true rfl) (dk_at dk_Face_gainsay_1 38 rfl) (fun r25 σ26 h => ?_)
            exact r_iret C h (dk_at dk_Face_gainsay_1 39 rfl)
          · replace h := h.2 c13
            refine r_lv [0] rfl ?_
            exact t_Face_gainsay_j42 C hL h
      · replace h := h.2 c7
        refine r_lv [0] rfl ?_
        exact t_Face_gainsay_j14 C hL h
  )
set_option maxRecDepth 20000 in
theorem t_Face_reader_j21 {X : CT} {w : WO} (C : CF X w (lim0 w) 4 cX10_reader RX10 (some .int) (.code yX10_reader cX10_reader 4 (some .int)) (rmK 1 22)) {T : TXT} {z : EXa} (hL : LyX w T z) {post : Int32 → DD → Prop} {σ : DD} (h : w_Face_reader_j21 T post σ) : gW X w (lim0 w) 4 (QI X w post) σ 21 [(0, .ref (wAd w 0))] [] := by
  unfold w_Face_reader_j21 at h
  refine r_aload_n C 0 rfl (dk_at dk_Face_reader_0 11 rfl) ?_
  refine r_iconst C (-1) (dk_at dk_Face_reader_0 12 rfl) ?_
  refine r_cvI C cl_Face_90 0 (hL.1 0 _ rfl) [.int (-1)] (m_Face_refused hL h) (rmK_ok rfl rfl) rfl rfl (Nat.le_of_ble_eq_true rfl) (dk_at dk_Face_reader_0 13 rfl) (fun r1 σ2 h => ?_)
  exact r_iret C h (dk_at dk_Face_reader_0 14 rfl)
set_option maxRecDepth 20000 in
theorem m_Face_reader {l : Launch} {w : WO} {T : TXT} {z : EXa} (hL : LyX w T z) {σ : DD} {a1 : Int32} {a2 : Int32} {post : Int32 → DD → Prop} (h : w_Face_reader T σ a1 a2 post) : MI l w yX10_reader cX10_reader 4 .int (rmK 1 22) σ [.ref (wAd w 0), .int a1, .int a2] post :=
  met_head (rt := (some .int)) (by decide) rfl (fun X hX C => by
  subst hX
  unfold w_Face_reader at h
  show gW X w (lim0 w) 4 (QI X w post) σ 0 [(0, .ref (wAd w 0)), (1, .int a1), (2, .int a2)] []
  refine r_iload_n C 1 rfl (dk_at dk_Face_reader_0 0 rfl) ?_
  refine r_iconst C 1 (dk_at dk_Face_reader_0 1 rfl) ?_
  refine r_icmp_lt C 21 rfl (dk_at dk_Face_reader_0 2 rfl) (fun c3 => ?_) (fun c3 => ?_)
  · replace h := h.1 c3
    refine r_lv [0] rfl ?_
    exact t_Face_reader_j21 C hL h
  · replace h := h.2 c3
    refine r_iload_n C 1 rfl (dk_at dk_Face_reader_0 3 rfl) ?_
    refine r_bipush C 99 (dk_at dk_Face_reader_0 4 rfl) ?_
    refine r_icmp_gt C 21 rfl (dk_at dk_Face_reader_0 5 rfl) (fun c4 => ?_) (fun c4 => ?_)
    · replace h := h.1 c4
      refine r_lv [0] rfl ?_
      exact t_Face_reader_j21 C hL h
    · replace h := h.2 c4
      refine r_iload_n C 2 rfl (dk_at dk_Face_reader_0 6 rfl) ?_
      refine r_if_lt C 21 rfl (dk_at dk_Face_reader_0 7 rfl) (fun c5 => ?_) (fun c5 => ?_)
      · replace h := h.1 c5
        refine r_lv [0] rfl ?_
        exact t_Face_reader_j21 C hL h
      · replace h := h.2 c5
        refine r_iload_n C 2 rfl (dk_at dk_Face_reader_0 8 rfl) ?_
        refine r_bipush C 6 (dk_at dk_Face_reader_0 9 rfl) ?_
        refine r_icmp_lt C 27 rfl (dk_at dk_Face_reader_0 10 rfl) (fun c6 => ?_) (fun c6 => ?_)
        · replace h := h.1 c6
          refine r_aload_n C 0 rfl (dk_at dk_Face_reader_0 15 rfl) ?_
          refine r_getR C fl_Face_10 0 (hL.1 0 _ rfl) rfl (dk_at dk_Face_reader_0 16 rfl) ?_
          refine r_getI C fl_Face_138 200 (hL.1 200 _ rfl) rfl (dk_at dk_Face_reader_0 17 rfl) ?_
          refine r_iconst C 4 (dk_at dk_Face_reader_0 18 rfl) ?_
          refine r_icmp_lt C 45 rfl (dk_at dk_Face_reader_0 19 rfl) (fun c7 => ?_) (fun c7 => ?_)
          · replace h := h.1 c7
            refine r_aload_n C 0 rfl (dk_at dk_Face_reader_0 24 rfl) ?_
            refine r_getR C fl_Face_10 0 (hL.1 0 _ rfl) rfl (dk_at dk_Face_reader_0 25 rfl) ?_
            refine r_getI C fl_Face_138 200 (hL.1 200 _ rfl) rfl (dk_at dk_Face_reader_0 26 rfl) ?_
            refine r_topi (fun v8 e9 => ?_)
            replace h := h v8 e9
            refine r_istore_n C [(3, .int v8), (0, .ref (wAd w 0)), (1, .int a1), (2, .int a2)] rfl rfl (dk_at dk_Face_reader_0 27 rfl) ?_
            refine r_aload_n C 1 rfl (dk_at dk_Face_reader_0 28 rfl) ?_
            refine r_getR C fl_Face_10 0 (hL.1 0 _ rfl) rfl (dk_at dk_Face_reader_0 29 rfl) ?_
            refine r_getR C fl_Face_141 200 (hL.1 200 _ rfl) rfl (dk_at dk_Face_reader_0 30 rfl) ?_
            refine r_iload_n C 0 rfl (dk_at dk_Face_reader_0 31 rfl) ?_
            refine r_iload_n C 2 rfl (dk_at dk_Face_reader_0 32 rfl) ?_
            obtain ⟨q12, h⟩ := h
            refine r_iast C 205 (hL.1 205 _ rfl) q12 (dk_at dk_Face_reader_0 33 rfl) (r_sg (fun σ10 e11 => ?_))
            replace h := h σ10 e11
            refine r_aload_n C 1 rfl (dk_at dk_Face_reader_0 34 rfl) ?_
            refine r_getR C fl_Face_10 0 (hL.1 0 _ rfl) rfl (dk_at dk_Face_reader_0 35 rfl) ?_
            refine r_getR C fl_Face_144 200 (hL.1 200 _ rfl) rfl (dk_at dk_Face_reader_0 36 rfl) ?_
            refine r_iload_n C 0 rfl (dk_at dk_Face_reader_0 37 rfl) ?_
            refine r_iload_n C 3 rfl (dk_at dk_Face_reader_0 38 rfl) ?_
            obtain ⟨q15, h⟩ := h
            refine r_iast C 206 (hL.1 206 _ rfl) q15 (dk_at dk_Face_reader_0 39 rfl) (r_sg (fun σ13 e14 => ?_))
            replace h := h σ13 e14
            refine r_aload_n C 1 rfl (dk_at dk_Face_reader_1 0 rfl) ?_
            refine r_getR C fl_Face_10 0 (hL.1 0 _ rfl) rfl (dk_at dk_Face_reader_1 1 rfl) ?_
            refine r_dup C rfl (dk_at dk_Face_reader_1 2 rfl) ?_
            refine r_getI C fl_Face_138 200 (hL.1 200 _ rfl) rfl (dk_at dk_Face_reader_1 3 rfl) ?_
            refine r_iconst C 1 (dk_at dk_Face_reader_1 4 rfl) ?_
            refine r_iadd C (dk_at dk_Face_reader_1 5 rfl) ?_
            refine r_putI C fl_Face_138 200 (hL.1 200 _ rfl) rfl (dk_at dk_Face_reader_1 6 rfl) (r_sg (fun σ16 e17 => ?_))
            replace h := h σ16 e17
            refine r_aload_n C 1 rfl (dk_at dk_Face_reader_1 7 rfl) ?_
            refine r_iload_n C 0 rfl (dk_at dk_Face_reader_1 8 rfl) ?_
            refine r_cvI C cl_Face_102 0 (hL.1 0 _ rfl) [.int v8] (m_Face_granted hL h) (rmK_ok rfl rfl) rfl rfl (Nat.le_of_ble_eq_true rfl) (dk_at dk_Face_reader_1 9 rfl) (fun r18 σ19 h => ?_)
            exact r_iret C h (dk_at dk_Face_reader_1 10 rfl)
          · replace h := h.2 c7
            refine r_aload_n C 0 rfl (dk_at dk_Face_reader_0 20 rfl) ?_
            refine r_bipush C (-5) (dk_at dk_Face_reader_0 21 rfl) ?_
            refine r_cvI C cl_Face_90 0 (hL.1 0 _ rfl) [.int (-5)] (m_Face_refused hL h) (rmK_ok rfl rfl) rfl rfl (Nat.le_of_ble_eq_true rfl) (dk_at dk_Face_reader_0 22 rfl) (fun r20 σ21 h => ?_)
            exact r_iret C h (dk_at dk_Face_reader_0 23 rfl)
        · replace h := h.2 c6
          refine r_lv [0] rfl ?_
          exact t_Face_reader_j21 C hL h
  )
set_option maxRecDepth 20000 in
theorem m_Face_throat {l : Launch} {w : WO} {T : TXT} {z : EXa} (hL : LyX w T z) {σ : DD} {a1 : Int32} {a2 : Int32} {post : Int32 → DD → Prop} (h : w_Face_throat T σ a1 a2 post) : MI l w yX10_throat cX10_throat 3 .int (rmK 3 97) σ [.ref (wAd w 0), .int a1, .int a2] post :=
  met_head (rt := (some .int)) (by decide) rfl (fun X hX C => by
  subst hX
  unfold w_Face_throat at h
  show gW X w (lim0 w) 3 (QI X w post) σ 0 [(0, .ref (wAd w 0)), (1, .int a1), (2, .int a2)] []
  refine r_aload_n C 0 rfl (dk_at dk_Face_throat_0 0 rfl) ?_
  refine r_getR C fl_Face_10 0 (hL.1 0 _ rfl) rfl (dk_at dk_Face_throat_0 1 rfl) ?_
  refine r_iload_n C 1 rfl (dk_at dk_Face_throat_0 2 rfl) ?_
  refine r_cvI C cl_Face_147 200 (hL.1 200 _ rfl) [.int a1] (m_Real_isReader hL h) (rmK_ok rfl rfl) rfl rfl (Nat.le_of_ble_eq_true rfl) (dk_at dk_Face_throat_0 3 rfl) (fun r1 σ2 h => ?_)
  refine r_if_eq C 20 rfl (dk_at dk_Face_throat_0 4 rfl) (fun c3 => ?_) (fun c3 => ?_)
  · replace h := h.1 c3
    refine r_iconst C (-1) (dk_at dk_Face_throat_0 10 rfl) ?_
    exact r_iret C h (dk_at dk_Face_throat_0 11 rfl)
  · replace h := h.2 c3
    refine r_iload_n C 2 rfl (dk_at dk_Face_throat_0 5 rfl) ?_
    refine r_if_lt C 20 rfl (dk_at dk_Face_throat_0 6 rfl) (fun c4 => ?_) (fun c4 => ?_)
    · replace h := h.1 c4
      refine r_iconst C (-1) (dk_at dk_Face_throat_0 10 rfl) ?_
      exact r_iret C h (dk_at dk_Face_throat_0 11 rfl)
    · replace h := h.2 c4
      refine r_iload_n C 2 rfl (dk_at dk_Face_throat_0 7 rfl) ?_
      refine r_iconst C 2 (dk_at dk_Face_throat_0 8 rfl) ?_
      refine r_icmp_le C 22 rfl (dk_at dk_Face_throat_0 9 rfl) (fun c5 => ?_) (fun c5 => ?_)
      · replace h := h.1 c5
        refine r_iload_n C 2 rfl (dk_at dk_Face_throat_0 12 rfl) ?_
        refine r_if_ne C 36 rfl (dk_at dk_Face_throat_0 13 rfl) (fun c6 => ?_) (fun c6 => ?_)
        · replace h := h.1 c6
          refine r_iload_n C 2 rfl (dk_at dk_Face_throat_0 20 rfl) ?_
          refine r_iconst C 1 (dk_at dk_Face_throat_0 21 rfl) ?_
          refine r_icmp_ne C 53 rfl (dk_at dk_Face_throat_0 22 rfl) (fun c7 => ?_) (fun c7 => ?_)
          · replace h := h.1 c7
            refine r_aload_n C 0 rfl (dk_at dk_Face_throat_0 29 rfl) ?_
            refine r_getR C fl_Face_41 0 (hL.1 0 _ rfl) rfl (dk_at dk_Face_throat_0 30 rfl) ?_
            refine r_iload_n C 1 rfl (dk_at dk_Face_throat_0 31 rfl) ?_
            refine r_aload_n C 0 rfl (dk_at dk_Face_throat_0 32 rfl) ?_
            refine r_getR C fl_Face_10 0 (hL.1 0 _ rfl) rfl (dk_at dk_Face_throat_0 33 rfl) ?_
            refine r_getR C fl_Face_126 200 (hL.1 200 _ rfl) rfl (dk_at dk_Face_throat_0 34 rfl) ?_
            refine r_iconst C 0 (dk_at dk_Face_throat_0 35 rfl) ?_
            refine r_ialdK C 208 (hL.1 208 _ rfl) lk_0 (vk_0_4) (dk_at dk_Face_throat_0 36 rfl) ?_
            refine r_cvI C cl_Face_150 50 (hL.1 50 _ rfl) [.int a1, .int (gI σ2 208 0)] (m_Court_voiceLeft hL h) (rmK_ok rfl rfl) rfl rfl (Nat.le_of_ble_eq_true rfl) (dk_at dk_Face_throat_0 37 rfl) (fun r8 σ9 h => ?_)
            exact r_iret C h (dk_at dk_Face_throat_0 38 rfl)
          · replace h := h.2 c7
            refine r_aload_n C 0 rfl (dk_at dk_Face_throat_0 23 rfl) ?_
            refine r_getR C fl_Face_10 0 (hL.1 0 _ rfl) rfl (dk_at dk_Face_throat_0 24 rfl) ?_
            refine r_getR C fl_Face_144 200 (hL.1 200 _ rfl) rfl (dk_at dk_Face_throat_0 25 rfl) ?_
            refine r_iload_n C 1 rfl (dk_at dk_Face_throat_0 26 rfl) ?_
            obtain ⟨q10, h⟩ := h
            refine r_iald C 206 (hL.1 206 _ rfl) q10 (dk_at dk_Face_throat_0 27 rfl) ?_
            refine r_goto C 70 rfl (dk_at dk_Face_throat_0 28 rfl) ?_
            exact r_iret C h (dk_at dk_Face_throat_0 38 rfl)
        · replace h := h.2 c6
          refine r_aload_n C 0 rfl (dk_at dk_Face_throat_0 14 rfl) ?_
          refine r_getR C fl_Face_10 0 (hL.1 0 _ rfl) rfl (dk_at dk_Face_throat_0 15 rfl) ?_
          refine r_getR C fl_Face_141 200 (hL.1 200 _ rfl) rfl (dk_at dk_Face_throat_0 16 rfl) ?_
          refine r_iload_n C 1 rfl (dk_at dk_Face_throat_0 17 rfl) ?_
          obtain ⟨q11, h⟩ := h
          refine r_iald C 205 (hL.1 205 _ rfl) q11 (dk_at dk_Face_throat_0 18 rfl) ?_
          exact r_iret C h (dk_at dk_Face_throat_0 19 rfl)
      · replace h := h.2 c5
        refine r_iconst C (-1) (dk_at dk_Face_throat_0 10 rfl) ?_
        exact r_iret C h (dk_at dk_Face_throat_0 11 rfl)
  )
set_option maxRecDepth 20000 in
theorem t_Face_listen_j20 {X : CT} {w : WO} (C : CF X w (lim0 w) 4 cX10_listen RX10 (some .int) (.code yX10_listen cX10_listen 4 (some .int)) (rmK 1 22)) {T : TXT} {z : EXa} (hL : LyX w T z) {post : Int32 → DD → Prop} {σ : DD} (h : w_Face_listen_j20 T post σ) : gW X w (lim0 w) 4 (QI X w post) σ 20 [(0, .ref (wAd w 0))] [] := by
  unfold w_Face_listen_j20 at h
  refine r_aload_n C 0 rfl (dk_at dk_Face_listen_0 10 rfl) ?_
  refine r_iconst C (-1) (dk_at dk_Face_listen_0 11 rfl) ?_
  refine r_cvI C cl_Face_90 0 (hL.1 0 _ rfl) [.int (-1)] (m_Face_refused hL h) (rmK_ok rfl rfl) rfl rfl (Nat.le_of_ble_eq_true rfl) (dk_at dk_Face_listen_0 12 rfl) (fun r1 σ2 h => ?_)
  exact r_iret C h (dk_at dk_Face_listen_0 13 rfl)
set_option maxRecDepth 20000 in
theorem m_Face_listen {l : Launch} {w : WO} {T : TXT} {z : EXa} (hL : LyX w T z) {σ : DD} {a1 : Int32} {a2 : Int32} {post : Int32 → DD → Prop} (h : w_Face_listen T σ a1 a2 post) : MI l w yX10_listen cX10_listen 4 .int (rmK 1 22) σ [.ref (wAd w 0), .int a1, .int a2] post :=
  met_head (rt := (some .int)) (by decide) rfl (fun X hX C => by
  subst hX
  unfold w_Face_listen at h
  show gW X w (lim0 w) 4 (QI X w post) σ 0 [(0, .ref (wAd w 0)), (1, .int a1), (2, .int a2)] []
  refine r_iload_n C 1 rfl (dk_at dk_Face_listen_0 0 rfl) ?_
  refine r_if_lt C 20 rfl (dk_at dk_Face_listen_0 1 rfl) (fun c3 => ?_) (fun c3 => ?_)
  · replace h := h.1 c3
    refine r_lv [0] rfl ?_
    exact t_Face_listen_j20 C hL h
  · replace h := h.2 c3
    refine r_iload_n C 1 rfl (dk_at dk_Face_listen_0 2 rfl) ?_
    refine r_bipush C 7 (dk_at dk_Face_listen_0 3 rfl) ?_
    refine r_icmp_ge C 20 rfl (dk_at dk_Face_listen_0 4 rfl) (fun c4 => ?_) (fun c4 => ?_)
    · replace h := h.1 c4
      refine r_lv [0] rfl ?_
      exact t_Face_listen_j20 C hL h
    · replace h := h.2 c4
      refine r_iload_n C 2 rfl (dk_at dk_Face_listen_0 5 rfl) ?_
      refine r_if_lt C 20 rfl (dk_at dk_Face_listen_0 6 rfl) (fun c5 => ?_) (fun c5 => ?_)
      · replace h := h.1 c5
        refine r_lv [0] rfl ?_
        exact t_Face_listen_j20 C hL h
      · replace h := h.2 c5
        refine r_iload_n C 2 rfl (dk_at dk_Face_listen_0 7 rfl) ?_
        refine r_bipush C 63 (dk_at dk_Face_listen_0 8 rfl) ?_
        refine r_icmp_le C 26 rfl (dk_at dk_Face_listen_0 9 rfl) (fun c6 => ?_) (fun c6 => ?_)
        · replace h := h.1 c6
          refine r_aload_n C 0 rfl (dk_at dk_Face_listen_0 14 rfl) ?_
          refine r_getR C fl_Face_10 0 (hL.1 0 _ rfl) rfl (dk_at dk_Face_listen_0 15 rfl) ?_
          refine r_getR C fl_Face_153 200 (hL.1 200 _ rfl) rfl (dk_at dk_Face_listen_0 16 rfl) ?_
          refine r_iload_n C 1 rfl (dk_at dk_Face_listen_0 17 rfl) ?_
          obtain ⟨q7, h⟩ := h
          refine r_iald C 207 (hL.1 207 _ rfl) q7 (dk_at dk_Face_listen_0 18 rfl) ?_
          refine r_topi (fun v8 e9 => ?_)
          replace h := h v8 e9
          refine r_istore_n C [(3, .int v8), (0, .ref (wAd w 0)), (1, .int a1), (2, .int a2)] rfl rfl (dk_at dk_Face_listen_0 19 rfl) ?_
          refine r_aload_n C 1 rfl (dk_at dk_Face_listen_0 20 rfl) ?_
          refine r_getR C fl_Face_10 0 (hL.1 0 _ rfl) rfl (dk_at dk_Face_listen_0 21 rfl) ?_
          refine r_getR C fl_Face_153 200 (hL.1 200 _ rfl) rfl (dk_at dk_Face_listen_0 22 rfl) ?_
          refine r_iload_n C 2 rfl (dk_at dk_Face_listen_0 23 rfl) ?_
          refine r_iload_n C 3 rfl (dk_at dk_Face_listen_0 24 rfl) ?_
          obtain ⟨q12, h⟩ := h
          refine r_iast C 207 (hL.1 207 _ rfl) q12 (dk_at dk_Face_listen_0 25 rfl) (r_sg (fun σ10 e11 => ?_))
          replace h := h σ10 e11
          refine r_aload_n C 1 rfl (dk_at dk_Face_listen_0 26 rfl) ?_
          refine r_iload_n C 0 rfl (dk_at dk_Face_listen_0 27 rfl) ?_
          refine r_cvI C cl_Face_102 0 (hL.1 0 _ rfl) [.int v8] (m_Face_granted hL h) (rmK_ok rfl rfl) rfl rfl (Nat.le_of_ble_eq_true rfl) (dk_at dk_Face_listen_0 28 rfl) (fun r13 σ14 h => ?_)
          exact r_iret C h (dk_at dk_Face_listen_0 29 rfl)
        · replace h := h.2 c6
          refine r_lv [0] rfl ?_
          exact t_Face_listen_j20 C hL h
  )
set_option maxRecDepth 20000 in
theorem t_Face_terms_j17 {X : CT} {w : WO} (C : CF X w (lim0 w) 4 cX10_terms RX10 (some .int) (.code yX10_terms cX10_terms 4 (some .int)) (rmK 1 22)) {T : TXT} {z : EXa} (hL : LyX w T z) {post : Int32 → DD → Prop} {σ : DD} (h : w_Face_terms_j17 T post σ) : gW X w (lim0 w) 4 (QI X w post) σ 17 [(0, .ref (wAd w 0))] [] := by
  unfold w_Face_terms_j17 at h
  refine r_aload_n C 0 rfl (dk_at dk_Face_terms_0 9 rfl) ?_
  refine r_iconst C (-1) (dk_at dk_Face_terms_0 10 rfl) ?_
  refine r_cvI C cl_Face_90 0 (hL.1 0 _ rfl) [.int (-1)] (m_Face_refused hL h) (rmK_ok rfl rfl) rfl rfl (Nat.le_of_ble_eq_true rfl) (dk_at dk_Face_terms_0 11 rfl) (fun r1 σ2 h => ?_)
  exact r_iret C h (dk_at dk_Face_terms_0 12 rfl)
set_option maxRecDepth 20000 in
theorem t_Face_terms_j45 {X : CT} {w : WO} (C : CF X w (lim0 w) 4 cX10_terms RX10 (some .int) (.code yX10_terms cX10_terms 4 (some .int)) (rmK 1 22)) {T : TXT} {z : EXa} (hL : LyX w T z) {post : Int32 → DD → Prop} {a1 : Int32} {a2 : Int32} {σ : DD} (h : w_Face_terms_j45 T post σ a1 a2) : gW X w (lim0 w) 4 (QI X w post) σ 45 [(0, .ref (wAd w 0)), (1, .int a1), (2, .int a2)] [] := by
  unfold w_Face_terms_j45 at h
  refine r_aload_n C 0 rfl (dk_at dk_Face_terms_0 24 rfl) ?_
  refine r_getR C fl_Face_10 0 (hL.1 0 _ rfl) rfl (dk_at dk_Face_terms_0 25 rfl) ?_
  refine r_getR C fl_Face_126 200 (hL.1 200 _ rfl) rfl (dk_at dk_Face_terms_0 26 rfl) ?_
  refine r_iload_n C 1 rfl (dk_at dk_Face_terms_0 27 rfl) ?_
  obtain ⟨q3, h⟩ := h
  refine r_iald C 208 (hL.1 208 _ rfl) q3 (dk_at dk_Face_terms_0 28 rfl) ?_
  refine r_topi (fun v4 e5 => ?_)
  replace h := h v4 e5
  refine r_istore_n C [(3, .int v4), (0, .ref (wAd w 0)), (1, .int a1), (2, .int a2)] rfl rfl (dk_at dk_Face_terms_0 29 rfl) ?_
  refine r_aload_n C 1 rfl (dk_at dk_Face_terms_0 30 rfl) ?_
  refine r_getR C fl_Face_10 0 (hL.1 0 _ rfl) rfl (dk_at dk_Face_terms_0 31 rfl) ?_
  refine r_getR C fl_Face_126 200 (hL.1 200 _ rfl) rfl (dk_at dk_Face_terms_0 32 rfl) ?_
  refine r_iload_n C 2 rfl (dk_at dk_Face_terms_0 33 rfl) ?_
  refine r_iload_n C 3 rfl (dk_at dk_Face_terms_0 34 rfl) ?_
  obtain ⟨q8, h⟩ := h
  refine r_iast C 208 (hL.1 208 _ rfl) q8 (dk_at dk_Face_terms_0 35 rfl) (r_sg (fun σ6 e7 => ?_))
  replace h := h σ6 e7
  refine r_aload_n C 1 rfl (dk_at dk_Face_terms_0 36 rfl) ?_
  refine r_getR C fl_Face_41 0 (hL.1 0 _ rfl) rfl (dk_at dk_Face_terms_0 37 rfl) ?_
  refine r_cvV C cl_Face_123 50 (hL.1 50 _ rfl) [] (m_Court_forget hL h) (rmK_ok rfl rfl) rfl rfl (Nat.le_of_ble_eq_true rfl) (dk_at dk_Face_terms_0 38 rfl) (fun σ10 h => ?_)
  refine r_aload_n C 1 rfl (dk_at dk_Face_terms_0 39 rfl) ?_
  refine r_iload_n C 0 rfl (dk_at dk_Face_terms_1 0 rfl) ?_
  refine r_cvI C cl_Face_102 0 (hL.1 0 _ rfl) [.int v4] (m_Face_granted hL h) (rmK_ok rfl rfl) rfl rfl (Nat.le_of_ble_eq_true rfl) (dk_at dk_Face_terms_1 1 rfl) (fun r11 σ12 h => ?_)
  exact r_iret C h (dk_at dk_Face_terms_1 2 rfl)
set_option maxRecDepth 20000 in
theorem m_Face_terms {l : Launch} {w : WO} {T : TXT} {z : EXa} (hL : LyX w T z) {σ : DD} {a1 : Int32} {a2 : Int32} {post : Int32 → DD → Prop} (h : w_Face_terms T σ a1 a2 post) : MI l w yX10_terms cX10_terms 4 .int (rmK 1 22) σ [.ref (wAd w 0), .int a1, .int a2] post :=
  met_head (rt := (some .int)) (by decide) rfl (fun X hX C => by
  subst hX
  unfold w_Face_terms at h
  show gW X w (lim0 w) 4 (QI X w post) σ 0 [(0, .ref (wAd w 0)), (1, .int a1), (2, .int a2)] []
  refine r_iload_n C 1 rfl (dk_at dk_Face_terms_0 0 rfl) ?_
  refine r_if_lt C 17 rfl (dk_at dk_Face_terms_0 1 rfl) (fun c13 => ?_) (fun c13 => ?_)
  · replace h := h.1 c13
    refine r_lv [0] rfl ?_
    exact t_Face_terms_j17 C hL h
  · replace h := h.2 c13
    refine r_iload_n C 1 rfl (dk_at dk_Face_terms_0 2 rfl) ?_
    refine r_iconst C 4 (dk_at dk_Face_terms_0 3 rfl) ?_
    refine r_icmp_ge C 17 rfl (dk_at dk_Face_terms_0 4 rfl) (fun c14 => ?_) (fun c14 => ?_)
    · replace h := h.1 c14
      refine r_lv [0] rfl ?_
      exact t_Face_terms_j17 C hL h
    · replace h := h.2 c14
      refine r_iload_n C 1 rfl (dk_at dk_Face_terms_0 5 rfl) ?_
      refine r_iload_n C 2 rfl (dk_at dk_Face_terms_0 6 rfl) ?_
      refine r_csI C cs_Face_156 [.int a1, .int a2] (m_Real_canBeTerm hL h) (rmK_ok rfl rfl) rfl rfl (Nat.le_of_ble_eq_true rfl) (dk_at dk_Face_terms_0 7 rfl) (fun r15 σ16 h => ?_)
      refine r_if_ne C 23 rfl (dk_at dk_Face_terms_0 8 rfl) (fun c17 => ?_) (fun c17 => ?_)
      · replace h := h.1 c17
        refine r_iload_n C 1 rfl (dk_at dk_Face_terms_0 13 rfl) ?_
        refine r_if_ne C 45 rfl (dk_at dk_Face_terms_0 14 rfl) (fun c18 => ?_) (fun c18 => ?_)
        · replace h := h.1 c18
          refine r_lv [0, 1, 2] rfl ?_
          exact t_Face_terms_j45 C hL h
        · replace h := h.2 c18
          refine r_iload_n C 2 rfl (dk_at dk_Face_terms_0 15 rfl) ?_
          refine r_aload_n C 0 rfl (dk_at dk_Face_terms_0 16 rfl) ?_
          refine r_getR C fl_Face_10 0 (hL.1 0 _ rfl) rfl (dk_at dk_Face_terms_0 17 rfl) ?_
          refine r_cvI C cl_Face_159 200 (hL.1 200 _ rfl) [] (m_Real_latestToldDay hL h) (rmK_ok rfl rfl) rfl rfl (Nat.le_of_ble_eq_true rfl) (dk_at dk_Face_terms_0 18 rfl) (fun r19 σ20 h => ?_)
          refine r_icmp_ge C 45 rfl (dk_at dk_Face_terms_0 19 rfl) (fun c21 => ?_) (fun c21 => ?_)
          · replace h := h.1 c21
            refine r_lv [0, 1, 2] rfl ?_
            exact t_Face_terms_j45 C hL h
          · replace h := h.2 c21
            refine r_aload_n C 0 rfl (dk_at dk_Face_terms_0 20 rfl) ?_
            refine r_bipush C (-3) (dk_at dk_Face_terms_0 21 rfl) ?_
            refine r_cvI C cl_Face_90 0 (hL.1 0 _ rfl) [.int (-3)] (m_Face_refused hL h) (rmK_ok rfl rfl) rfl rfl (Nat.le_of_ble_eq_true rfl) (dk_at dk_Face_terms_0 22 rfl) (fun r22 σ23 h => ?_)
            exact r_iret C h (dk_at dk_Face_terms_0 23 rfl)
      · replace h := h.2 c17
        refine r_lv [0] rfl ?_
        exact t_Face_terms_j17 C hL h
  )
set_option maxRecDepth 20000 in
theorem m_Face_feed {l : Launch} {w : WO} {T : TXT} {z : EXa} (hL : LyX w T z) {σ : DD} {a1 : Int32} {a2 : Int32} {a3 : Int32} {a4 : Int32} {a5 : Int32} {post : Int32 → DD → Prop} (h : w_Face_feed T σ a1 a2 a3 a4 a5 post) : MI l w yX10_feed cX10_feed 6 .int (rmK 1 22) σ [.ref (wAd w 0), .int a1, .int a2, .int a3, .int a4, .int a5] post :=
  met_head (rt := (some .int)) (by decide) rfl (fun X hX C => by
  subst hX
  unfold w_Face_feed at h
  show gW X w (lim0 w) 6 (QI X w post) σ 0 [(0, .ref (wAd w 0)), (1, .int a1), (2, .int a2), (3, .int a3), (4, .int a4), (5, .int a5)] []
  refine r_aload_n C 0 rfl (dk_at dk_Face_feed_0 0 rfl) ?_
  refine r_getR C fl_Face_23 0 (hL.1 0 _ rfl) rfl (dk_at dk_Face_feed_0 1 rfl) ?_
  refine r_getI C fl_Face_163 20 (hL.1 20 _ rfl) rfl (dk_at dk_Face_feed_0 2 rfl) ?_
  refine r_sipush C 380 (dk_at dk_Face_feed_0 3 rfl) ?_
  refine r_icmp_le C 15 rfl (dk_at dk_Face_feed_0 4 rfl) (fun c1 => ?_) (fun c1 => ?_)
  · replace h := h.1 c1
    refine r_aload_n C 0 rfl (dk_at dk_Face_feed_0 7 rfl) ?_
    refine r_getR C fl_Face_23 0 (hL.1 0 _ rfl) rfl (dk_at dk_Face_feed_0 8 rfl) ?_
    refine r_iload_n C 1 rfl (dk_at dk_Face_feed_0 9 rfl) ?_
    refine r_cvV C cl_Face_166 20 (hL.1 20 _ rfl) [.int a1] (m_Tape_add hL h) (rmK_ok rfl rfl) rfl rfl (Nat.le_of_ble_eq_true rfl) (dk_at dk_Face_feed_0 10 rfl) (fun σ3 h => ?_)
    refine r_aload_n C 0 rfl (dk_at dk_Face_feed_0 11 rfl) ?_
    refine r_getR C fl_Face_23 0 (hL.1 0 _ rfl) rfl (dk_at dk_Face_feed_0 12 rfl) ?_
    refine r_iload_n C 2 rfl (dk_at dk_Face_feed_0 13 rfl) ?_
    refine r_cvV C cl_Face_166 20 (hL.1 20 _ rfl) [.int a2] (m_Tape_add hL h) (rmK_ok rfl rfl) rfl rfl (Nat.le_of_ble_eq_true rfl) (dk_at dk_Face_feed_0 14 rfl) (fun σ5 h => ?_)
    refine r_aload_n C 0 rfl (dk_at dk_Face_feed_0 15 rfl) ?_
    refine r_getR C fl_Face_23 0 (hL.1 0 _ rfl) rfl (dk_at dk_Face_feed_0 16 rfl) ?_
    refine r_iload_n C 3 rfl (dk_at dk_Face_feed_0 17 rfl) ?_
    refine r_cvV C cl_Face_166 20 (hL.1 20 _ rfl) [.int a3] (m_Tape_add hL h) (rmK_ok rfl rfl) rfl rfl (Nat.le_of_ble_eq_true rfl) (dk_at dk_Face_feed_0 18 rfl) (fun σ7 h => ?_)
    refine r_aload_n C 0 rfl (dk_at dk_Face_feed_0 19 rfl) ?_
    refine r_getR C fl_Face_23 0 (hL.1 0 _ rfl) rfl (dk_at dk_Face_feed_0 20 rfl) ?_
    refine r_iload C 4 rfl (dk_at dk_Face_feed_0 21 rfl) ?_
    refine r_cvV C cl_Face_166 20 (hL.1 20 _ rfl) [.int a4] (m_Tape_add hL h) (rmK_ok rfl rfl) rfl rfl (Nat.le_of_ble_eq_true rfl) (dk_at dk_Face_feed_0 22 rfl) (fun σ9 h => ?_)
    refine r_aload_n C 0 rfl (dk_at dk_Face_feed_0 23 rfl) ?_
    refine r_getR C fl_Face_23 0 (hL.1 0 _ rfl) rfl (dk_at dk_Face_feed_0 24 rfl) ?_
    refine r_iload C 5 rfl (dk_at dk_Face_feed_0 25 rfl) ?_
    refine r_cvV C cl_Face_166 20 (hL.1 20 _ rfl) [.int a5] (m_Tape_add hL h) (rmK_ok rfl rfl) rfl rfl (Nat.le_of_ble_eq_true rfl) (dk_at dk_Face_feed_0 26 rfl) (fun σ11 h => ?_)
    refine r_aload_n C 0 rfl (dk_at dk_Face_feed_0 27 rfl) ?_
    refine r_getR C fl_Face_23 0 (hL.1 0 _ rfl) rfl (dk_at dk_Face_feed_0 28 rfl) ?_
    refine r_getI C fl_Face_163 20 (hL.1 20 _ rfl) rfl (dk_at dk_Face_feed_0 29 rfl) ?_
    exact r_iret C h (dk_at dk_Face_feed_0 30 rfl)
  · replace h := h.2 c1
    refine r_iconst C (-1) (dk_at dk_Face_feed_0 5 rfl) ?_
    exact r_iret C h (dk_at dk_Face_feed_0 6 rfl)
  )
set_option maxRecDepth 20000 in
theorem m_Face_end {l : Launch} {w : WO} {T : TXT} {z : EXa} (hL : LyX w T z) {σ : DD} {a1 : Int32} {post : Int32 → DD → Prop} (h : w_Face_end T σ a1 post) : MI l w yX10_end cX10_end 2 .int (rmK 0 0) σ [.ref (wAd w 0), .int a1] post :=
  met_head (rt := (some .int)) (by decide) rfl (fun X hX C => by
  subst hX
  unfold w_Face_end at h
  show gW X w (lim0 w) 2 (QI X w post) σ 0 [(0, .ref (wAd w 0)), (1, .int a1)] []
  refine r_iload_n C 1 rfl (dk_at dk_Face_end_0 0 rfl) ?_
  refine r_if_lt C 15 rfl (dk_at dk_Face_end_0 1 rfl) (fun c1 => ?_) (fun c1 => ?_)
  · replace h := h.1 c1
    refine r_iconst C (-1) (dk_at dk_Face_end_0 7 rfl) ?_
    exact r_iret C h (dk_at dk_Face_end_0 8 rfl)
  · replace h := h.2 c1
    refine r_iload_n C 1 rfl (dk_at dk_Face_end_0 2 rfl) ?_
    refine r_aload_n C 0 rfl (dk_at dk_Face_end_0 3 rfl) ?_
    refine r_getR C fl_Face_23 0 (hL.1 0 _ rfl) rfl (dk_at dk_Face_end_0 4 rfl) ?_
    refine r_getI C fl_Face_163 20 (hL.1 20 _ rfl) rfl (dk_at dk_Face_end_0 5 rfl) ?_
    refine r_icmp_le C 17 rfl (dk_at dk_Face_end_0 6 rfl) (fun c2 => ?_) (fun c2 => ?_)
    · replace h := h.1 c2
      refine r_aload_n C 0 rfl (dk_at dk_Face_end_0 9 rfl) ?_
      refine r_getR C fl_Face_23 0 (hL.1 0 _ rfl) rfl (dk_at dk_Face_end_0 10 rfl) ?_
      refine r_iload_n C 1 rfl (dk_at dk_Face_end_0 11 rfl) ?_
      refine r_putI C fl_Face_163 20 (hL.1 20 _ rfl) rfl (dk_at dk_Face_end_0 12 rfl) (r_sg (fun σ3 e4 => ?_))
      replace h := h σ3 e4
      refine r_iload_n C 1 rfl (dk_at dk_Face_end_0 13 rfl) ?_
      exact r_iret C h (dk_at dk_Face_end_0 14 rfl)
    · replace h := h.2 c2
      refine r_iconst C (-1) (dk_at dk_Face_end_0 7 rfl) ?_
      exact r_iret C h (dk_at dk_Face_end_0 8 rfl)
  )
set_option maxRecDepth 20000 in
theorem t_Face_addActOfRow_j109 {X : CT} {w : WO} (C : CF X w (lim0 w) 6 cX10_addActOfRow RX10 (some .boolean) (.code yX10_addActOfRow cX10_addActOfRow 6 (some .boolean)) (rmK 2 43)) {T : TXT} {z : EXa} (hL : LyX w T z) {post : Int32 → DD → Prop} {a2 : Int32} {a3 : Int32} {a4 : Int32} {a5 : Int32} {σ : DD} (h : w_Face_addActOfRow_j109 T post σ a2 a3 a4 a5) : gW X w (lim0 w) 6 (QI X w post) σ 109 [(0, .ref (wAd w 0)), (2, .int a2), (3, .int a3), (4, .int a4), (5, .int a5)] [] := by
  unfold w_Face_addActOfRow_j109 at h
  refine r_aload_n C 0 rfl (dk_at dk_Face_addActOfRow_1 23 rfl) ?_
  refine r_getR C fl_Face_10 0 (hL.1 0 _ rfl) rfl (dk_at dk_Face_addActOfRow_1 24 rfl) ?_
  refine r_iload_n C 1 rfl (dk_at dk_Face_addActOfRow_1 25 rfl) ?_
  refine r_iload_n C 2 rfl (dk_at dk_Face_addActOfRow_1 26 rfl) ?_
  refine r_iload C 3 rfl (dk_at dk_Face_addActOfRow_1 27 rfl) ?_
  refine r_iload C 4 rfl (dk_at dk_Face_addActOfRow_1 28 rfl) ?_
  refine r_cvI C cl_Face_98 200 (hL.1 200 _ rfl) [.int a2, .int a3, .int a4, .int a5] (m_Real_addAct hL h) (rmK_ok rfl rfl) rfl rfl (Nat.le_of_ble_eq_true rfl) (dk_at dk_Face_addActOfRow_1 29 rfl) (fun r1 σ2 h => ?_)
  refine r_pop C rfl (dk_at dk_Face_addActOfRow_1 30 rfl) ?_
  refine r_iconst C 1 (dk_at dk_Face_addActOfRow_1 31 rfl) ?_
  exact r_zret C (Or.inr rfl) h (dk_at dk_Face_addActOfRow_1 32 rfl)
set_option maxRecDepth 20000 in
theorem m_Face_addActOfRow {l : Launch} {w : WO} {T : TXT} {z : EXa} (hL : LyX w T z) {σ : DD} {a1 : Int32} {post : Int32 → DD → Prop} (h : w_Face_addActOfRow T σ a1 post) : MI l w yX10_addActOfRow cX10_addActOfRow 6 .boolean (rmK 2 43) σ [.ref (wAd w 0), .int a1] post :=
  met_head (rt := (some .boolean)) (by decide) rfl (fun X hX C => by
  subst hX
  unfold w_Face_addActOfRow at h
  show gW X w (lim0 w) 6 (QI X w post) σ 0 [(0, .ref (wAd w 0)), (1, .int a1)] []
  refine r_iload_n C 1 rfl (dk_at dk_Face_addActOfRow_0 0 rfl) ?_
  refine r_aload_n C 0 rfl (dk_at dk_Face_addActOfRow_0 1 rfl) ?_
  refine r_getR C fl_Face_23 0 (hL.1 0 _ rfl) rfl (dk_at dk_Face_addActOfRow_0 2 rfl) ?_
  refine r_getI C fl_Face_163 20 (hL.1 20 _ rfl) rfl (dk_at dk_Face_addActOfRow_0 3 rfl) ?_
  refine r_iconst C 4 (dk_at dk_Face_addActOfRow_0 4 rfl) ?_
  refine r_isub C (dk_at dk_Face_addActOfRow_0 5 rfl) ?_
  refine r_icmp_gt C 25 rfl (dk_at dk_Face_addActOfRow_0 6 rfl) (fun c3 => ?_) (fun c3 => ?_)
  · replace h := h.1 c3
    refine r_iconst C 0 (dk_at dk_Face_addActOfRow_0 12 rfl) ?_
    exact r_zret C (Or.inl rfl) h (dk_at dk_Face_addActOfRow_0 13 rfl)
  · replace h := h.2 c3
    refine r_aload_n C 0 rfl (dk_at dk_Face_addActOfRow_0 7 rfl) ?_
    refine r_getR C fl_Face_10 0 (hL.1 0 _ rfl) rfl (dk_at dk_Face_addActOfRow_0 8 rfl) ?_
    refine r_getI C fl_Face_94 200 (hL.1 200 _ rfl) rfl (dk_at dk_Face_addActOfRow_0 9 rfl) ?_
    refine r_bipush C 8 (dk_at dk_Face_addActOfRow_0 10 rfl) ?_
    refine r_icmp_lt C 27 rfl (dk_at dk_Face_addActOfRow_0 11 rfl) (fun c4 => ?_) (fun c4 => ?_)
    · replace h := h.1 c4
      refine r_aload_n C 0 rfl (dk_at dk_Face_addActOfRow_0 14 rfl) ?_
      refine r_getR C fl_Face_23 0 (hL.1 0 _ rfl) rfl (dk_at dk_Face_addActOfRow_0 15 rfl) ?_
      refine r_getR C fl_Face_315 20 (hL.1 20 _ rfl) rfl (dk_at dk_Face_addActOfRow_0 16 rfl) ?_
      refine r_iload_n C 1 rfl (dk_at dk_Face_addActOfRow_0 17 rfl) ?_
      refine r_iconst C 0 (dk_at dk_Face_addActOfRow_0 18 rfl) ?_
      refine r_iadd C (dk_at dk_Face_addActOfRow_0 19 rfl) ?_
      obtain ⟨q5, h⟩ := h
      refine r_iald C 21 (hL.1 21 _ rfl) q5 (dk_at dk_Face_addActOfRow_0 20 rfl) ?_
      refine r_topi (fun v6 e7 => ?_)
      replace h := h v6 e7
      refine r_istore_n C [(2, .int v6), (0, .ref (wAd w 0)), (1, .int a1)] rfl rfl (dk_at dk_Face_addActOfRow_0 21 rfl) ?_
      refine r_aload_n C 1 rfl (dk_at dk_Face_addActOfRow_0 22 rfl) ?_
      refine r_getR C fl_Face_23 0 (hL.1 0 _ rfl) rfl (dk_at dk_Face_addActOfRow_0 23 rfl) ?_
      refine r_getR C fl_Face_315 20 (hL.1 20 _ rfl) rfl (dk_at dk_Face_addActOfRow_0 24 rfl) ?_
      refine r_iload_n C 2 rfl (dk_at dk_Face_addActOfRow_0 25 rfl) ?_
      refine r_iconst C 1 (dk_at dk_Face_addActOfRow_0 26 rfl) ?_
      refine r_iadd C (dk_at dk_Face_addActOfRow_0 27 rfl) ?_
      obtain ⟨q8, h⟩ := h
      refine r_iald C 21 (hL.1 21 _ rfl) q8 (dk_at dk_Face_addActOfRow_0 28 rfl) ?_
      refine r_topi (fun v9 e10 => ?_)
      replace h := h v9 e10
      refine r_istore_n C [(3, .int v9), (2, .int v6), (0, .ref (wAd w 0)), (1, .int a1)] rfl rfl (dk_at dk_Face_addActOfRow_0 29 rfl) ?_
      refine r_aload_n C 2 rfl (dk_at dk_Face_addActOfRow_0 30 rfl) ?_
      refine r_getR C fl_Face_23 0 (hL.1 0 _ rfl) rfl (dk_at dk_Face_addActOfRow_0 31 rfl) ?_
      refine r_getR C fl_Face_315 20 (hL.1 20 _ rfl) rfl (dk_at dk_Face_addActOfRow_0 32 rfl) ?_
      refine r_iload_n C 3 rfl (dk_at dk_Face_addActOfRow_0 33 rfl) ?_
      refine r_iconst C 2 (dk_at dk_Face_addActOfRow_0 34 rfl) ?_
      refine r_iadd C (dk_at dk_Face_addActOfRow_0 35 rfl) ?_
      obtain ⟨q11, h⟩ := h
      refine r_iald C 21 (hL.1 21 _ rfl) q11 (dk_at dk_Face_addActOfRow_0 36 rfl) ?_
      refine r_topi (fun v12 e13 => ?_)
      replace h := h v12 e13
      refine r_istore C [(4, .int v12), (3, .int v9), (2, .int v6), (0, .ref (wAd w 0)), (1, .int a1)] rfl rfl (dk_at dk_Face_addActOfRow_0 37 rfl) ?_
      refine r_aload_n C 3 rfl (dk_at dk_Face_addActOfRow_0 38 rfl) ?_
      refine r_getR C fl_Face_23 0 (hL.1 0 _ rfl) rfl (dk_at dk_Face_addActOfRow_0 39 rfl) ?_
      refine r_getR C fl_Face_315 20 (hL.1 20 _ rfl) rfl (dk_at dk_Face_addActOfRow_1 0 rfl) ?_
      refine r_iload_n C 4 rfl (dk_at dk_Face_addActOfRow_1 1 rfl) ?_
      refine r_iconst C 3 (dk_at dk_Face_addActOfRow_1 2 rfl) ?_
      refine r_iadd C (dk_at dk_Face_addActOfRow_1 3 rfl) ?_
      obtain ⟨q14, h⟩ := h
      refine r_iald C 21 (hL.1 21 _ rfl) q14 (dk_at dk_Face_addActOfRow_1 4 rfl) ?_
      refine r_iconst C 1 (dk_at dk_Face_addActOfRow_1 5 rfl) ?_
      refine r_isub C (dk_at dk_Face_addActOfRow_1 6 rfl) ?_
      refine r_topi (fun v15 e16 => ?_)
      replace h := h v15 e16
      refine r_istore C [(5, .int v15), (4, .int v12), (3, .int v9), (2, .int v6), (0, .ref (wAd w 0)), (1, .int a1)] rfl rfl (dk_at dk_Face_addActOfRow_1 7 rfl) ?_
      refine r_iload_n C 3 rfl (dk_at dk_Face_addActOfRow_1 8 rfl) ?_
      refine r_iload_n C 2 rfl (dk_at dk_Face_addActOfRow_1 9 rfl) ?_
      refine r_iload C 1 rfl (dk_at dk_Face_addActOfRow_1 10 rfl) ?_
      refine r_csI C cs_Face_86 [.int v6, .int v9, .int v12] (m_Real_canBeAct hL h) (rmK_ok rfl rfl) rfl rfl (Nat.le_of_ble_eq_true rfl) (dk_at dk_Face_addActOfRow_1 11 rfl) (fun r17 σ18 h => ?_)
      refine r_if_eq C 107 rfl (dk_at dk_Face_addActOfRow_1 12 rfl) (fun c19 => ?_) (fun c19 => ?_)
      · replace h := h.1 c19
        refine r_iconst C 0 (dk_at dk_Face_addActOfRow_1 21 rfl) ?_
        exact r_zret C (Or.inl rfl) h (dk_at dk_Face_addActOfRow_1 22 rfl)
      · replace h := h.2 c19
        refine r_iload C 0 rfl (dk_at dk_Face_addActOfRow_1 13 rfl) ?_
        refine r_iconst C (-1) (dk_at dk_Face_addActOfRow_1 14 rfl) ?_
        refine r_icmp_eq C 109 rfl (dk_at dk_Face_addActOfRow_1 15 rfl) (fun c20 => ?_) (fun c20 => ?_)
        · replace h := h.1 c20
          refine r_lv [4, 3, 2, 1, 0] rfl ?_
          exact t_Face_addActOfRow_j109 C hL h
        · replace h := h.2 c20
          refine r_aload_n C 4 rfl (dk_at dk_Face_addActOfRow_1 16 rfl) ?_
          refine r_getR C fl_Face_10 0 (hL.1 0 _ rfl) rfl (dk_at dk_Face_addActOfRow_1 17 rfl) ?_
          refine r_iload C 0 rfl (dk_at dk_Face_addActOfRow_1 18 rfl) ?_
          refine r_cvI C cl_Face_112 200 (hL.1 200 _ rfl) [.int v15] (m_Real_isAct hL h) (rmK_ok rfl rfl) rfl rfl (Nat.le_of_ble_eq_true rfl) (dk_at dk_Face_addActOfRow_1 19 rfl) (fun r21 σ22 h => ?_)
          refine r_if_ne C 109 rfl (dk_at dk_Face_addActOfRow_1 20 rfl) (fun c23 => ?_) (fun c23 => ?_)
          · replace h := h.1 c23
            refine r_lv [4, 3, 2, 1, 0] rfl ?_
            exact t_Face_addActOfRow_j109 C hL h
          · replace h := h.2 c23
            refine r_iconst C 0 (dk_at dk_Face_addActOfRow_1 21 rfl) ?_
            exact r_zret C (Or.inl rfl) h (dk_at dk_Face_addActOfRow_1 22 rfl)
    · replace h := h.2 c4
      refine r_iconst C 0 (dk_at dk_Face_addActOfRow_0 12 rfl) ?_
      exact r_zret C (Or.inl rfl) h (dk_at dk_Face_addActOfRow_0 13 rfl)
  )
set_option maxRecDepth 20000 in
theorem t_Face_row_b26 {X : CT} {w : WO} (C : CF X w (lim0 w) 3 cX10_row RX10 (some .int) (.code yX10_row cX10_row 3 (some .int)) (rmK 3 68)) {T : TXT} {z : EXa} (hL : LyX w T z) {K26 : DD → Int32 → Int32 → Prop} {post : Int32 → DD → Prop} (k26 : ∀ (σ : DD) (a1 : Int32) (a2 : Int32), K26 σ a1 a2 → gW X w (lim0 w) 3 (QI X w post) σ 26 [(0, .ref (wAd w 0)), (1, .int a1), (2, .int a2)] []) {σ : DD} {a1 : Int32} {a2 : Int32} (h : w_Face_row_b26 T K26 post σ a1 a2) : gW X w (lim0 w) 3 (QI X w post) σ 26 [(0, .ref (wAd w 0)), (1, .int a1), (2, .int a2)] [] := by
  unfold w_Face_row_b26 at h
  refine r_iload_n C 2 rfl (dk_at dk_Face_row_0 15 rfl) ?_
  refine r_aload_n C 0 rfl (dk_at dk_Face_row_0 16 rfl) ?_
  refine r_getR C fl_Face_23 0 (hL.1 0 _ rfl) rfl (dk_at dk_Face_row_0 17 rfl) ?_
  refine r_getI C fl_Face_163 20 (hL.1 20 _ rfl) rfl (dk_at dk_Face_row_0 18 rfl) ?_
  refine r_icmp_ge C 67 rfl (dk_at dk_Face_row_0 19 rfl) (fun c1 => ?_) (fun c1 => ?_)
  · replace h := h.1 c1
    refine r_aload_n C 0 rfl (dk_at dk_Face_row_0 34 rfl) ?_
    refine r_getR C fl_Face_23 0 (hL.1 0 _ rfl) rfl (dk_at dk_Face_row_0 35 rfl) ?_
    refine r_iconst C 0 (dk_at dk_Face_row_0 36 rfl) ?_
    refine r_putI C fl_Face_163 20 (hL.1 20 _ rfl) rfl (dk_at dk_Face_row_0 37 rfl) (r_sg (fun σ2 e3 => ?_))
    replace h := h σ2 e3
    refine r_aload_n C 0 rfl (dk_at dk_Face_row_0 38 rfl) ?_
    refine r_iload_n C 1 rfl (dk_at dk_Face_row_0 39 rfl) ?_
    refine r_cvI C cl_Face_102 0 (hL.1 0 _ rfl) [.int a1] (m_Face_granted hL h) (rmK_ok rfl rfl) rfl rfl (Nat.le_of_ble_eq_true rfl) (dk_at dk_Face_row_1 0 rfl) (fun r4 σ5 h => ?_)
    exact r_iret C h (dk_at dk_Face_row_1 1 rfl)
  · replace h := h.2 c1
    refine r_aload_n C 0 rfl (dk_at dk_Face_row_0 20 rfl) ?_
    refine r_iload_n C 2 rfl (dk_at dk_Face_row_0 21 rfl) ?_
    refine r_cvI C cl_Face_173 0 (hL.1 0 _ rfl) [.int a2] (m_Face_addActOfRow hL h) (rmK_ok rfl rfl) rfl rfl (Nat.le_of_ble_eq_true rfl) (dk_at dk_Face_row_0 22 rfl) (fun r6 σ7 h => ?_)
    refine r_if_eq C 51 rfl (dk_at dk_Face_row_0 23 rfl) (fun c8 => ?_) (fun c8 => ?_)
    · replace h := h.1 c8
      refine r_aload_n C 0 rfl (dk_at dk_Face_row_0 26 rfl) ?_
      refine r_dup C rfl (dk_at dk_Face_row_0 27 rfl) ?_
      refine r_getI C fl_Face_170 0 (hL.1 0 _ rfl) rfl (dk_at dk_Face_row_0 28 rfl) ?_
      refine r_iconst C 1 (dk_at dk_Face_row_0 29 rfl) ?_
      refine r_iadd C (dk_at dk_Face_row_0 30 rfl) ?_
      refine r_putI C fl_Face_170 0 (hL.1 0 _ rfl) rfl (dk_at dk_Face_row_0 31 rfl) (r_sg (fun σ9 e10 => ?_))
      replace h := h σ9 e10
      refine r_iinc C 2 rfl rfl [(2, .int (a2 + 4)), (0, .ref (wAd w 0)), (1, .int a1)] rfl rfl (dk_at dk_Face_row_0 32 rfl) ?_
      refine r_goto C 26 rfl (dk_at dk_Face_row_0 33 rfl) ?_
      refine r_lv [1, 2, 0] rfl ?_
      exact k26 _ _ _ h
    · replace h := h.2 c8
      refine r_iinc C 1 rfl rfl [(1, .int (a1 + 1)), (0, .ref (wAd w 0)), (2, .int a2)] rfl rfl (dk_at dk_Face_row_0 24 rfl) ?_
      refine r_goto C 61 rfl (dk_at dk_Face_row_0 25 rfl) ?_
      refine r_iinc C 2 rfl rfl [(2, .int (a2 + 4)), (1, .int (a1 + 1)), (0, .ref (wAd w 0))] rfl rfl (dk_at dk_Face_row_0 32 rfl) ?_
      refine r_goto C 26 rfl (dk_at dk_Face_row_0 33 rfl) ?_
      refine r_lv [2, 1, 0] rfl ?_
      exact k26 _ _ _ h
set_option maxRecDepth 20000 in
theorem t_Face_row_l26 {X : CT} {w : WO} (C : CF X w (lim0 w) 3 cX10_row RX10 (some .int) (.code yX10_row cX10_row 3 (some .int)) (rmK 3 68)) {T : TXT} {z : EXa} (hL : LyX w T z) {post : Int32 → DD → Prop} {σ : DD} {a1 : Int32} {a2 : Int32} (h : w_Face_row_l26 T post σ a1 a2) : gW X w (lim0 w) 3 (QI X w post) σ 26 [(0, .ref (wAd w 0)), (1, .int a1), (2, .int a2)] [] :=
  LoopW (G := fun x : DD × Int32 × Int32 => gW X w (lim0 w) 3 (QI X w post) x.1 26 [(0, .ref (wAd w 0)), (1, .int x.2.1), (2, .int x.2.2)] []) (fun K x hK hF => t_Face_row_b26 C hL (fun σ a1 a2 q => hK (σ, a1, a2) q) hF) h
set_option maxRecDepth 20000 in
theorem m_Face_row {l : Launch} {w : WO} {T : TXT} {z : EXa} (hL : LyX w T z) {σ : DD} {post : Int32 → DD → Prop} (h : w_Face_row T σ post) : MI l w yX10_row cX10_row 3 .int (rmK 3 68) σ [.ref (wAd w 0)] post :=
  met_head (rt := (some .int)) (by decide) rfl (fun X hX C => by
  subst hX
  unfold w_Face_row at h
  show gW X w (lim0 w) 3 (QI X w post) σ 0 [(0, .ref (wAd w 0))] []
  refine r_aload_n C 0 rfl (dk_at dk_Face_row_0 0 rfl) ?_
  refine r_getR C fl_Face_23 0 (hL.1 0 _ rfl) rfl (dk_at dk_Face_row_0 1 rfl) ?_
  refine r_getI C fl_Face_163 20 (hL.1 20 _ rfl) rfl (dk_at dk_Face_row_0 2 rfl) ?_
  refine r_if_ne C 17 rfl (dk_at dk_Face_row_0 3 rfl) (fun c11 => ?_) (fun c11 => ?_)
  · replace h := h.1 c11
    refine r_iconst C 0 (dk_at dk_Face_row_0 8 rfl) ?_
    refine r_istore_n C [(1, .int 0), (0, .ref (wAd w 0))] rfl rfl (dk_at dk_Face_row_0 9 rfl) ?_
    refine r_aload_n C 1 rfl (dk_at dk_Face_row_0 10 rfl) ?_
    refine r_iconst C 0 (dk_at dk_Face_row_0 11 rfl) ?_
    refine r_putI C fl_Face_170 0 (hL.1 0 _ rfl) rfl (dk_at dk_Face_row_0 12 rfl) (r_sg (fun σ12 e13 => ?_))
    replace h := h σ12 e13
    refine r_iconst C 0 (dk_at dk_Face_row_0 13 rfl) ?_
    refine r_istore_n C [(2, .int 0), (1, .int 0), (0, .ref (wAd w 0))] rfl rfl (dk_at dk_Face_row_0 14 rfl) ?_
    refine r_lv [2, 1, 0] rfl ?_
    exact t_Face_row_l26 C hL h
  · replace h := h.2 c11
    refine r_aload_n C 0 rfl (dk_at dk_Face_row_0 4 rfl) ?_
    refine r_bipush C (-6) (dk_at dk_Face_row_0 5 rfl) ?_
    refine r_cvI C cl_Face_90 0 (hL.1 0 _ rfl) [.int (-6)] (m_Face_refused hL h) (rmK_ok rfl rfl) rfl rfl (Nat.le_of_ble_eq_true rfl) (dk_at dk_Face_row_0 6 rfl) (fun r14 σ15 h => ?_)
    exact r_iret C h (dk_at dk_Face_row_0 7 rfl)
  )
set_option maxRecDepth 20000 in
theorem m_Face_mud {l : Launch} {w : WO} {T : TXT} {z : EXa} (hL : LyX w T z) {σ : DD} {post : Int32 → DD → Prop} (h : w_Face_mud T σ post) : MI l w yX10_mud cX10_mud 1 .int (rmK 0 0) σ [.ref (wAd w 0)] post :=
  met_head (rt := (some .int)) (by decide) rfl (fun X hX C => by
  subst hX
  unfold w_Face_mud at h
  show gW X w (lim0 w) 1 (QI X w post) σ 0 [(0, .ref (wAd w 0))] []
  refine r_aload_n C 0 rfl (dk_at dk_Face_mud_0 0 rfl) ?_
  refine r_getI C fl_Face_170 0 (hL.1 0 _ rfl) rfl (dk_at dk_Face_mud_0 1 rfl) ?_
  exact r_iret C h (dk_at dk_Face_mud_0 2 rfl)
  )
set_option maxRecDepth 20000 in
theorem m_Face_fault {l : Launch} {w : WO} {T : TXT} {z : EXa} (hL : LyX w T z) {σ : DD} {post : Int32 → DD → Prop} (h : w_Face_fault T σ post) : MI l w yX10_fault cX10_fault 1 .int (rmK 0 0) σ [.ref (wAd w 0)] post :=
  met_head (rt := (some .int)) (by decide) rfl (fun X hX C => by
  subst hX
  unfold w_Face_fault at h
  show gW X w (lim0 w) 1 (QI X w post) σ 0 [(0, .ref (wAd w 0))] []
  refine r_aload_n C 0 rfl (dk_at dk_Face_fault_0 0 rfl) ?_
  refine r_getR C fl_Face_32 0 (hL.1 0 _ rfl) rfl (dk_at dk_Face_fault_0 1 rfl) ?_
  refine r_getI C fl_Face_194 30 (hL.1 30 _ rfl) rfl (dk_at dk_Face_fault_0 2 rfl) ?_
  exact r_iret C h (dk_at dk_Face_fault_0 3 rfl)
  )
set_option maxRecDepth 20000 in
theorem m_Face_stopped {l : Launch} {w : WO} {T : TXT} {z : EXa} (hL : LyX w T z) {σ : DD} {post : Int32 → DD → Prop} (h : w_Face_stopped T σ post) : MI l w yX10_stopped cX10_stopped 1 .int (rmK 0 0) σ [.ref (wAd w 0)] post :=
  met_head (rt := (some .int)) (by decide) rfl (fun X hX C => by
  subst hX
  unfold w_Face_stopped at h
  show gW X w (lim0 w) 1 (QI X w post) σ 0 [(0, .ref (wAd w 0))] []
  refine r_aload_n C 0 rfl (dk_at dk_Face_stopped_0 0 rfl) ?_
  refine r_getR C fl_Face_50 0 (hL.1 0 _ rfl) rfl (dk_at dk_Face_stopped_0 1 rfl) ?_
  refine r_getI C fl_Face_187 60 (hL.1 60 _ rfl) rfl (dk_at dk_Face_stopped_0 2 rfl) ?_
  exact r_iret C h (dk_at dk_Face_stopped_0 3 rfl)
  )
set_option maxRecDepth 20000 in
theorem t_Face_force_j20 {X : CT} {w : WO} (C : CF X w (lim0 w) 3 cX10_force RX10 (some .int) (.code yX10_force cX10_force 3 (some .int)) (rmK 1 22)) {T : TXT} {z : EXa} (hL : LyX w T z) {post : Int32 → DD → Prop} {σ : DD} (h : w_Face_force_j20 T post σ) : gW X w (lim0 w) 3 (QI X w post) σ 20 [(0, .ref (wAd w 0))] [] := by
  unfold w_Face_force_j20 at h
  refine r_aload_n C 0 rfl (dk_at dk_Face_force_0 10 rfl) ?_
  refine r_bipush C (-2) (dk_at dk_Face_force_0 11 rfl) ?_
  refine r_cvI C cl_Face_90 0 (hL.1 0 _ rfl) [.int (-2)] (m_Face_refused hL h) (rmK_ok rfl rfl) rfl rfl (Nat.le_of_ble_eq_true rfl) (dk_at dk_Face_force_0 12 rfl) (fun r1 σ2 h => ?_)
  exact r_iret C h (dk_at dk_Face_force_0 13 rfl)
set_option maxRecDepth 20000 in
theorem t_Face_force_j27 {X : CT} {w : WO} (C : CF X w (lim0 w) 3 cX10_force RX10 (some .int) (.code yX10_force cX10_force 3 (some .int)) (rmK 1 22)) {T : TXT} {z : EXa} (hL : LyX w T z) {post : Int32 → DD → Prop} {a1 : Int32} {σ : DD} (h : w_Face_force_j27 T post σ a1) : gW X w (lim0 w) 3 (QI X w post) σ 27 [(0, .ref (wAd w 0)), (1, .int a1)] [] := by
  unfold w_Face_force_j27 at h
  refine r_aload_n C 0 rfl (dk_at dk_Face_force_0 14 rfl) ?_
  refine r_getR C fl_Face_10 0 (hL.1 0 _ rfl) rfl (dk_at dk_Face_force_0 15 rfl) ?_
  refine r_getI C fl_Face_197 200 (hL.1 200 _ rfl) rfl (dk_at dk_Face_force_0 16 rfl) ?_
  refine r_topi (fun v3 e4 => ?_)
  replace h := h v3 e4
  refine r_istore_n C [(2, .int v3), (0, .ref (wAd w 0)), (1, .int a1)] rfl rfl (dk_at dk_Face_force_0 17 rfl) ?_
  refine r_aload_n C 1 rfl (dk_at dk_Face_force_0 18 rfl) ?_
  refine r_getR C fl_Face_10 0 (hL.1 0 _ rfl) rfl (dk_at dk_Face_force_0 19 rfl) ?_
  refine r_iload_n C 2 rfl (dk_at dk_Face_force_0 20 rfl) ?_
  refine r_putI C fl_Face_197 200 (hL.1 200 _ rfl) rfl (dk_at dk_Face_force_0 21 rfl) (r_sg (fun σ5 e6 => ?_))
  replace h := h σ5 e6
  refine r_aload_n C 1 rfl (dk_at dk_Face_force_0 22 rfl) ?_
  refine r_getR C fl_Face_41 0 (hL.1 0 _ rfl) rfl (dk_at dk_Face_force_0 23 rfl) ?_
  refine r_cvV C cl_Face_123 50 (hL.1 50 _ rfl) [] (m_Court_forget hL h) (rmK_ok rfl rfl) rfl rfl (Nat.le_of_ble_eq_true rfl) (dk_at dk_Face_force_0 24 rfl) (fun σ8 h => ?_)
  refine r_aload_n C 1 rfl (dk_at dk_Face_force_0 25 rfl) ?_
  refine r_iload_n C 0 rfl (dk_at dk_Face_force_0 26 rfl) ?_
  refine r_cvI C cl_Face_102 0 (hL.1 0 _ rfl) [.int v3] (m_Face_granted hL h) (rmK_ok rfl rfl) rfl rfl (Nat.le_of_ble_eq_true rfl) (dk_at dk_Face_force_0 27 rfl) (fun r9 σ10 h => ?_)
  exact r_iret C h (dk_at dk_Face_force_0 28 rfl)
set_option maxRecDepth 20000 in
theorem m_Face_force {l : Launch} {w : WO} {T : TXT} {z : EXa} (hL : LyX w T z) {σ : DD} {a1 : Int32} {post : Int32 → DD → Prop} (h : w_Face_force T σ a1 post) : MI l w yX10_force cX10_force 3 .int (rmK 1 22) σ [.ref (wAd w 0), .int a1] post :=
  met_head (rt := (some .int)) (by decide) rfl (fun X hX C => by
  subst hX
  unfold w_Face_force at h
  show gW X w (lim0 w) 3 (QI X w post) σ 0 [(0, .ref (wAd w 0)), (1, .int a1)] []
  refine r_iload_n C 1 rfl (dk_at dk_Face_force_0 0 rfl) ?_
  refine r_iconst C (-1) (dk_at dk_Face_force_0 1 rfl) ?_
  refine r_icmp_eq C 27 rfl (dk_at dk_Face_force_0 2 rfl) (fun c11 => ?_) (fun c11 => ?_)
  · replace h := h.1 c11
    refine r_lv [0, 1] rfl ?_
    exact t_Face_force_j27 C hL h
  · replace h := h.2 c11
    refine r_iload_n C 1 rfl (dk_at dk_Face_force_0 3 rfl) ?_
    refine r_if_lt C 20 rfl (dk_at dk_Face_force_0 4 rfl) (fun c12 => ?_) (fun c12 => ?_)
    · replace h := h.1 c12
      refine r_lv [0] rfl ?_
      exact t_Face_force_j20 C hL h
    · replace h := h.2 c12
      refine r_iload_n C 1 rfl (dk_at dk_Face_force_0 5 rfl) ?_
      refine r_aload_n C 0 rfl (dk_at dk_Face_force_0 6 rfl) ?_
      refine r_getR C fl_Face_10 0 (hL.1 0 _ rfl) rfl (dk_at dk_Face_force_0 7 rfl) ?_
      refine r_getI C fl_Face_176 200 (hL.1 200 _ rfl) rfl (dk_at dk_Face_force_0 8 rfl) ?_
      refine r_icmp_lt C 27 rfl (dk_at dk_Face_force_0 9 rfl) (fun c13 => ?_) (fun c13 => ?_)
      · replace h := h.1 c13
        refine r_lv [0, 1] rfl ?_
        exact t_Face_force_j27 C hL h
      · replace h := h.2 c13
        refine r_lv [0] rfl ?_
        exact t_Face_force_j20 C hL h
  )
set_option maxRecDepth 20000 in
theorem m_Face_asks {l : Launch} {w : WO} {T : TXT} {z : EXa} (hL : LyX w T z) {σ : DD} {a1 : Int32} {a2 : Int32} {a3 : Int32} {post : Int32 → DD → Prop} (h : w_Face_asks T σ a1 a2 a3 post) : MI l w yX10_asks cX10_asks 5 .int (rmK 5 145) σ [.ref (wAd w 0), .int a1, .int a2, .int a3] post :=
  met_head (rt := (some .int)) (by decide) rfl (fun X hX C => by
  subst hX
  unfold w_Face_asks at h
  show gW X w (lim0 w) 5 (QI X w post) σ 0 [(0, .ref (wAd w 0)), (1, .int a1), (2, .int a2), (3, .int a3)] []
  refine r_aload_n C 0 rfl (dk_at dk_Face_asks_0 0 rfl) ?_
  refine r_getR C fl_Face_10 0 (hL.1 0 _ rfl) rfl (dk_at dk_Face_asks_0 1 rfl) ?_
  refine r_iload_n C 1 rfl (dk_at dk_Face_asks_0 2 rfl) ?_
  refine r_cvI C cl_Face_112 200 (hL.1 200 _ rfl) [.int a1] (m_Real_isAct hL h) (rmK_ok rfl rfl) rfl rfl (Nat.le_of_ble_eq_true rfl) (dk_at dk_Face_asks_0 3 rfl) (fun r1 σ2 h => ?_)
  refine r_if_eq C 22 rfl (dk_at dk_Face_asks_0 4 rfl) (fun c3 => ?_) (fun c3 => ?_)
  · replace h := h.1 c3
    refine r_iconst C (-1) (dk_at dk_Face_asks_0 10 rfl) ?_
    exact r_iret C h (dk_at dk_Face_asks_0 11 rfl)
  · replace h := h.2 c3
    refine r_aload_n C 0 rfl (dk_at dk_Face_asks_0 5 rfl) ?_
    refine r_getR C fl_Face_10 0 (hL.1 0 _ rfl) rfl (dk_at dk_Face_asks_0 6 rfl) ?_
    refine r_iload_n C 2 rfl (dk_at dk_Face_asks_0 7 rfl) ?_
    refine r_cvI C cl_Face_147 200 (hL.1 200 _ rfl) [.int a2] (m_Real_isReader hL h) (rmK_ok rfl rfl) rfl rfl (Nat.le_of_ble_eq_true rfl) (dk_at dk_Face_asks_0 8 rfl) (fun r4 σ5 h => ?_)
    refine r_if_ne C 24 rfl (dk_at dk_Face_asks_0 9 rfl) (fun c6 => ?_) (fun c6 => ?_)
    · replace h := h.1 c6
      refine r_aload_n C 0 rfl (dk_at dk_Face_asks_0 12 rfl) ?_
      refine r_getR C fl_Face_10 0 (hL.1 0 _ rfl) rfl (dk_at dk_Face_asks_0 13 rfl) ?_
      refine r_getR C fl_Face_126 200 (hL.1 200 _ rfl) rfl (dk_at dk_Face_asks_0 14 rfl) ?_
      refine r_iconst C 0 (dk_at dk_Face_asks_0 15 rfl) ?_
      refine r_ialdK C 208 (hL.1 208 _ rfl) lk_0 (vk_0_4) (dk_at dk_Face_asks_0 16 rfl) ?_
      refine r_topi (fun v7 e8 => ?_)
      replace h := h v7 e8
      refine r_istore C [(4, .int v7), (0, .ref (wAd w 0)), (1, .int a1), (2, .int a2), (3, .int a3)] rfl rfl (dk_at dk_Face_asks_0 17 rfl) ?_
      refine r_iload_n C 4 rfl (dk_at dk_Face_asks_0 18 rfl) ?_
      by_cases c9 : a3 = 0
      · refine r_tabK C 0 c9 (off := 32) (tgt := 68) (by decide) (dk_at dk_Face_asks_0 19 rfl) ?_
        replace h := h.1 c9
        refine r_aload_n C 1 rfl (dk_at dk_Face_asks_0 20 rfl) ?_
        refine r_getR C fl_Face_41 0 (hL.1 0 _ rfl) rfl (dk_at dk_Face_asks_0 21 rfl) ?_
        refine r_iload_n C 2 rfl (dk_at dk_Face_asks_0 22 rfl) ?_
        refine r_iload_n C 3 rfl (dk_at dk_Face_asks_0 23 rfl) ?_
        refine r_iload C 0 rfl (dk_at dk_Face_asks_0 24 rfl) ?_
        refine r_cvI C cl_Face_200 50 (hL.1 50 _ rfl) [.int a1, .int a2, .int v7] (m_Court_lasts hL h) (rmK_ok rfl rfl) rfl rfl (Nat.le_of_ble_eq_true rfl) (dk_at dk_Face_asks_0 25 rfl) (fun r10 σ11 h => ?_)
        exact r_iret C h (dk_at dk_Face_asks_0 26 rfl)
      · replace h := h.2 c9
        by_cases c12 : a3 = 1
        · refine r_tabK C 1 c12 (off := 44) (tgt := 80) (by decide) (dk_at dk_Face_asks_0 19 rfl) ?_
          replace h := h.1 c12
          refine r_aload_n C 1 rfl (dk_at dk_Face_asks_0 27 rfl) ?_
          refine r_getR C fl_Face_41 0 (hL.1 0 _ rfl) rfl (dk_at dk_Face_asks_0 28 rfl) ?_
          refine r_iload_n C 2 rfl (dk_at dk_Face_asks_0 29 rfl) ?_
          refine r_iload_n C 3 rfl (dk_at dk_Face_asks_0 30 rfl) ?_
          refine r_iload C 0 rfl (dk_at dk_Face_asks_0 31 rfl) ?_
          refine r_cvI C cl_Face_204 50 (hL.1 50 _ rfl) [.int a1, .int a2, .int v7] (m_Court_takes hL h) (rmK_ok rfl rfl) rfl rfl (Nat.le_of_ble_eq_true rfl) (dk_at dk_Face_asks_0 32 rfl) (fun r13 σ14 h => ?_)
          exact r_iret C h (dk_at dk_Face_asks_0 33 rfl)
        · replace h := h.2 c12
          by_cases c15 : a3 = 2
          · refine r_tabK C 2 c15 (off := 56) (tgt := 92) (by decide) (dk_at dk_Face_asks_0 19 rfl) ?_
            replace h := h.1 c15
            refine r_aload_n C 1 rfl (dk_at dk_Face_asks_0 34 rfl) ?_
            refine r_getR C fl_Face_41 0 (hL.1 0 _ rfl) rfl (dk_at dk_Face_asks_0 35 rfl) ?_
            refine r_iload_n C 2 rfl (dk_at dk_Face_asks_0 36 rfl) ?_
            refine r_iload_n C 3 rfl (dk_at dk_Face_asks_0 37 rfl) ?_
            refine r_iload C 0 rfl (dk_at dk_Face_asks_0 38 rfl) ?_
            refine r_cvI C cl_Face_207 50 (hL.1 50 _ rfl) [.int a1, .int a2, .int v7] (m_Court_bars hL h) (rmK_ok rfl rfl) rfl rfl (Nat.le_of_ble_eq_true rfl) (dk_at dk_Face_asks_0 39 rfl) (fun r16 σ17 h => ?_)
            refine r_if_eq C 110 rfl (dk_at dk_Face_asks_1 0 rfl) (fun c18 => ?_) (fun c18 => ?_)
            · replace h := h.1 c18
              refine r_iconst C 0 (dk_at dk_Face_asks_1 3 rfl) ?_
              exact r_iret C h (dk_at dk_Face_asks_1 4 rfl)
            · replace h := h.2 c18
              refine r_iconst C 1 (dk_at dk_Face_asks_1 1 rfl) ?_
              refine r_goto C 111 rfl (dk_at dk_Face_asks_1 2 rfl) ?_
              exact r_iret C h (dk_at dk_Face_asks_1 4 rfl)
          · replace h := h.2 c15
            by_cases c19 : a3 = 3
            · refine r_tabK C 3 c19 (off := 76) (tgt := 112) (by decide) (dk_at dk_Face_asks_0 19 rfl) ?_
              replace h := h.1 c19
              refine r_aload_n C 1 rfl (dk_at dk_Face_asks_1 5 rfl) ?_
              refine r_getR C fl_Face_41 0 (hL.1 0 _ rfl) rfl (dk_at dk_Face_asks_1 6 rfl) ?_
              refine r_iload_n C 2 rfl (dk_at dk_Face_asks_1 7 rfl) ?_
              refine r_iload_n C 3 rfl (dk_at dk_Face_asks_1 8 rfl) ?_
              refine r_iload C 0 rfl (dk_at dk_Face_asks_1 9 rfl) ?_
              refine r_cvI C cl_Face_210 50 (hL.1 50 _ rfl) [.int a1, .int a2, .int v7] (m_Court_can hL h) (rmK_ok rfl rfl) rfl rfl (Nat.le_of_ble_eq_true rfl) (dk_at dk_Face_asks_1 10 rfl) (fun r20 σ21 h => ?_)
              refine r_if_eq C 130 rfl (dk_at dk_Face_asks_1 11 rfl) (fun c22 => ?_) (fun c22 => ?_)
              · replace h := h.1 c22
                refine r_iconst C 0 (dk_at dk_Face_asks_1 14 rfl) ?_
                exact r_iret C h (dk_at dk_Face_asks_1 15 rfl)
              · replace h := h.2 c22
                refine r_iconst C 1 (dk_at dk_Face_asks_1 12 rfl) ?_
                refine r_goto C 131 rfl (dk_at dk_Face_asks_1 13 rfl) ?_
                exact r_iret C h (dk_at dk_Face_asks_1 15 rfl)
            · replace h := h.2 c19
              refine r_tabD C (tgt := 132) (dk_at dk_Face_asks_0 19 rfl) (tab_out (fun k h1 h2 => by rcases (show k = 0 ∨ k = 1 ∨ k = 2 ∨ k = 3 by omega) with rfl | rfl | rfl | rfl <;> assumption)) rfl ?_
              refine r_iconst C (-1) (dk_at dk_Face_asks_1 16 rfl) ?_
              exact r_iret C h (dk_at dk_Face_asks_1 17 rfl)
    · replace h := h.2 c6
      refine r_iconst C (-1) (dk_at dk_Face_asks_0 10 rfl) ?_
      exact r_iret C h (dk_at dk_Face_asks_0 11 rfl)
  )
set_option maxRecDepth 20000 in
theorem m_Face_read {l : Launch} {w : WO} {T : TXT} {z : EXa} (hL : LyX w T z) {σ : DD} {a1 : Int32} {a2 : Int32} {post : Int32 → DD → Prop} (h : w_Face_read T σ a1 a2 post) : MI l w yX10_read cX10_read 4 .int (rmK 5 145) σ [.ref (wAd w 0), .int a1, .int a2] post :=
  met_head (rt := (some .int)) (by decide) rfl (fun X hX C => by
  subst hX
  unfold w_Face_read at h
  show gW X w (lim0 w) 4 (QI X w post) σ 0 [(0, .ref (wAd w 0)), (1, .int a1), (2, .int a2)] []
  refine r_aload_n C 0 rfl (dk_at dk_Face_read_0 0 rfl) ?_
  refine r_getR C fl_Face_41 0 (hL.1 0 _ rfl) rfl (dk_at dk_Face_read_0 1 rfl) ?_
  refine r_iload_n C 1 rfl (dk_at dk_Face_read_0 2 rfl) ?_
  refine r_iload_n C 2 rfl (dk_at dk_Face_read_0 3 rfl) ?_
  refine r_cvI C cl_Face_213 50 (hL.1 50 _ rfl) [.int a1, .int a2] (m_Court_tell hL h) (rmK_ok rfl rfl) rfl rfl (Nat.le_of_ble_eq_true rfl) (dk_at dk_Face_read_0 4 rfl) (fun r1 σ2 h => ?_)
  refine r_istore_n C [(3, .int r1), (0, .ref (wAd w 0)), (1, .int a1), (2, .int a2)] rfl rfl (dk_at dk_Face_read_0 5 rfl) ?_
  refine r_iload_n C 0 rfl (dk_at dk_Face_read_0 6 rfl) ?_
  refine r_if_ge C 22 rfl (dk_at dk_Face_read_0 7 rfl) (fun c3 => ?_) (fun c3 => ?_)
  · replace h := h.1 c3
    refine r_aload_n C 1 rfl (dk_at dk_Face_read_0 12 rfl) ?_
    refine r_iload_n C 0 rfl (dk_at dk_Face_read_0 13 rfl) ?_
    refine r_cvI C cl_Face_102 0 (hL.1 0 _ rfl) [.int r1] (m_Face_granted hL h) (rmK_ok rfl rfl) rfl rfl (Nat.le_of_ble_eq_true rfl) (dk_at dk_Face_read_0 14 rfl) (fun r4 σ5 h => ?_)
    exact r_iret C h (dk_at dk_Face_read_0 15 rfl)
  · replace h := h.2 c3
    refine r_aload_n C 1 rfl (dk_at dk_Face_read_0 8 rfl) ?_
    refine r_iload_n C 0 rfl (dk_at dk_Face_read_0 9 rfl) ?_
    refine r_cvI C cl_Face_90 0 (hL.1 0 _ rfl) [.int r1] (m_Face_refused hL h) (rmK_ok rfl rfl) rfl rfl (Nat.le_of_ble_eq_true rfl) (dk_at dk_Face_read_0 10 rfl) (fun r6 σ7 h => ?_)
    refine r_goto C 27 rfl (dk_at dk_Face_read_0 11 rfl) ?_
    exact r_iret C h (dk_at dk_Face_read_0 15 rfl)
  )
set_option maxRecDepth 20000 in
theorem m_Face_undo {l : Launch} {w : WO} {T : TXT} {z : EXa} (hL : LyX w T z) {σ : DD} {post : Int32 → DD → Prop} (h : w_Face_undo T σ post) : MI l w yX10_undo cX10_undo 1 .int (rmK 1 22) σ [.ref (wAd w 0)] post :=
  met_head (rt := (some .int)) (by decide) rfl (fun X hX C => by
  subst hX
  unfold w_Face_undo at h
  show gW X w (lim0 w) 1 (QI X w post) σ 0 [(0, .ref (wAd w 0))] []
  refine r_aload_n C 0 rfl (dk_at dk_Face_undo_0 0 rfl) ?_
  refine r_getR C fl_Face_10 0 (hL.1 0 _ rfl) rfl (dk_at dk_Face_undo_0 1 rfl) ?_
  refine r_getI C fl_Face_216 200 (hL.1 200 _ rfl) rfl (dk_at dk_Face_undo_0 2 rfl) ?_
  refine r_if_ne C 17 rfl (dk_at dk_Face_undo_0 3 rfl) (fun c1 => ?_) (fun c1 => ?_)
  · replace h := h.1 c1
    refine r_aload_n C 0 rfl (dk_at dk_Face_undo_0 8 rfl) ?_
    refine r_getR C fl_Face_10 0 (hL.1 0 _ rfl) rfl (dk_at dk_Face_undo_0 9 rfl) ?_
    refine r_dup C rfl (dk_at dk_Face_undo_0 10 rfl) ?_
    refine r_getI C fl_Face_216 200 (hL.1 200 _ rfl) rfl (dk_at dk_Face_undo_0 11 rfl) ?_
    refine r_iconst C 1 (dk_at dk_Face_undo_0 12 rfl) ?_
    refine r_isub C (dk_at dk_Face_undo_0 13 rfl) ?_
    refine r_putI C fl_Face_216 200 (hL.1 200 _ rfl) rfl (dk_at dk_Face_undo_0 14 rfl) (r_sg (fun σ2 e3 => ?_))
    replace h := h σ2 e3
    refine r_aload_n C 0 rfl (dk_at dk_Face_undo_0 15 rfl) ?_
    refine r_aload_n C 0 rfl (dk_at dk_Face_undo_0 16 rfl) ?_
    refine r_getR C fl_Face_10 0 (hL.1 0 _ rfl) rfl (dk_at dk_Face_undo_0 17 rfl) ?_
    refine r_getR C fl_Face_219 200 (hL.1 200 _ rfl) rfl (dk_at dk_Face_undo_0 18 rfl) ?_
    refine r_aload_n C 0 rfl (dk_at dk_Face_undo_0 19 rfl) ?_
    refine r_getR C fl_Face_10 0 (hL.1 0 _ rfl) rfl (dk_at dk_Face_undo_0 20 rfl) ?_
    refine r_getI C fl_Face_216 200 (hL.1 200 _ rfl) rfl (dk_at dk_Face_undo_0 21 rfl) ?_
    obtain ⟨q4, h⟩ := h
    refine r_iald C 210 (hL.1 210 _ rfl) q4 (dk_at dk_Face_undo_0 22 rfl) ?_
    refine r_cvI C cl_Face_102 0 (hL.1 0 _ rfl) [.int (gI σ2 210 (gI σ2 200 8).toNatClampNeg)] (m_Face_granted hL h) (rmK_ok rfl rfl) rfl rfl (Nat.le_of_ble_eq_true rfl) (dk_at dk_Face_undo_0 23 rfl) (fun r5 σ6 h => ?_)
    exact r_iret C h (dk_at dk_Face_undo_0 24 rfl)
  · replace h := h.2 c1
    refine r_aload_n C 0 rfl (dk_at dk_Face_undo_0 4 rfl) ?_
    refine r_bipush C (-3) (dk_at dk_Face_undo_0 5 rfl) ?_
    refine r_cvI C cl_Face_90 0 (hL.1 0 _ rfl) [.int (-3)] (m_Face_refused hL h) (rmK_ok rfl rfl) rfl rfl (Nat.le_of_ble_eq_true rfl) (dk_at dk_Face_undo_0 6 rfl) (fun r7 σ8 h => ?_)
    exact r_iret C h (dk_at dk_Face_undo_0 7 rfl)
  )
set_option maxRecDepth 20000 in
theorem m_Face_log {l : Launch} {w : WO} {T : TXT} {z : EXa} (hL : LyX w T z) {σ : DD} {a1 : Int32} {a2 : Int32} {post : Int32 → DD → Prop} (h : w_Face_log T σ a1 a2 post) : MI l w yX10_log cX10_log 3 .int (rmK 3 96) σ [.ref (wAd w 0), .int a1, .int a2] post :=
  met_head (rt := (some .int)) (by decide) rfl (fun X hX C => by
  subst hX
  unfold w_Face_log at h
  show gW X w (lim0 w) 3 (QI X w post) σ 0 [(0, .ref (wAd w 0)), (1, .int a1), (2, .int a2)] []
  refine r_iload_n C 1 rfl (dk_at dk_Face_log_0 0 rfl) ?_
  refine r_if_lt C 15 rfl (dk_at dk_Face_log_0 1 rfl) (fun c1 => ?_) (fun c1 => ?_)
  · replace h := h.1 c1
    refine r_iconst C (-1) (dk_at dk_Face_log_0 7 rfl) ?_
    exact r_iret C h (dk_at dk_Face_log_0 8 rfl)
  · replace h := h.2 c1
    refine r_iload_n C 1 rfl (dk_at dk_Face_log_0 2 rfl) ?_
    refine r_aload_n C 0 rfl (dk_at dk_Face_log_0 3 rfl) ?_
    refine r_getR C fl_Face_10 0 (hL.1 0 _ rfl) rfl (dk_at dk_Face_log_0 4 rfl) ?_
    refine r_getI C fl_Face_216 200 (hL.1 200 _ rfl) rfl (dk_at dk_Face_log_0 5 rfl) ?_
    refine r_icmp_lt C 17 rfl (dk_at dk_Face_log_0 6 rfl) (fun c2 => ?_) (fun c2 => ?_)
    · replace h := h.1 c2
      refine r_iload_n C 2 rfl (dk_at dk_Face_log_0 9 rfl) ?_
      by_cases c3 : a2 = 0
      · refine r_tabK C 0 c3 (off := 30) (tgt := 48) (by decide) (dk_at dk_Face_log_0 10 rfl) ?_
        replace h := h.1 c3
        refine r_aload_n C 0 rfl (dk_at dk_Face_log_0 11 rfl) ?_
        refine r_getR C fl_Face_10 0 (hL.1 0 _ rfl) rfl (dk_at dk_Face_log_0 12 rfl) ?_
        refine r_getR C fl_Face_219 200 (hL.1 200 _ rfl) rfl (dk_at dk_Face_log_0 13 rfl) ?_
        refine r_iload_n C 1 rfl (dk_at dk_Face_log_0 14 rfl) ?_
        obtain ⟨q4, h⟩ := h
        refine r_iald C 210 (hL.1 210 _ rfl) q4 (dk_at dk_Face_log_0 15 rfl) ?_
        exact r_iret C h (dk_at dk_Face_log_0 16 rfl)
      · replace h := h.2 c3
        by_cases c5 : a2 = 1
        · refine r_tabK C 1 c5 (off := 40) (tgt := 58) (by decide) (dk_at dk_Face_log_0 10 rfl) ?_
          replace h := h.1 c5
          refine r_aload_n C 0 rfl (dk_at dk_Face_log_0 17 rfl) ?_
          refine r_getR C fl_Face_10 0 (hL.1 0 _ rfl) rfl (dk_at dk_Face_log_0 18 rfl) ?_
          refine r_getR C fl_Face_222 200 (hL.1 200 _ rfl) rfl (dk_at dk_Face_log_0 19 rfl) ?_
          refine r_iload_n C 1 rfl (dk_at dk_Face_log_0 20 rfl) ?_
          obtain ⟨q6, h⟩ := h
          refine r_iald C 211 (hL.1 211 _ rfl) q6 (dk_at dk_Face_log_0 21 rfl) ?_
          exact r_iret C h (dk_at dk_Face_log_0 22 rfl)
        · replace h := h.2 c5
          by_cases c7 : a2 = 2
          · refine r_tabK C 2 c7 (off := 50) (tgt := 68) (by decide) (dk_at dk_Face_log_0 10 rfl) ?_
            replace h := h.1 c7
            refine r_aload_n C 0 rfl (dk_at dk_Face_log_0 23 rfl) ?_
            refine r_getR C fl_Face_10 0 (hL.1 0 _ rfl) rfl (dk_at dk_Face_log_0 24 rfl) ?_
            refine r_getR C fl_Face_225 200 (hL.1 200 _ rfl) rfl (dk_at dk_Face_log_0 25 rfl) ?_
            refine r_iload_n C 1 rfl (dk_at dk_Face_log_0 26 rfl) ?_
            obtain ⟨q8, h⟩ := h
            refine r_iald C 212 (hL.1 212 _ rfl) q8 (dk_at dk_Face_log_0 27 rfl) ?_
            exact r_iret C h (dk_at dk_Face_log_0 28 rfl)
          · replace h := h.2 c7
            by_cases c9 : a2 = 3
            · refine r_tabK C 3 c9 (off := 60) (tgt := 78) (by decide) (dk_at dk_Face_log_0 10 rfl) ?_
              replace h := h.1 c9
              refine r_aload_n C 0 rfl (dk_at dk_Face_log_0 29 rfl) ?_
              refine r_getR C fl_Face_41 0 (hL.1 0 _ rfl) rfl (dk_at dk_Face_log_0 30 rfl) ?_
              refine r_aload_n C 0 rfl (dk_at dk_Face_log_0 31 rfl) ?_
              refine r_getR C fl_Face_10 0 (hL.1 0 _ rfl) rfl (dk_at dk_Face_log_0 32 rfl) ?_
              refine r_getR C fl_Face_219 200 (hL.1 200 _ rfl) rfl (dk_at dk_Face_log_0 33 rfl) ?_
              refine r_iload_n C 1 rfl (dk_at dk_Face_log_0 34 rfl) ?_
              obtain ⟨q10, h⟩ := h
              refine r_iald C 210 (hL.1 210 _ rfl) q10 (dk_at dk_Face_log_0 35 rfl) ?_
              refine r_aload_n C 0 rfl (dk_at dk_Face_log_0 36 rfl) ?_
              refine r_getR C fl_Face_10 0 (hL.1 0 _ rfl) rfl (dk_at dk_Face_log_0 37 rfl) ?_
              refine r_getR C fl_Face_222 200 (hL.1 200 _ rfl) rfl (dk_at dk_Face_log_0 38 rfl) ?_
              refine r_iload_n C 1 rfl (dk_at dk_Face_log_0 39 rfl) ?_
              obtain ⟨q11, h⟩ := h
              refine r_iald C 211 (hL.1 211 _ rfl) q11 (dk_at dk_Face_log_1 0 rfl) ?_
              refine r_aload_n C 0 rfl (dk_at dk_Face_log_1 1 rfl) ?_
              refine r_getR C fl_Face_10 0 (hL.1 0 _ rfl) rfl (dk_at dk_Face_log_1 2 rfl) ?_
              refine r_getR C fl_Face_225 200 (hL.1 200 _ rfl) rfl (dk_at dk_Face_log_1 3 rfl) ?_
              refine r_iload_n C 1 rfl (dk_at dk_Face_log_1 4 rfl) ?_
              obtain ⟨q12, h⟩ := h
              refine r_iald C 212 (hL.1 212 _ rfl) q12 (dk_at dk_Face_log_1 5 rfl) ?_
              refine r_cvI C cl_Face_200 50 (hL.1 50 _ rfl) [.int (gI σ 210 a1.toNatClampNeg), .int (gI σ 211 a1.toNatClampNeg), .int (gI σ 212 a1.toNatClampNeg)] (m_Court_lasts hL h) (rmK_ok rfl rfl) rfl rfl (Nat.le_of_ble_eq_true rfl) (dk_at dk_Face_log_1 6 rfl) (fun r13 σ14 h => ?_)
              exact r_iret C h (dk_at dk_Face_log_1 7 rfl)
            · replace h := h.2 c9
              refine r_tabD C (tgt := 113) (dk_at dk_Face_log_0 10 rfl) (tab_out (fun k h1 h2 => by rcases (show k = 0 ∨ k = 1 ∨ k = 2 ∨ k = 3 by omega) with rfl | rfl | rfl | rfl <;> assumption)) rfl ?_
              refine r_iconst C (-1) (dk_at dk_Face_log_1 8 rfl) ?_
              exact r_iret C h (dk_at dk_Face_log_1 9 rfl)
    · replace h := h.2 c2
      refine r_iconst C (-1) (dk_at dk_Face_log_0 7 rfl) ?_
      exact r_iret C h (dk_at dk_Face_log_0 8 rfl)
  )
set_option maxRecDepth 20000 in
theorem m_Face_await {l : Launch} {w : WO} {T : TXT} {z : EXa} (hL : LyX w T z) {σ : DD} {post : Int32 → DD → Prop} (h : w_Face_await T σ post) : MI l w yX10_await cX10_await 2 .int (rmK 5 141) σ [.ref (wAd w 0)] post :=
  met_head (rt := (some .int)) (by decide) rfl (fun X hX C => by
  subst hX
  unfold w_Face_await at h
  show gW X w (lim0 w) 2 (QI X w post) σ 0 [(0, .ref (wAd w 0))] []
  refine r_aload_n C 0 rfl (dk_at dk_Face_await_0 0 rfl) ?_
  refine r_getR C fl_Face_41 0 (hL.1 0 _ rfl) rfl (dk_at dk_Face_await_0 1 rfl) ?_
  refine r_cvI C cl_Face_228 50 (hL.1 50 _ rfl) [] (m_Court_nextDay hL h) (rmK_ok rfl rfl) rfl rfl (Nat.le_of_ble_eq_true rfl) (dk_at dk_Face_await_0 2 rfl) (fun r1 σ2 h => ?_)
  refine r_istore_n C [(1, .int r1), (0, .ref (wAd w 0))] rfl rfl (dk_at dk_Face_await_0 3 rfl) ?_
  refine r_iload_n C 0 rfl (dk_at dk_Face_await_0 4 rfl) ?_
  refine r_if_ge C 20 rfl (dk_at dk_Face_await_0 5 rfl) (fun c3 => ?_) (fun c3 => ?_)
  · replace h := h.1 c3
    refine r_aload_n C 1 rfl (dk_at dk_Face_await_0 10 rfl) ?_
    refine r_iload_n C 0 rfl (dk_at dk_Face_await_0 11 rfl) ?_
    refine r_cvI C cl_Face_102 0 (hL.1 0 _ rfl) [.int r1] (m_Face_granted hL h) (rmK_ok rfl rfl) rfl rfl (Nat.le_of_ble_eq_true rfl) (dk_at dk_Face_await_0 12 rfl) (fun r4 σ5 h => ?_)
    exact r_iret C h (dk_at dk_Face_await_0 13 rfl)
  · replace h := h.2 c3
    refine r_aload_n C 1 rfl (dk_at dk_Face_await_0 6 rfl) ?_
    refine r_iload_n C 0 rfl (dk_at dk_Face_await_0 7 rfl) ?_
    refine r_cvI C cl_Face_90 0 (hL.1 0 _ rfl) [.int r1] (m_Face_refused hL h) (rmK_ok rfl rfl) rfl rfl (Nat.le_of_ble_eq_true rfl) (dk_at dk_Face_await_0 8 rfl) (fun r6 σ7 h => ?_)
    refine r_goto C 25 rfl (dk_at dk_Face_await_0 9 rfl) ?_
    exact r_iret C h (dk_at dk_Face_await_0 13 rfl)
  )
set_option maxRecDepth 20000 in
theorem m_Face_held {l : Launch} {w : WO} {T : TXT} {z : EXa} (hL : LyX w T z) {σ : DD} {a1 : Int32} {post : Int32 → DD → Prop} (h : w_Face_held T σ a1 post) : MI l w yX10_held cX10_held 2 .int (rmK 4 120) σ [.ref (wAd w 0), .int a1] post :=
  met_head (rt := (some .int)) (by decide) rfl (fun X hX C => by
  subst hX
  unfold w_Face_held at h
  show gW X w (lim0 w) 2 (QI X w post) σ 0 [(0, .ref (wAd w 0)), (1, .int a1)] []
  refine r_iconst C 0 (dk_at dk_Face_held_0 0 rfl) ?_
  refine r_iload_n C 1 rfl (dk_at dk_Face_held_0 1 rfl) ?_
  refine r_csI C cs_Face_156 [.int 0, .int a1] (m_Real_canBeTerm hL h) (rmK_ok rfl rfl) rfl rfl (Nat.le_of_ble_eq_true rfl) (dk_at dk_Face_held_0 2 rfl) (fun r1 σ2 h => ?_)
  refine r_if_eq C 19 rfl (dk_at dk_Face_held_0 3 rfl) (fun c3 => ?_) (fun c3 => ?_)
  · replace h := h.1 c3
    refine r_iconst C (-1) (dk_at dk_Face_held_0 9 rfl) ?_
    exact r_iret C h (dk_at dk_Face_held_0 10 rfl)
  · replace h := h.2 c3
    refine r_aload_n C 0 rfl (dk_at dk_Face_held_0 4 rfl) ?_
    refine r_getR C fl_Face_41 0 (hL.1 0 _ rfl) rfl (dk_at dk_Face_held_0 5 rfl) ?_
    refine r_iload_n C 1 rfl (dk_at dk_Face_held_0 6 rfl) ?_
    refine r_cvI C cl_Face_231 50 (hL.1 50 _ rfl) [.int a1] (m_Court_heldBits hL h) (rmK_ok rfl rfl) rfl rfl (Nat.le_of_ble_eq_true rfl) (dk_at dk_Face_held_0 7 rfl) (fun r4 σ5 h => ?_)
    refine r_goto C 20 rfl (dk_at dk_Face_held_0 8 rfl) ?_
    exact r_iret C h (dk_at dk_Face_held_0 10 rfl)
  )
set_option maxRecDepth 20000 in
theorem m_Face_bound {l : Launch} {w : WO} {T : TXT} {z : EXa} (hL : LyX w T z) {σ : DD} {a1 : Int32} {a2 : Int32} {post : Int32 → DD → Prop} (h : w_Face_bound T σ a1 a2 post) : MI l w yX10_bound cX10_bound 3 .int (rmK 4 120) σ [.ref (wAd w 0), .int a1, .int a2] post :=
  met_head (rt := (some .int)) (by decide) rfl (fun X hX C => by
  subst hX
  unfold w_Face_bound at h
  show gW X w (lim0 w) 3 (QI X w post) σ 0 [(0, .ref (wAd w 0)), (1, .int a1), (2, .int a2)] []
  refine r_iload_n C 1 rfl (dk_at dk_Face_bound_0 0 rfl) ?_
  refine r_if_lt C 18 rfl (dk_at dk_Face_bound_0 1 rfl) (fun c1 => ?_) (fun c1 => ?_)
  · replace h := h.1 c1
    refine r_iconst C (-1) (dk_at dk_Face_bound_0 9 rfl) ?_
    exact r_iret C h (dk_at dk_Face_bound_0 10 rfl)
  · replace h := h.2 c1
    refine r_iload_n C 1 rfl (dk_at dk_Face_bound_0 2 rfl) ?_
    refine r_bipush C 6 (dk_at dk_Face_bound_0 3 rfl) ?_
    refine r_icmp_ge C 18 rfl (dk_at dk_Face_bound_0 4 rfl) (fun c2 => ?_) (fun c2 => ?_)
    · replace h := h.1 c2
      refine r_iconst C (-1) (dk_at dk_Face_bound_0 9 rfl) ?_
      exact r_iret C h (dk_at dk_Face_bound_0 10 rfl)
    · replace h := h.2 c2
      refine r_iconst C 0 (dk_at dk_Face_bound_0 5 rfl) ?_
      refine r_iload_n C 2 rfl (dk_at dk_Face_bound_0 6 rfl) ?_
      refine r_csI C cs_Face_156 [.int 0, .int a2] (m_Real_canBeTerm hL h) (rmK_ok rfl rfl) rfl rfl (Nat.le_of_ble_eq_true rfl) (dk_at dk_Face_bound_0 7 rfl) (fun r3 σ4 h => ?_)
      refine r_if_ne C 20 rfl (dk_at dk_Face_bound_0 8 rfl) (fun c5 => ?_) (fun c5 => ?_)
      · replace h := h.1 c5
        refine r_aload_n C 0 rfl (dk_at dk_Face_bound_0 11 rfl) ?_
        refine r_getR C fl_Face_41 0 (hL.1 0 _ rfl) rfl (dk_at dk_Face_bound_0 12 rfl) ?_
        refine r_iload_n C 2 rfl (dk_at dk_Face_bound_0 13 rfl) ?_
        refine r_cvI C cl_Face_231 50 (hL.1 50 _ rfl) [.int a2] (m_Court_heldBits hL h) (rmK_ok rfl rfl) rfl rfl (Nat.le_of_ble_eq_true rfl) (dk_at dk_Face_bound_0 14 rfl) (fun r6 σ7 h => ?_)
        refine r_aload_n C 0 rfl (dk_at dk_Face_bound_0 15 rfl) ?_
        refine r_getR C fl_Face_10 0 (hL.1 0 _ rfl) rfl (dk_at dk_Face_bound_0 16 rfl) ?_
        refine r_iload_n C 1 rfl (dk_at dk_Face_bound_0 17 rfl) ?_
        refine r_cvI C cl_Face_234 200 (hL.1 200 _ rfl) [.int a1] (m_Real_bindersOf hL h) (rmK_ok rfl rfl) rfl rfl (Nat.le_of_ble_eq_true rfl) (dk_at dk_Face_bound_0 18 rfl) (fun r8 σ9 h => ?_)
        refine r_iand C (dk_at dk_Face_bound_0 19 rfl) ?_
        exact r_iret C h (dk_at dk_Face_bound_0 20 rfl)
      · replace h := h.2 c5
        refine r_iconst C (-1) (dk_at dk_Face_bound_0 9 rfl) ?_
        exact r_iret C h (dk_at dk_Face_bound_0 10 rfl)
  )
set_option maxRecDepth 20000 in
theorem m_Face_mornings {l : Launch} {w : WO} {T : TXT} {z : EXa} (hL : LyX w T z) {σ : DD} {a1 : Int32} {a2 : Int32} {a3 : Int32} {a4 : Int32} {a5 : Int32} {post : Int32 → DD → Prop} (h : w_Face_mornings T σ a1 a2 a3 a4 a5 post) : MI l w yX10_mornings cX10_mornings 7 .int (rmK 16 449) σ [.ref (wAd w 0), .int a1, .int a2, .int a3, .int a4, .int a5] post :=
  met_head (rt := (some .int)) (by decide) rfl (fun X hX C => by
  subst hX
  unfold w_Face_mornings at h
  show gW X w (lim0 w) 7 (QI X w post) σ 0 [(0, .ref (wAd w 0)), (1, .int a1), (2, .int a2), (3, .int a3), (4, .int a4), (5, .int a5)] []
  refine r_aload_n C 0 rfl (dk_at dk_Face_mornings_0 0 rfl) ?_
  refine r_getR C fl_Face_10 0 (hL.1 0 _ rfl) rfl (dk_at dk_Face_mornings_0 1 rfl) ?_
  refine r_iload_n C 1 rfl (dk_at dk_Face_mornings_0 2 rfl) ?_
  refine r_cvI C cl_Face_237 200 (hL.1 200 _ rfl) [.int a1] (m_Real_areActs hL h) (rmK_ok rfl rfl) rfl rfl (Nat.le_of_ble_eq_true rfl) (dk_at dk_Face_mornings_0 3 rfl) (fun r1 σ2 h => ?_)
  refine r_if_eq C 33 rfl (dk_at dk_Face_mornings_0 4 rfl) (fun c3 => ?_) (fun c3 => ?_)
  · replace h := h.1 c3
    refine r_iconst C (-1) (dk_at dk_Face_mornings_0 15 rfl) ?_
    exact r_iret C h (dk_at dk_Face_mornings_0 16 rfl)
  · replace h := h.2 c3
    refine r_aload_n C 0 rfl (dk_at dk_Face_mornings_0 5 rfl) ?_
    refine r_getR C fl_Face_10 0 (hL.1 0 _ rfl) rfl (dk_at dk_Face_mornings_0 6 rfl) ?_
    refine r_iload_n C 2 rfl (dk_at dk_Face_mornings_0 7 rfl) ?_
    refine r_cvI C cl_Face_237 200 (hL.1 200 _ rfl) [.int a2] (m_Real_areActs hL h) (rmK_ok rfl rfl) rfl rfl (Nat.le_of_ble_eq_true rfl) (dk_at dk_Face_mornings_0 8 rfl) (fun r4 σ5 h => ?_)
    refine r_if_eq C 33 rfl (dk_at dk_Face_mornings_0 9 rfl) (fun c6 => ?_) (fun c6 => ?_)
    · replace h := h.1 c6
      refine r_iconst C (-1) (dk_at dk_Face_mornings_0 15 rfl) ?_
      exact r_iret C h (dk_at dk_Face_mornings_0 16 rfl)
    · replace h := h.2 c6
      refine r_aload_n C 0 rfl (dk_at dk_Face_mornings_0 10 rfl) ?_
      refine r_getR C fl_Face_10 0 (hL.1 0 _ rfl) rfl (dk_at dk_Face_mornings_0 11 rfl) ?_
      refine r_iload_n C 3 rfl (dk_at dk_Face_mornings_0 12 rfl) ?_
      refine r_cvI C cl_Face_147 200 (hL.1 200 _ rfl) [.int a3] (m_Real_isReader hL h) (rmK_ok rfl rfl) rfl rfl (Nat.le_of_ble_eq_true rfl) (dk_at dk_Face_mornings_0 13 rfl) (fun r7 σ8 h => ?_)
      refine r_if_ne C 35 rfl (dk_at dk_Face_mornings_0 14 rfl) (fun c9 => ?_) (fun c9 => ?_)
      · replace h := h.1 c9
        refine r_iload C 4 rfl (dk_at dk_Face_mornings_0 17 rfl) ?_
        refine r_iconst C 1 (dk_at dk_Face_mornings_0 18 rfl) ?_
        refine r_icmp_lt C 60 rfl (dk_at dk_Face_mornings_0 19 rfl) (fun c10 => ?_) (fun c10 => ?_)
        · replace h := h.1 c10
          refine r_iconst C (-1) (dk_at dk_Face_mornings_0 29 rfl) ?_
          exact r_iret C h (dk_at dk_Face_mornings_0 30 rfl)
        · replace h := h.2 c10
          refine r_iload C 4 rfl (dk_at dk_Face_mornings_0 20 rfl) ?_
          refine r_iconst C 5 (dk_at dk_Face_mornings_0 21 rfl) ?_
          refine r_icmp_gt C 60 rfl (dk_at dk_Face_mornings_0 22 rfl) (fun c11 => ?_) (fun c11 => ?_)
          · replace h := h.1 c11
            refine r_iconst C (-1) (dk_at dk_Face_mornings_0 29 rfl) ?_
            exact r_iret C h (dk_at dk_Face_mornings_0 30 rfl)
          · replace h := h.2 c11
            refine r_iload C 5 rfl (dk_at dk_Face_mornings_0 23 rfl) ?_
            refine r_iconst C (-1) (dk_at dk_Face_mornings_0 24 rfl) ?_
            refine r_icmp_lt C 60 rfl (dk_at dk_Face_mornings_0 25 rfl) (fun c12 => ?_) (fun c12 => ?_)
            · replace h := h.1 c12
              refine r_iconst C (-1) (dk_at dk_Face_mornings_0 29 rfl) ?_
              exact r_iret C h (dk_at dk_Face_mornings_0 30 rfl)
            · replace h := h.2 c12
              refine r_iload C 5 rfl (dk_at dk_Face_mornings_0 26 rfl) ?_
              refine r_iload C 4 rfl (dk_at dk_Face_mornings_0 27 rfl) ?_
              refine r_icmp_lt C 62 rfl (dk_at dk_Face_mornings_0 28 rfl) (fun c13 => ?_) (fun c13 => ?_)
              · replace h := h.1 c13
                refine r_aload_n C 0 rfl (dk_at dk_Face_mornings_0 31 rfl) ?_
                refine r_getR C fl_Face_57 0 (hL.1 0 _ rfl) rfl (dk_at dk_Face_mornings_0 32 rfl) ?_
                refine r_iload_n C 1 rfl (dk_at dk_Face_mornings_0 33 rfl) ?_
                refine r_iload_n C 2 rfl (dk_at dk_Face_mornings_0 34 rfl) ?_
                refine r_iload_n C 3 rfl (dk_at dk_Face_mornings_0 35 rfl) ?_
                refine r_iload C 4 rfl (dk_at dk_Face_mornings_0 36 rfl) ?_
                refine r_cvI C cl_Face_240 70 (hL.1 70 _ rfl) [.int a1, .int a2, .int a3, .int a4] (m_Morn_fewestReadings hL h) (rmK_ok rfl rfl) rfl rfl (Nat.le_of_ble_eq_true rfl) (dk_at dk_Face_mornings_0 37 rfl) (fun r14 σ15 h => ?_)
                refine r_istore C [(6, .int r14), (0, .ref (wAd w 0)), (1, .int a1), (2, .int a2), (3, .int a3), (4, .int a4), (5, .int a5)] rfl rfl (dk_at dk_Face_mornings_0 38 rfl) ?_
                refine r_iload C 6 rfl (dk_at dk_Face_mornings_0 39 rfl) ?_
                refine r_iconst C (-1) (dk_at dk_Face_mornings_1 0 rfl) ?_
                refine r_icmp_eq C 88 rfl (dk_at dk_Face_mornings_1 1 rfl) (fun c16 => ?_) (fun c16 => ?_)
                · replace h := h.1 c16
                  refine r_iload C 0 rfl (dk_at dk_Face_mornings_1 5 rfl) ?_
                  exact r_iret C h (dk_at dk_Face_mornings_1 6 rfl)
                · replace h := h.2 c16
                  refine r_iload C 0 rfl (dk_at dk_Face_mornings_1 2 rfl) ?_
                  refine r_iconst C (-1) (dk_at dk_Face_mornings_1 3 rfl) ?_
                  refine r_icmp_ne C 91 rfl (dk_at dk_Face_mornings_1 4 rfl) (fun c17 => ?_) (fun c17 => ?_)
                  · replace h := h.1 c17
                    refine r_aload_n C 1 rfl (dk_at dk_Face_mornings_1 7 rfl) ?_
                    refine r_getR C fl_Face_57 0 (hL.1 0 _ rfl) rfl (dk_at dk_Face_mornings_1 8 rfl) ?_
                    refine r_getR C fl_Face_243 70 (hL.1 70 _ rfl) rfl (dk_at dk_Face_mornings_1 9 rfl) ?_
                    refine r_iload C 6 rfl (dk_at dk_Face_mornings_1 10 rfl) ?_
                    obtain ⟨q18, h⟩ := h
                    refine r_iald C 77 (hL.1 77 _ rfl) q18 (dk_at dk_Face_mornings_1 11 rfl) ?_
                    exact r_iret C h (dk_at dk_Face_mornings_1 12 rfl)
                  · replace h := h.2 c17
                    refine r_iload C 0 rfl (dk_at dk_Face_mornings_1 5 rfl) ?_
                    exact r_iret C h (dk_at dk_Face_mornings_1 6 rfl)
              · replace h := h.2 c13
                refine r_iconst C (-1) (dk_at dk_Face_mornings_0 29 rfl) ?_
                exact r_iret C h (dk_at dk_Face_mornings_0 30 rfl)
      · replace h := h.2 c9
        refine r_iconst C (-1) (dk_at dk_Face_mornings_0 15 rfl) ?_
        exact r_iret C h (dk_at dk_Face_mornings_0 16 rfl)
  )
set_option maxRecDepth 20000 in
theorem m_Face_game {l : Launch} {w : WO} {T : TXT} {z : EXa} (hL : LyX w T z) {σ : DD} {a1 : Int32} {a2 : Int32} {a3 : Int32} {a4 : Int32} {a5 : Int32} {a6 : Int32} {post : Int32 → DD → Prop} (h : w_Face_game T σ a1 a2 a3 a4 a5 a6 post) : MI l w yX10_game cX10_game 8 .int (rmK 28 747) σ [.ref (wAd w 0), .int a1, .int a2, .int a3, .int a4, .int a5, .int a6] post :=
  met_head (rt := (some .int)) (by decide) rfl (fun X hX C => by
  subst hX
  unfold w_Face_game at h
  show gW X w (lim0 w) 8 (QI X w post) σ 0 [(0, .ref (wAd w 0)), (1, .int a1), (2, .int a2), (3, .int a3), (4, .int a4), (5, .int a5), (6, .int a6)] []
  refine r_aload_n C 0 rfl (dk_at dk_Face_game_0 0 rfl) ?_
  refine r_getR C fl_Face_10 0 (hL.1 0 _ rfl) rfl (dk_at dk_Face_game_0 1 rfl) ?_
  refine r_iload_n C 1 rfl (dk_at dk_Face_game_0 2 rfl) ?_
  refine r_cvI C cl_Face_237 200 (hL.1 200 _ rfl) [.int a1] (m_Real_areActs hL h) (rmK_ok rfl rfl) rfl rfl (Nat.le_of_ble_eq_true rfl) (dk_at dk_Face_game_0 3 rfl) (fun r1 σ2 h => ?_)
  refine r_if_eq C 22 rfl (dk_at dk_Face_game_0 4 rfl) (fun c3 => ?_) (fun c3 => ?_)
  · replace h := h.1 c3
    refine r_sipush C (-1000) (dk_at dk_Face_game_0 10 rfl) ?_
    exact r_iret C h (dk_at dk_Face_game_0 11 rfl)
  · replace h := h.2 c3
    refine r_aload_n C 0 rfl (dk_at dk_Face_game_0 5 rfl) ?_
    refine r_getR C fl_Face_10 0 (hL.1 0 _ rfl) rfl (dk_at dk_Face_game_0 6 rfl) ?_
    refine r_iload_n C 2 rfl (dk_at dk_Face_game_0 7 rfl) ?_
    refine r_cvI C cl_Face_237 200 (hL.1 200 _ rfl) [.int a2] (m_Real_areActs hL h) (rmK_ok rfl rfl) rfl rfl (Nat.le_of_ble_eq_true rfl) (dk_at dk_Face_game_0 8 rfl) (fun r4 σ5 h => ?_)
    refine r_if_ne C 26 rfl (dk_at dk_Face_game_0 9 rfl) (fun c6 => ?_) (fun c6 => ?_)
    · replace h := h.1 c6
      refine r_aload_n C 0 rfl (dk_at dk_Face_game_0 12 rfl) ?_
      refine r_getR C fl_Face_10 0 (hL.1 0 _ rfl) rfl (dk_at dk_Face_game_0 13 rfl) ?_
      refine r_iload_n C 3 rfl (dk_at dk_Face_game_0 14 rfl) ?_
      refine r_cvI C cl_Face_147 200 (hL.1 200 _ rfl) [.int a3] (m_Real_isReader hL h) (rmK_ok rfl rfl) rfl rfl (Nat.le_of_ble_eq_true rfl) (dk_at dk_Face_game_0 15 rfl) (fun r7 σ8 h => ?_)
      refine r_if_eq C 55 rfl (dk_at dk_Face_game_0 16 rfl) (fun c9 => ?_) (fun c9 => ?_)
      · replace h := h.1 c9
        refine r_sipush C (-1000) (dk_at dk_Face_game_0 25 rfl) ?_
        exact r_iret C h (dk_at dk_Face_game_0 26 rfl)
      · replace h := h.2 c9
        refine r_aload_n C 0 rfl (dk_at dk_Face_game_0 17 rfl) ?_
        refine r_getR C fl_Face_10 0 (hL.1 0 _ rfl) rfl (dk_at dk_Face_game_0 18 rfl) ?_
        refine r_iload C 4 rfl (dk_at dk_Face_game_0 19 rfl) ?_
        refine r_cvI C cl_Face_147 200 (hL.1 200 _ rfl) [.int a4] (m_Real_isReader hL h) (rmK_ok rfl rfl) rfl rfl (Nat.le_of_ble_eq_true rfl) (dk_at dk_Face_game_0 20 rfl) (fun r10 σ11 h => ?_)
        refine r_if_eq C 55 rfl (dk_at dk_Face_game_0 21 rfl) (fun c12 => ?_) (fun c12 => ?_)
        · replace h := h.1 c12
          refine r_sipush C (-1000) (dk_at dk_Face_game_0 25 rfl) ?_
          exact r_iret C h (dk_at dk_Face_game_0 26 rfl)
        · replace h := h.2 c12
          refine r_iload_n C 3 rfl (dk_at dk_Face_game_0 22 rfl) ?_
          refine r_iload C 4 rfl (dk_at dk_Face_game_0 23 rfl) ?_
          refine r_icmp_ne C 59 rfl (dk_at dk_Face_game_0 24 rfl) (fun c13 => ?_) (fun c13 => ?_)
          · replace h := h.1 c13
            refine r_iload C 5 rfl (dk_at dk_Face_game_0 27 rfl) ?_
            refine r_iconst C 1 (dk_at dk_Face_game_0 28 rfl) ?_
            refine r_icmp_lt C 82 rfl (dk_at dk_Face_game_0 29 rfl) (fun c14 => ?_) (fun c14 => ?_)
            · replace h := h.1 c14
              refine r_sipush C (-1000) (dk_at dk_Face_game_0 38 rfl) ?_
              exact r_iret C h (dk_at dk_Face_game_0 39 rfl)
            · replace h := h.2 c14
              refine r_iload C 5 rfl (dk_at dk_Face_game_0 30 rfl) ?_
              refine r_iconst C 4 (dk_at dk_Face_game_0 31 rfl) ?_
              refine r_icmp_gt C 82 rfl (dk_at dk_Face_game_0 32 rfl) (fun c15 => ?_) (fun c15 => ?_)
              · replace h := h.1 c15
                refine r_sipush C (-1000) (dk_at dk_Face_game_0 38 rfl) ?_
                exact r_iret C h (dk_at dk_Face_game_0 39 rfl)
              · replace h := h.2 c15
                refine r_iload C 6 rfl (dk_at dk_Face_game_0 33 rfl) ?_
                refine r_if_lt C 82 rfl (dk_at dk_Face_game_0 34 rfl) (fun c16 => ?_) (fun c16 => ?_)
                · replace h := h.1 c16
                  refine r_sipush C (-1000) (dk_at dk_Face_game_0 38 rfl) ?_
                  exact r_iret C h (dk_at dk_Face_game_0 39 rfl)
                · replace h := h.2 c16
                  refine r_iload C 6 rfl (dk_at dk_Face_game_0 35 rfl) ?_
                  refine r_iconst C 1 (dk_at dk_Face_game_0 36 rfl) ?_
                  refine r_icmp_le C 86 rfl (dk_at dk_Face_game_0 37 rfl) (fun c17 => ?_) (fun c17 => ?_)
                  · replace h := h.1 c17
                    refine r_aload_n C 0 rfl (dk_at dk_Face_game_1 0 rfl) ?_
                    refine r_getR C fl_Face_57 0 (hL.1 0 _ rfl) rfl (dk_at dk_Face_game_1 1 rfl) ?_
                    refine r_iload_n C 1 rfl (dk_at dk_Face_game_1 2 rfl) ?_
                    refine r_iload_n C 2 rfl (dk_at dk_Face_game_1 3 rfl) ?_
                    refine r_iload_n C 3 rfl (dk_at dk_Face_game_1 4 rfl) ?_
                    refine r_iload C 4 rfl (dk_at dk_Face_game_1 5 rfl) ?_
                    refine r_iload C 5 rfl (dk_at dk_Face_game_1 6 rfl) ?_
                    refine r_cvI C cl_Face_246 70 (hL.1 70 _ rfl) [.int a1, .int a2, .int a3, .int a4, .int a5] (m_Morn_playOut hL h) (rmK_ok rfl rfl) rfl rfl (Nat.le_of_ble_eq_true rfl) (dk_at dk_Face_game_1 7 rfl) (fun r18 σ19 h => ?_)
                    refine r_istore C [(7, .int r18), (0, .ref (wAd w 0)), (1, .int a1), (2, .int a2), (3, .int a3), (4, .int a4), (5, .int a5), (6, .int a6)] rfl rfl (dk_at dk_Face_game_1 8 rfl) ?_
                    refine r_iload C 7 rfl (dk_at dk_Face_game_1 9 rfl) ?_
                    refine r_if_ne C 112 rfl (dk_at dk_Face_game_1 10 rfl) (fun c20 => ?_) (fun c20 => ?_)
                    · replace h := h.1 c20
                      refine r_aload_n C 1 rfl (dk_at dk_Face_game_1 13 rfl) ?_
                      refine r_getR C fl_Face_57 0 (hL.1 0 _ rfl) rfl (dk_at dk_Face_game_1 14 rfl) ?_
                      refine r_getI C fl_Face_250 70 (hL.1 70 _ rfl) rfl (dk_at dk_Face_game_1 15 rfl) ?_
                      exact r_iret C h (dk_at dk_Face_game_1 16 rfl)
                    · replace h := h.2 c20
                      refine r_iload C 0 rfl (dk_at dk_Face_game_1 11 rfl) ?_
                      refine r_goto C 119 rfl (dk_at dk_Face_game_1 12 rfl) ?_
                      exact r_iret C h (dk_at dk_Face_game_1 16 rfl)
                  · replace h := h.2 c17
                    refine r_sipush C (-1000) (dk_at dk_Face_game_0 38 rfl) ?_
                    exact r_iret C h (dk_at dk_Face_game_0 39 rfl)
          · replace h := h.2 c13
            refine r_sipush C (-1000) (dk_at dk_Face_game_0 25 rfl) ?_
            exact r_iret C h (dk_at dk_Face_game_0 26 rfl)
    · replace h := h.2 c6
      refine r_sipush C (-1000) (dk_at dk_Face_game_0 10 rfl) ?_
      exact r_iret C h (dk_at dk_Face_game_0 11 rfl)
  )
set_option maxRecDepth 20000 in
theorem m_Face_dead {l : Launch} {w : WO} {T : TXT} {z : EXa} (hL : LyX w T z) {σ : DD} {post : Int32 → DD → Prop} (h : w_Face_dead T σ post) : MI l w yX10_dead cX10_dead 1 .int (rmK 5 145) σ [.ref (wAd w 0)] post :=
  met_head (rt := (some .int)) (by decide) rfl (fun X hX C => by
  subst hX
  unfold w_Face_dead at h
  show gW X w (lim0 w) 1 (QI X w post) σ 0 [(0, .ref (wAd w 0))] []
  refine r_aload_n C 0 rfl (dk_at dk_Face_dead_0 0 rfl) ?_
  refine r_getR C fl_Face_64 0 (hL.1 0 _ rfl) rfl (dk_at dk_Face_dead_0 1 rfl) ?_
  refine r_cvI C cl_Face_253 90 (hL.1 90 _ rfl) [] (m_Shar_deadBits hL h) (rmK_ok rfl rfl) rfl rfl (Nat.le_of_ble_eq_true rfl) (dk_at dk_Face_dead_0 2 rfl) (fun r1 σ2 h => ?_)
  exact r_iret C h (dk_at dk_Face_dead_0 3 rfl)
  )
set_option maxRecDepth 20000 in
theorem m_Face_throats {l : Launch} {w : WO} {T : TXT} {z : EXa} (hL : LyX w T z) {σ : DD} {a1 : Int32} {a2 : Int32} {post : Int32 → DD → Prop} (h : w_Face_throats T σ a1 a2 post) : MI l w yX10_throats cX10_throats 4 .int (rmK 15 357) σ [.ref (wAd w 0), .int a1, .int a2] post :=
  met_head (rt := (some .int)) (by decide) rfl (fun X hX C => by
  subst hX
  unfold w_Face_throats at h
  show gW X w (lim0 w) 4 (QI X w post) σ 0 [(0, .ref (wAd w 0)), (1, .int a1), (2, .int a2)] []
  refine r_iload_n C 1 rfl (dk_at dk_Face_throats_0 0 rfl) ?_
  refine r_if_eq C 24 rfl (dk_at dk_Face_throats_0 1 rfl) (fun c1 => ?_) (fun c1 => ?_)
  · replace h := h.1 c1
    refine r_iconst C (-1) (dk_at dk_Face_throats_0 12 rfl) ?_
    exact r_iret C h (dk_at dk_Face_throats_0 13 rfl)
  · replace h := h.2 c1
    refine r_aload_n C 0 rfl (dk_at dk_Face_throats_0 2 rfl) ?_
    refine r_getR C fl_Face_10 0 (hL.1 0 _ rfl) rfl (dk_at dk_Face_throats_0 3 rfl) ?_
    refine r_iload_n C 1 rfl (dk_at dk_Face_throats_0 4 rfl) ?_
    refine r_cvI C cl_Face_237 200 (hL.1 200 _ rfl) [.int a1] (m_Real_areActs hL h) (rmK_ok rfl rfl) rfl rfl (Nat.le_of_ble_eq_true rfl) (dk_at dk_Face_throats_0 5 rfl) (fun r2 σ3 h => ?_)
    refine r_if_eq C 24 rfl (dk_at dk_Face_throats_0 6 rfl) (fun c4 => ?_) (fun c4 => ?_)
    · replace h := h.1 c4
      refine r_iconst C (-1) (dk_at dk_Face_throats_0 12 rfl) ?_
      exact r_iret C h (dk_at dk_Face_throats_0 13 rfl)
    · replace h := h.2 c4
      refine r_iload_n C 2 rfl (dk_at dk_Face_throats_0 7 rfl) ?_
      refine r_if_lt C 24 rfl (dk_at dk_Face_throats_0 8 rfl) (fun c5 => ?_) (fun c5 => ?_)
      · replace h := h.1 c5
        refine r_iconst C (-1) (dk_at dk_Face_throats_0 12 rfl) ?_
        exact r_iret C h (dk_at dk_Face_throats_0 13 rfl)
      · replace h := h.2 c5
        refine r_iload_n C 2 rfl (dk_at dk_Face_throats_0 9 rfl) ?_
        refine r_iconst C 1 (dk_at dk_Face_throats_0 10 rfl) ?_
        refine r_icmp_le C 26 rfl (dk_at dk_Face_throats_0 11 rfl) (fun c6 => ?_) (fun c6 => ?_)
        · replace h := h.1 c6
          refine r_aload_n C 0 rfl (dk_at dk_Face_throats_0 14 rfl) ?_
          refine r_getR C fl_Face_64 0 (hL.1 0 _ rfl) rfl (dk_at dk_Face_throats_0 15 rfl) ?_
          refine r_iload_n C 1 rfl (dk_at dk_Face_throats_0 16 rfl) ?_
          refine r_cvI C cl_Face_256 90 (hL.1 90 _ rfl) [.int a1] (m_Shar_fewestReaders hL h) (rmK_ok rfl rfl) rfl rfl (Nat.le_of_ble_eq_true rfl) (dk_at dk_Face_throats_0 17 rfl) (fun r7 σ8 h => ?_)
          refine r_istore_n C [(3, .int r7), (0, .ref (wAd w 0)), (1, .int a1), (2, .int a2)] rfl rfl (dk_at dk_Face_throats_0 18 rfl) ?_
          refine r_iload_n C 0 rfl (dk_at dk_Face_throats_0 19 rfl) ?_
          refine r_iconst C (-1) (dk_at dk_Face_throats_0 20 rfl) ?_
          refine r_icmp_ne C 42 rfl (dk_at dk_Face_throats_0 21 rfl) (fun c9 => ?_) (fun c9 => ?_)
          · replace h := h.1 c9
            refine r_iload_n C 3 rfl (dk_at dk_Face_throats_0 24 rfl) ?_
            refine r_if_ne C 53 rfl (dk_at dk_Face_throats_0 25 rfl) (fun c10 => ?_) (fun c10 => ?_)
            · replace h := h.1 c10
              refine r_iload_n C 0 rfl (dk_at dk_Face_throats_0 29 rfl) ?_
              exact r_iret C h (dk_at dk_Face_throats_0 30 rfl)
            · replace h := h.2 c10
              refine r_iload_n C 0 rfl (dk_at dk_Face_throats_0 26 rfl) ?_
              refine r_csI C cs_Face_259 [.int r7] (m_J6_bitCount_0f7a4 hL h) (rmK_ok rfl rfl) rfl rfl (Nat.le_of_ble_eq_true rfl) (dk_at dk_Face_throats_0 27 rfl) (fun r11 σ12 h => ?_)
              refine r_goto C 54 rfl (dk_at dk_Face_throats_0 28 rfl) ?_
              exact r_iret C h (dk_at dk_Face_throats_0 30 rfl)
          · replace h := h.2 c9
            refine r_iconst C (-1) (dk_at dk_Face_throats_0 22 rfl) ?_
            exact r_iret C h (dk_at dk_Face_throats_0 23 rfl)
        · replace h := h.2 c6
          refine r_iconst C (-1) (dk_at dk_Face_throats_0 12 rfl) ?_
          exact r_iret C h (dk_at dk_Face_throats_0 13 rfl)
  )
set_option maxRecDepth 20000 in
theorem m_Face_days {l : Launch} {w : WO} {T : TXT} {z : EXa} (hL : LyX w T z) {σ : DD} {a1 : Int32} {a2 : Int32} {post : Int32 → DD → Prop} (h : w_Face_days T σ a1 a2 post) : MI l w yX10_days cX10_days 4 .int (rmK 15 344) σ [.ref (wAd w 0), .int a1, .int a2] post :=
  met_head (rt := (some .int)) (by decide) rfl (fun X hX C => by
  subst hX
  unfold w_Face_days at h
  show gW X w (lim0 w) 4 (QI X w post) σ 0 [(0, .ref (wAd w 0)), (1, .int a1), (2, .int a2)] []
  refine r_iload_n C 1 rfl (dk_at dk_Face_days_0 0 rfl) ?_
  refine r_if_eq C 28 rfl (dk_at dk_Face_days_0 1 rfl) (fun c1 => ?_) (fun c1 => ?_)
  · replace h := h.1 c1
    refine r_iconst C (-1) (dk_at dk_Face_days_0 14 rfl) ?_
    exact r_iret C h (dk_at dk_Face_days_0 15 rfl)
  · replace h := h.2 c1
    refine r_aload_n C 0 rfl (dk_at dk_Face_days_0 2 rfl) ?_
    refine r_getR C fl_Face_10 0 (hL.1 0 _ rfl) rfl (dk_at dk_Face_days_0 3 rfl) ?_
    refine r_iload_n C 1 rfl (dk_at dk_Face_days_0 4 rfl) ?_
    refine r_cvI C cl_Face_237 200 (hL.1 200 _ rfl) [.int a1] (m_Real_areActs hL h) (rmK_ok rfl rfl) rfl rfl (Nat.le_of_ble_eq_true rfl) (dk_at dk_Face_days_0 5 rfl) (fun r2 σ3 h => ?_)
    refine r_if_eq C 28 rfl (dk_at dk_Face_days_0 6 rfl) (fun c4 => ?_) (fun c4 => ?_)
    · replace h := h.1 c4
      refine r_iconst C (-1) (dk_at dk_Face_days_0 14 rfl) ?_
      exact r_iret C h (dk_at dk_Face_days_0 15 rfl)
    · replace h := h.2 c4
      refine r_iload_n C 2 rfl (dk_at dk_Face_days_0 7 rfl) ?_
      refine r_iconst C (-1) (dk_at dk_Face_days_0 8 rfl) ?_
      refine r_icmp_lt C 28 rfl (dk_at dk_Face_days_0 9 rfl) (fun c5 => ?_) (fun c5 => ?_)
      · replace h := h.1 c5
        refine r_iconst C (-1) (dk_at dk_Face_days_0 14 rfl) ?_
        exact r_iret C h (dk_at dk_Face_days_0 15 rfl)
      · replace h := h.2 c5
        refine r_iload_n C 2 rfl (dk_at dk_Face_days_0 10 rfl) ?_
        refine r_iload_n C 1 rfl (dk_at dk_Face_days_0 11 rfl) ?_
        refine r_csI C cs_Face_259 [.int a1] (m_J6_bitCount_0f7a4 hL h) (rmK_ok rfl rfl) rfl rfl (Nat.le_of_ble_eq_true rfl) (dk_at dk_Face_days_0 12 rfl) (fun r6 σ7 h => ?_)
        refine r_icmp_lt C 30 rfl (dk_at dk_Face_days_0 13 rfl) (fun c8 => ?_) (fun c8 => ?_)
        · replace h := h.1 c8
          refine r_aload_n C 0 rfl (dk_at dk_Face_days_0 16 rfl) ?_
          refine r_getR C fl_Face_64 0 (hL.1 0 _ rfl) rfl (dk_at dk_Face_days_0 17 rfl) ?_
          refine r_iload_n C 1 rfl (dk_at dk_Face_days_0 18 rfl) ?_
          refine r_cvI C cl_Face_264 90 (hL.1 90 _ rfl) [.int a1] (m_Shar_fewestDays hL h) (rmK_ok rfl rfl) rfl rfl (Nat.le_of_ble_eq_true rfl) (dk_at dk_Face_days_0 19 rfl) (fun r9 σ10 h => ?_)
          refine r_istore_n C [(3, .int r9), (0, .ref (wAd w 0)), (1, .int a1), (2, .int a2)] rfl rfl (dk_at dk_Face_days_0 20 rfl) ?_
          refine r_iload_n C 3 rfl (dk_at dk_Face_days_0 21 rfl) ?_
          refine r_iconst C (-1) (dk_at dk_Face_days_0 22 rfl) ?_
          refine r_icmp_ne C 48 rfl (dk_at dk_Face_days_0 23 rfl) (fun c11 => ?_) (fun c11 => ?_)
          · replace h := h.1 c11
            refine r_aload_n C 1 rfl (dk_at dk_Face_days_0 26 rfl) ?_
            refine r_getR C fl_Face_64 0 (hL.1 0 _ rfl) rfl (dk_at dk_Face_days_0 27 rfl) ?_
            refine r_getR C fl_Face_267 90 (hL.1 90 _ rfl) rfl (dk_at dk_Face_days_0 28 rfl) ?_
            refine r_iload_n C 3 rfl (dk_at dk_Face_days_0 29 rfl) ?_
            obtain ⟨q12, h⟩ := h
            refine r_iald C 94 (hL.1 94 _ rfl) q12 (dk_at dk_Face_days_0 30 rfl) ?_
            exact r_iret C h (dk_at dk_Face_days_0 31 rfl)
          · replace h := h.2 c11
            refine r_iload_n C 0 rfl (dk_at dk_Face_days_0 24 rfl) ?_
            refine r_goto C 57 rfl (dk_at dk_Face_days_0 25 rfl) ?_
            exact r_iret C h (dk_at dk_Face_days_0 31 rfl)
        · replace h := h.2 c8
          refine r_iconst C (-1) (dk_at dk_Face_days_0 14 rfl) ?_
          exact r_iret C h (dk_at dk_Face_days_0 15 rfl)
  )
set_option maxRecDepth 20000 in
theorem m_Face_likely {l : Launch} {w : WO} {T : TXT} {z : EXa} (hL : LyX w T z) {σ : DD} {a1 : Int32} {a2 : Int32} {a3 : Int32} {post : Int64 → DD → Prop} (h : w_Face_likely T σ a1 a2 a3 post) : ML l w yX10_likely cX10_likely 4 (rmK 5 152) σ [.ref (wAd w 0), .int a1, .int a2, .int a3] post :=
  met_head (rt := (some .long)) (by decide) rfl (fun X hX C => by
  subst hX
  unfold w_Face_likely at h
  show gW X w (lim0 w) 4 (QL X w post) σ 0 [(0, .ref (wAd w 0)), (1, .int a1), (2, .int a2), (3, .int a3)] []
  refine r_aload_n C 0 rfl (dk_at dk_Face_likely_0 0 rfl) ?_
  refine r_getR C fl_Face_10 0 (hL.1 0 _ rfl) rfl (dk_at dk_Face_likely_0 1 rfl) ?_
  refine r_iload_n C 1 rfl (dk_at dk_Face_likely_0 2 rfl) ?_
  refine r_cvI C cl_Face_112 200 (hL.1 200 _ rfl) [.int a1] (m_Real_isAct hL h) (rmK_ok rfl rfl) rfl rfl (Nat.le_of_ble_eq_true rfl) (dk_at dk_Face_likely_0 3 rfl) (fun r1 σ2 h => ?_)
  refine r_if_eq C 32 rfl (dk_at dk_Face_likely_0 4 rfl) (fun c3 => ?_) (fun c3 => ?_)
  · replace h := h.1 c3
    refine r_ldc2 C tw_1070 (dk_at dk_Face_likely_0 15 rfl) ?_
    exact r_lret C h (dk_at dk_Face_likely_0 16 rfl)
  · replace h := h.2 c3
    refine r_aload_n C 0 rfl (dk_at dk_Face_likely_0 5 rfl) ?_
    refine r_getR C fl_Face_10 0 (hL.1 0 _ rfl) rfl (dk_at dk_Face_likely_0 6 rfl) ?_
    refine r_iload_n C 2 rfl (dk_at dk_Face_likely_0 7 rfl) ?_
    refine r_cvI C cl_Face_147 200 (hL.1 200 _ rfl) [.int a2] (m_Real_isReader hL h) (rmK_ok rfl rfl) rfl rfl (Nat.le_of_ble_eq_true rfl) (dk_at dk_Face_likely_0 8 rfl) (fun r4 σ5 h => ?_)
    refine r_if_eq C 32 rfl (dk_at dk_Face_likely_0 9 rfl) (fun c6 => ?_) (fun c6 => ?_)
    · replace h := h.1 c6
      refine r_ldc2 C tw_1070 (dk_at dk_Face_likely_0 15 rfl) ?_
      exact r_lret C h (dk_at dk_Face_likely_0 16 rfl)
    · replace h := h.2 c6
      refine r_iload_n C 3 rfl (dk_at dk_Face_likely_0 10 rfl) ?_
      refine r_if_lt C 32 rfl (dk_at dk_Face_likely_0 11 rfl) (fun c7 => ?_) (fun c7 => ?_)
      · replace h := h.1 c7
        refine r_ldc2 C tw_1070 (dk_at dk_Face_likely_0 15 rfl) ?_
        exact r_lret C h (dk_at dk_Face_likely_0 16 rfl)
      · replace h := h.2 c7
        refine r_iload_n C 3 rfl (dk_at dk_Face_likely_0 12 rfl) ?_
        refine r_bipush C 60 (dk_at dk_Face_likely_0 13 rfl) ?_
        refine r_icmp_le C 36 rfl (dk_at dk_Face_likely_0 14 rfl) (fun c8 => ?_) (fun c8 => ?_)
        · replace h := h.1 c8
          refine r_aload_n C 0 rfl (dk_at dk_Face_likely_0 17 rfl) ?_
          refine r_getR C fl_Face_71 0 (hL.1 0 _ rfl) rfl (dk_at dk_Face_likely_0 18 rfl) ?_
          refine r_iload_n C 1 rfl (dk_at dk_Face_likely_0 19 rfl) ?_
          refine r_iload_n C 2 rfl (dk_at dk_Face_likely_0 20 rfl) ?_
          refine r_iload_n C 3 rfl (dk_at dk_Face_likely_0 21 rfl) ?_
          refine r_cvL C cl_Face_272 100 (hL.1 100 _ rfl) [.int a1, .int a2, .int a3] (m_Outl_chances hL h) (rmK_ok rfl rfl) rfl rfl (Nat.le_of_ble_eq_true rfl) (dk_at dk_Face_likely_0 22 rfl) (fun r9 σ10 h => ?_)
          exact r_lret C h (dk_at dk_Face_likely_0 23 rfl)
        · replace h := h.2 c8
          refine r_ldc2 C tw_1070 (dk_at dk_Face_likely_0 15 rfl) ?_
          exact r_lret C h (dk_at dk_Face_likely_0 16 rfl)
  )
set_option maxRecDepth 20000 in
theorem t_Face_fine_j29 {X : CT} {w : WO} (C : CF X w (lim0 w) 5 cX10_fine RX10 (some .int) (.code yX10_fine cX10_fine 5 (some .int)) (rmK 1 22)) {T : TXT} {z : EXa} (hL : LyX w T z) {post : Int32 → DD → Prop} {σ : DD} (h : w_Face_fine_j29 T post σ) : gW X w (lim0 w) 5 (QI X w post) σ 29 [(0, .ref (wAd w 0))] [] := by
  unfold w_Face_fine_j29 at h
  refine r_aload_n C 0 rfl (dk_at dk_Face_fine_0 14 rfl) ?_
  refine r_iconst C (-1) (dk_at dk_Face_fine_0 15 rfl) ?_
  refine r_cvI C cl_Face_90 0 (hL.1 0 _ rfl) [.int (-1)] (m_Face_refused hL h) (rmK_ok rfl rfl) rfl rfl (Nat.le_of_ble_eq_true rfl) (dk_at dk_Face_fine_0 16 rfl) (fun r1 σ2 h => ?_)
  exact r_iret C h (dk_at dk_Face_fine_0 17 rfl)
set_option maxRecDepth 20000 in
theorem m_Face_fine {l : Launch} {w : WO} {T : TXT} {z : EXa} (hL : LyX w T z) {σ : DD} {a1 : Int32} {a2 : Int32} {a3 : Int32} {a4 : Int32} {post : Int32 → DD → Prop} (h : w_Face_fine T σ a1 a2 a3 a4 post) : MI l w yX10_fine cX10_fine 5 .int (rmK 1 22) σ [.ref (wAd w 0), .int a1, .int a2, .int a3, .int a4] post :=
  met_head (rt := (some .int)) (by decide) rfl (fun X hX C => by
  subst hX
  unfold w_Face_fine at h
  show gW X w (lim0 w) 5 (QI X w post) σ 0 [(0, .ref (wAd w 0)), (1, .int a1), (2, .int a2), (3, .int a3), (4, .int a4)] []
  refine r_iconst C 0 (dk_at dk_Face_fine_0 0 rfl) ?_
  refine r_iload_n C 1 rfl (dk_at dk_Face_fine_0 1 rfl) ?_
  refine r_csI C cs_Face_156 [.int 0, .int a1] (m_Real_canBeTerm hL h) (rmK_ok rfl rfl) rfl rfl (Nat.le_of_ble_eq_true rfl) (dk_at dk_Face_fine_0 2 rfl) (fun r3 σ4 h => ?_)
  refine r_if_eq C 29 rfl (dk_at dk_Face_fine_0 3 rfl) (fun c5 => ?_) (fun c5 => ?_)
  · replace h := h.1 c5
    refine r_lv [0] rfl ?_
    exact t_Face_fine_j29 C hL h
  · replace h := h.2 c5
    refine r_iload_n C 2 rfl (dk_at dk_Face_fine_0 4 rfl) ?_
    refine r_if_lt C 29 rfl (dk_at dk_Face_fine_0 5 rfl) (fun c6 => ?_) (fun c6 => ?_)
    · replace h := h.1 c6
      refine r_lv [0] rfl ?_
      exact t_Face_fine_j29 C hL h
    · replace h := h.2 c6
      refine r_iload_n C 2 rfl (dk_at dk_Face_fine_0 6 rfl) ?_
      refine r_bipush C 6 (dk_at dk_Face_fine_0 7 rfl) ?_
      refine r_icmp_ge C 29 rfl (dk_at dk_Face_fine_0 8 rfl) (fun c7 => ?_) (fun c7 => ?_)
      · replace h := h.1 c7
        refine r_lv [0] rfl ?_
        exact t_Face_fine_j29 C hL h
      · replace h := h.2 c7
        refine r_iload C 4 rfl (dk_at dk_Face_fine_0 9 rfl) ?_
        refine r_if_lt C 29 rfl (dk_at dk_Face_fine_0 10 rfl) (fun c8 => ?_) (fun c8 => ?_)
        · replace h := h.1 c8
          refine r_lv [0] rfl ?_
          exact t_Face_fine_j29 C hL h
        · replace h := h.2 c8
          refine r_iload C 4 rfl (dk_at dk_Face_fine_0 11 rfl) ?_
          refine r_iconst C 1 (dk_at dk_Face_fine_0 12 rfl) ?_
          refine r_icmp_le C 35 rfl (dk_at dk_Face_fine_0 13 rfl) (fun c9 => ?_) (fun c9 => ?_)
          · replace h := h.1 c9
            refine r_aload_n C 0 rfl (dk_at dk_Face_fine_0 18 rfl) ?_
            refine r_getR C fl_Face_10 0 (hL.1 0 _ rfl) rfl (dk_at dk_Face_fine_0 19 rfl) ?_
            refine r_iload_n C 3 rfl (dk_at dk_Face_fine_0 20 rfl) ?_
            refine r_cvI C cl_Face_112 200 (hL.1 200 _ rfl) [.int a3] (m_Real_isAct hL h) (rmK_ok rfl rfl) rfl rfl (Nat.le_of_ble_eq_true rfl) (dk_at dk_Face_fine_0 21 rfl) (fun r10 σ11 h => ?_)
            refine r_if_ne C 53 rfl (dk_at dk_Face_fine_0 22 rfl) (fun c12 => ?_) (fun c12 => ?_)
            · replace h := h.1 c12
              refine r_aload_n C 0 rfl (dk_at dk_Face_fine_0 27 rfl) ?_
              refine r_getR C fl_Face_10 0 (hL.1 0 _ rfl) rfl (dk_at dk_Face_fine_0 28 rfl) ?_
              refine r_getI C fl_Face_276 200 (hL.1 200 _ rfl) rfl (dk_at dk_Face_fine_0 29 rfl) ?_
              refine r_bipush C 8 (dk_at dk_Face_fine_0 30 rfl) ?_
              refine r_icmp_lt C 72 rfl (dk_at dk_Face_fine_0 31 rfl) (fun c13 => ?_) (fun c13 => ?_)
              · replace h := h.1 c13
                refine r_aload_n C 0 rfl (dk_at dk_Face_fine_0 36 rfl) ?_
                refine r_getR C fl_Face_10 0 (hL.1 0 _ rfl) rfl (dk_at dk_Face_fine_0 37 rfl) ?_
                refine r_getR C fl_Face_279 200 (hL.1 200 _ rfl) rfl (dk_at dk_Face_fine_0 38 rfl) ?_
                refine r_aload_n C 0 rfl (dk_at dk_Face_fine_0 39 rfl) ?_
                refine r_getR C fl_Face_10 0 (hL.1 0 _ rfl) rfl (dk_at dk_Face_fine_1 0 rfl) ?_
                refine r_getI C fl_Face_276 200 (hL.1 200 _ rfl) rfl (dk_at dk_Face_fine_1 1 rfl) ?_
                refine r_iload_n C 1 rfl (dk_at dk_Face_fine_1 2 rfl) ?_
                obtain ⟨q16, h⟩ := h
                refine r_iast C 214 (hL.1 214 _ rfl) q16 (dk_at dk_Face_fine_1 3 rfl) (r_sg (fun σ14 e15 => ?_))
                replace h := h σ14 e15
                refine r_aload_n C 0 rfl (dk_at dk_Face_fine_1 4 rfl) ?_
                refine r_getR C fl_Face_10 0 (hL.1 0 _ rfl) rfl (dk_at dk_Face_fine_1 5 rfl) ?_
                refine r_getR C fl_Face_282 200 (hL.1 200 _ rfl) rfl (dk_at dk_Face_fine_1 6 rfl) ?_
                refine r_aload_n C 0 rfl (dk_at dk_Face_fine_1 7 rfl) ?_
                refine r_getR C fl_Face_10 0 (hL.1 0 _ rfl) rfl (dk_at dk_Face_fine_1 8 rfl) ?_
                refine r_getI C fl_Face_276 200 (hL.1 200 _ rfl) rfl (dk_at dk_Face_fine_1 9 rfl) ?_
                refine r_iload_n C 2 rfl (dk_at dk_Face_fine_1 10 rfl) ?_
                obtain ⟨q19, h⟩ := h
                refine r_iast C 215 (hL.1 215 _ rfl) q19 (dk_at dk_Face_fine_1 11 rfl) (r_sg (fun σ17 e18 => ?_))
                replace h := h σ17 e18
                refine r_aload_n C 0 rfl (dk_at dk_Face_fine_1 12 rfl) ?_
                refine r_getR C fl_Face_10 0 (hL.1 0 _ rfl) rfl (dk_at dk_Face_fine_1 13 rfl) ?_
                refine r_getR C fl_Face_285 200 (hL.1 200 _ rfl) rfl (dk_at dk_Face_fine_1 14 rfl) ?_
                refine r_aload_n C 0 rfl (dk_at dk_Face_fine_1 15 rfl) ?_
                refine r_getR C fl_Face_10 0 (hL.1 0 _ rfl) rfl (dk_at dk_Face_fine_1 16 rfl) ?_
                refine r_getI C fl_Face_276 200 (hL.1 200 _ rfl) rfl (dk_at dk_Face_fine_1 17 rfl) ?_
                refine r_iload_n C 3 rfl (dk_at dk_Face_fine_1 18 rfl) ?_
                obtain ⟨q22, h⟩ := h
                refine r_iast C 216 (hL.1 216 _ rfl) q22 (dk_at dk_Face_fine_1 19 rfl) (r_sg (fun σ20 e21 => ?_))
                replace h := h σ20 e21
                refine r_aload_n C 0 rfl (dk_at dk_Face_fine_1 20 rfl) ?_
                refine r_getR C fl_Face_10 0 (hL.1 0 _ rfl) rfl (dk_at dk_Face_fine_1 21 rfl) ?_
                refine r_getR C fl_Face_288 200 (hL.1 200 _ rfl) rfl (dk_at dk_Face_fine_1 22 rfl) ?_
                refine r_aload_n C 0 rfl (dk_at dk_Face_fine_1 23 rfl) ?_
                refine r_getR C fl_Face_10 0 (hL.1 0 _ rfl) rfl (dk_at dk_Face_fine_1 24 rfl) ?_
                refine r_getI C fl_Face_276 200 (hL.1 200 _ rfl) rfl (dk_at dk_Face_fine_1 25 rfl) ?_
                refine r_iload C 4 rfl (dk_at dk_Face_fine_1 26 rfl) ?_
                obtain ⟨q25, h⟩ := h
                refine r_iast C 217 (hL.1 217 _ rfl) q25 (dk_at dk_Face_fine_1 27 rfl) (r_sg (fun σ23 e24 => ?_))
                replace h := h σ23 e24
                refine r_aload_n C 0 rfl (dk_at dk_Face_fine_1 28 rfl) ?_
                refine r_getR C fl_Face_10 0 (hL.1 0 _ rfl) rfl (dk_at dk_Face_fine_1 29 rfl) ?_
                refine r_dup C rfl (dk_at dk_Face_fine_1 30 rfl) ?_
                refine r_getI C fl_Face_276 200 (hL.1 200 _ rfl) rfl (dk_at dk_Face_fine_1 31 rfl) ?_
                refine r_iconst C 1 (dk_at dk_Face_fine_1 32 rfl) ?_
                refine r_iadd C (dk_at dk_Face_fine_1 33 rfl) ?_
                refine r_putI C fl_Face_276 200 (hL.1 200 _ rfl) rfl (dk_at dk_Face_fine_1 34 rfl) (r_sg (fun σ26 e27 => ?_))
                replace h := h σ26 e27
                refine r_aload_n C 0 rfl (dk_at dk_Face_fine_1 35 rfl) ?_
                refine r_aload_n C 0 rfl (dk_at dk_Face_fine_1 36 rfl) ?_
                refine r_getR C fl_Face_10 0 (hL.1 0 _ rfl) rfl (dk_at dk_Face_fine_1 37 rfl) ?_
                refine r_getI C fl_Face_276 200 (hL.1 200 _ rfl) rfl (dk_at dk_Face_fine_1 38 rfl) ?_
                refine r_cvI C cl_Face_102 0 (hL.1 0 _ rfl) [.int (gI σ26 200 12)] (m_Face_granted hL h) (rmK_ok rfl rfl) rfl rfl (Nat.le_of_ble_eq_true rfl) (dk_at dk_Face_fine_1 39 rfl) (fun r28 σ29 h => ?_)
                exact r_iret C h (dk_at dk_Face_fine_2 0 rfl)
              · replace h := h.2 c13
                refine r_aload_n C 0 rfl (dk_at dk_Face_fine_0 32 rfl) ?_
                refine r_bipush C (-5) (dk_at dk_Face_fine_0 33 rfl) ?_
                refine r_cvI C cl_Face_90 0 (hL.1 0 _ rfl) [.int (-5)] (m_Face_refused hL h) (rmK_ok rfl rfl) rfl rfl (Nat.le_of_ble_eq_true rfl) (dk_at dk_Face_fine_0 34 rfl) (fun r30 σ31 h => ?_)
                exact r_iret C h (dk_at dk_Face_fine_0 35 rfl)
            · replace h := h.2 c12
              refine r_aload_n C 0 rfl (dk_at dk_Face_fine_0 23 rfl) ?_
              refine r_bipush C (-2) (dk_at dk_Face_fine_0 24 rfl) ?_
              refine r_cvI C cl_Face_90 0 (hL.1 0 _ rfl) [.int (-2)] (m_Face_refused hL h) (rmK_ok rfl rfl) rfl rfl (Nat.le_of_ble_eq_true rfl) (dk_at dk_Face_fine_0 25 rfl) (fun r32 σ33 h => ?_)
              exact r_iret C h (dk_at dk_Face_fine_0 26 rfl)
          · replace h := h.2 c9
            refine r_lv [0] rfl ?_
            exact t_Face_fine_j29 C hL h
  )
set_option maxRecDepth 20000 in
theorem m_Face_forgive {l : Launch} {w : WO} {T : TXT} {z : EXa} (hL : LyX w T z) {σ : DD} {post : Int32 → DD → Prop} (h : w_Face_forgive T σ post) : MI l w yX10_forgive cX10_forgive 2 .int (rmK 0 0) σ [.ref (wAd w 0)] post :=
  met_head (rt := (some .int)) (by decide) rfl (fun X hX C => by
  subst hX
  unfold w_Face_forgive at h
  show gW X w (lim0 w) 2 (QI X w post) σ 0 [(0, .ref (wAd w 0))] []
  refine r_aload_n C 0 rfl (dk_at dk_Face_forgive_0 0 rfl) ?_
  refine r_getR C fl_Face_10 0 (hL.1 0 _ rfl) rfl (dk_at dk_Face_forgive_0 1 rfl) ?_
  refine r_getI C fl_Face_276 200 (hL.1 200 _ rfl) rfl (dk_at dk_Face_forgive_0 2 rfl) ?_
  refine r_topi (fun v1 e2 => ?_)
  replace h := h v1 e2
  refine r_istore_n C [(1, .int v1), (0, .ref (wAd w 0))] rfl rfl (dk_at dk_Face_forgive_0 3 rfl) ?_
  refine r_aload_n C 1 rfl (dk_at dk_Face_forgive_0 4 rfl) ?_
  refine r_getR C fl_Face_10 0 (hL.1 0 _ rfl) rfl (dk_at dk_Face_forgive_0 5 rfl) ?_
  refine r_iconst C 0 (dk_at dk_Face_forgive_0 6 rfl) ?_
  refine r_putI C fl_Face_276 200 (hL.1 200 _ rfl) rfl (dk_at dk_Face_forgive_0 7 rfl) (r_sg (fun σ3 e4 => ?_))
  replace h := h σ3 e4
  refine r_iload_n C 0 rfl (dk_at dk_Face_forgive_0 8 rfl) ?_
  exact r_iret C h (dk_at dk_Face_forgive_0 9 rfl)
  )
set_option maxRecDepth 20000 in
theorem m_Face_judge {l : Launch} {w : WO} {T : TXT} {z : EXa} (hL : LyX w T z) {σ : DD} {post : Int32 → DD → Prop} (h : w_Face_judge T σ post) : MI l w yX10_judge cX10_judge 1 .int (rmK 6 165) σ [.ref (wAd w 0)] post :=
  met_head (rt := (some .int)) (by decide) rfl (fun X hX C => by
  subst hX
  unfold w_Face_judge at h
  show gW X w (lim0 w) 1 (QI X w post) σ 0 [(0, .ref (wAd w 0))] []
  refine r_aload_n C 0 rfl (dk_at dk_Face_judge_0 0 rfl) ?_
  refine r_getR C fl_Face_71 0 (hL.1 0 _ rfl) rfl (dk_at dk_Face_judge_0 1 rfl) ?_
  refine r_cvI C cl_Face_291 100 (hL.1 100 _ rfl) [] (m_Outl_areFinesSo hL h) (rmK_ok rfl rfl) rfl rfl (Nat.le_of_ble_eq_true rfl) (dk_at dk_Face_judge_0 2 rfl) (fun r1 σ2 h => ?_)
  refine r_if_eq C 14 rfl (dk_at dk_Face_judge_0 3 rfl) (fun c3 => ?_) (fun c3 => ?_)
  · replace h := h.1 c3
    refine r_iconst C 0 (dk_at dk_Face_judge_0 6 rfl) ?_
    exact r_iret C h (dk_at dk_Face_judge_0 7 rfl)
  · replace h := h.2 c3
    refine r_iconst C 1 (dk_at dk_Face_judge_0 4 rfl) ?_
    refine r_goto C 15 rfl (dk_at dk_Face_judge_0 5 rfl) ?_
    exact r_iret C h (dk_at dk_Face_judge_0 7 rfl)
  )
set_option maxRecDepth 20000 in
theorem m_Face_unwritten {l : Launch} {w : WO} {T : TXT} {z : EXa} (hL : LyX w T z) {σ : DD} {a1 : Int32} {post : Int32 → DD → Prop} (h : w_Face_unwritten T σ a1 post) : MI l w yX10_unwritten cX10_unwritten 2 .int (rmK 6 170) σ [.ref (wAd w 0), .int a1] post :=
  met_head (rt := (some .int)) (by decide) rfl (fun X hX C => by
  subst hX
  unfold w_Face_unwritten at h
  show gW X w (lim0 w) 2 (QI X w post) σ 0 [(0, .ref (wAd w 0)), (1, .int a1)] []
  refine r_iload_n C 1 rfl (dk_at dk_Face_unwritten_0 0 rfl) ?_
  refine r_iconst C (-1) (dk_at dk_Face_unwritten_0 1 rfl) ?_
  refine r_icmp_ge C 9 rfl (dk_at dk_Face_unwritten_0 2 rfl) (fun c1 => ?_) (fun c1 => ?_)
  · replace h := h.1 c1
    refine r_aload_n C 0 rfl (dk_at dk_Face_unwritten_0 5 rfl) ?_
    refine r_getR C fl_Face_71 0 (hL.1 0 _ rfl) rfl (dk_at dk_Face_unwritten_0 6 rfl) ?_
    refine r_iload_n C 1 rfl (dk_at dk_Face_unwritten_0 7 rfl) ?_
    refine r_cvI C cl_Face_295 100 (hL.1 100 _ rfl) [.int a1] (m_Outl_unwrittenReading hL h) (rmK_ok rfl rfl) rfl rfl (Nat.le_of_ble_eq_true rfl) (dk_at dk_Face_unwritten_0 8 rfl) (fun r2 σ3 h => ?_)
    exact r_iret C h (dk_at dk_Face_unwritten_0 9 rfl)
  · replace h := h.2 c1
    refine r_iconst C (-1) (dk_at dk_Face_unwritten_0 3 rfl) ?_
    refine r_goto C 17 rfl (dk_at dk_Face_unwritten_0 4 rfl) ?_
    exact r_iret C h (dk_at dk_Face_unwritten_0 9 rfl)
  )
set_option maxRecDepth 20000 in
theorem t_Face_years_j22 {X : CT} {w : WO} (C : CF X w (lim0 w) 3 cX10_years RX10 (some .int) (.code yX10_years cX10_years 3 (some .int)) (rmK 6 176)) {T : TXT} {z : EXa} (hL : LyX w T z) {post : Int32 → DD → Prop} {σ : DD} (h : w_Face_years_j22 T post σ) : gW X w (lim0 w) 3 (QI X w post) σ 22 [(0, .ref (wAd w 0))] [] := by
  unfold w_Face_years_j22 at h
  refine r_aload_n C 0 rfl (dk_at dk_Face_years_0 11 rfl) ?_
  refine r_iconst C (-1) (dk_at dk_Face_years_0 12 rfl) ?_
  refine r_cvI C cl_Face_90 0 (hL.1 0 _ rfl) [.int (-1)] (m_Face_refused hL h) (rmK_ok rfl rfl) rfl rfl (Nat.le_of_ble_eq_true rfl) (dk_at dk_Face_years_0 13 rfl) (fun r1 σ2 h => ?_)
  exact r_iret C h (dk_at dk_Face_years_0 14 rfl)
set_option maxRecDepth 20000 in
theorem t_Face_years_j48 {X : CT} {w : WO} (C : CF X w (lim0 w) 3 cX10_years RX10 (some .int) (.code yX10_years cX10_years 3 (some .int)) (rmK 6 176)) {T : TXT} {z : EXa} (hL : LyX w T z) {post : Int32 → DD → Prop} {σ : DD} (h : w_Face_years_j48 T post σ) : gW X w (lim0 w) 3 (QI X w post) σ 48 [(0, .ref (wAd w 0))] [] := by
  unfold w_Face_years_j48 at h
  refine r_aload_n C 0 rfl (dk_at dk_Face_years_0 23 rfl) ?_
  refine r_bipush C (-3) (dk_at dk_Face_years_0 24 rfl) ?_
  refine r_cvI C cl_Face_90 0 (hL.1 0 _ rfl) [.int (-3)] (m_Face_refused hL h) (rmK_ok rfl rfl) rfl rfl (Nat.le_of_ble_eq_true rfl) (dk_at dk_Face_years_0 25 rfl) (fun r3 σ4 h => ?_)
  exact r_iret C h (dk_at dk_Face_years_0 26 rfl)
set_option maxRecDepth 20000 in
theorem m_Face_years {l : Launch} {w : WO} {T : TXT} {z : EXa} (hL : LyX w T z) {σ : DD} {a1 : Int32} {a2 : Int32} {post : Int32 → DD → Prop} (h : w_Face_years T σ a1 a2 post) : MI l w yX10_years cX10_years 3 .int (rmK 6 176) σ [.ref (wAd w 0), .int a1, .int a2] post :=
  met_head (rt := (some .int)) (by decide) rfl (fun X hX C => by
  subst hX
  unfold w_Face_years at h
  show gW X w (lim0 w) 3 (QI X w post) σ 0 [(0, .ref (wAd w 0)), (1, .int a1), (2, .int a2)] []
  refine r_iload_n C 1 rfl (dk_at dk_Face_years_0 0 rfl) ?_
  refine r_if_lt C 22 rfl (dk_at dk_Face_years_0 1 rfl) (fun c5 => ?_) (fun c5 => ?_)
  · replace h := h.1 c5
    refine r_lv [0] rfl ?_
    exact t_Face_years_j22 C hL h
  · replace h := h.2 c5
    refine r_iload_n C 1 rfl (dk_at dk_Face_years_0 2 rfl) ?_
    refine r_ldc_w C tw_1133 (dk_at dk_Face_years_0 3 rfl) ?_
    refine r_icmp_gt C 22 rfl (dk_at dk_Face_years_0 4 rfl) (fun c6 => ?_) (fun c6 => ?_)
    · replace h := h.1 c6
      refine r_lv [0] rfl ?_
      exact t_Face_years_j22 C hL h
    · replace h := h.2 c6
      refine r_iload_n C 2 rfl (dk_at dk_Face_years_0 5 rfl) ?_
      refine r_iconst C 1 (dk_at dk_Face_years_0 6 rfl) ?_
      refine r_icmp_lt C 22 rfl (dk_at dk_Face_years_0 7 rfl) (fun c7 => ?_) (fun c7 => ?_)
      · replace h := h.1 c7
        refine r_lv [0] rfl ?_
        exact t_Face_years_j22 C hL h
      · replace h := h.2 c7
        refine r_iload_n C 2 rfl (dk_at dk_Face_years_0 8 rfl) ?_
        refine r_bipush C 60 (dk_at dk_Face_years_0 9 rfl) ?_
        refine r_icmp_le C 28 rfl (dk_at dk_Face_years_0 10 rfl) (fun c8 => ?_) (fun c8 => ?_)
        · replace h := h.1 c8
          refine r_aload_n C 0 rfl (dk_at dk_Face_years_0 15 rfl) ?_
          refine r_getR C fl_Face_10 0 (hL.1 0 _ rfl) rfl (dk_at dk_Face_years_0 16 rfl) ?_
          refine r_getI C fl_Face_94 200 (hL.1 200 _ rfl) rfl (dk_at dk_Face_years_0 17 rfl) ?_
          refine r_if_eq C 48 rfl (dk_at dk_Face_years_0 18 rfl) (fun c9 => ?_) (fun c9 => ?_)
          · replace h := h.1 c9
            refine r_lv [0] rfl ?_
            exact t_Face_years_j48 C hL h
          · replace h := h.2 c9
            refine r_aload_n C 0 rfl (dk_at dk_Face_years_0 19 rfl) ?_
            refine r_getR C fl_Face_10 0 (hL.1 0 _ rfl) rfl (dk_at dk_Face_years_0 20 rfl) ?_
            refine r_getI C fl_Face_138 200 (hL.1 200 _ rfl) rfl (dk_at dk_Face_years_0 21 rfl) ?_
            refine r_if_ne C 55 rfl (dk_at dk_Face_years_0 22 rfl) (fun c10 => ?_) (fun c10 => ?_)
            · replace h := h.1 c10
              refine r_aload_n C 0 rfl (dk_at dk_Face_years_0 27 rfl) ?_
              refine r_aload_n C 0 rfl (dk_at dk_Face_years_0 28 rfl) ?_
              refine r_getR C fl_Face_78 0 (hL.1 0 _ rfl) rfl (dk_at dk_Face_years_0 29 rfl) ?_
              refine r_iload_n C 1 rfl (dk_at dk_Face_years_0 30 rfl) ?_
              refine r_iload_n C 2 rfl (dk_at dk_Face_years_0 31 rfl) ?_
              refine r_cvI C cl_Face_299 110 (hL.1 110 _ rfl) [.int a1, .int a2] (m_Year_live hL h) (rmK_ok rfl rfl) rfl rfl (Nat.le_of_ble_eq_true rfl) (dk_at dk_Face_years_0 32 rfl) (fun r11 σ12 h => ?_)
              refine r_cvI C cl_Face_102 0 (hL.1 0 _ rfl) [.int r11] (m_Face_granted hL h) (rmK_ok rfl rfl) rfl rfl (Nat.le_of_ble_eq_true rfl) (dk_at dk_Face_years_0 33 rfl) (fun r13 σ14 h => ?_)
              exact r_iret C h (dk_at dk_Face_years_0 34 rfl)
            · replace h := h.2 c10
              refine r_lv [0] rfl ?_
              exact t_Face_years_j48 C hL h
        · replace h := h.2 c8
          refine r_lv [0] rfl ?_
          exact t_Face_years_j22 C hL h
  )
set_option maxRecDepth 20000 in
theorem m_Face_drawn {l : Launch} {w : WO} {T : TXT} {z : EXa} (hL : LyX w T z) {σ : DD} {a1 : Int32} {a2 : Int32} {post : Int32 → DD → Prop} (h : w_Face_drawn T σ a1 a2 post) : MI l w yX10_drawn cX10_drawn 3 .int (rmK 0 0) σ [.ref (wAd w 0), .int a1, .int a2] post :=
  met_head (rt := (some .int)) (by decide) rfl (fun X hX C => by
  subst hX
  unfold w_Face_drawn at h
  show gW X w (lim0 w) 3 (QI X w post) σ 0 [(0, .ref (wAd w 0)), (1, .int a1), (2, .int a2)] []
  refine r_iload_n C 1 rfl (dk_at dk_Face_drawn_0 0 rfl) ?_
  refine r_if_lt C 24 rfl (dk_at dk_Face_drawn_0 1 rfl) (fun c1 => ?_) (fun c1 => ?_)
  · replace h := h.1 c1
    refine r_iconst C (-1) (dk_at dk_Face_drawn_0 12 rfl) ?_
    exact r_iret C h (dk_at dk_Face_drawn_0 13 rfl)
  · replace h := h.2 c1
    refine r_iload_n C 1 rfl (dk_at dk_Face_drawn_0 2 rfl) ?_
    refine r_aload_n C 0 rfl (dk_at dk_Face_drawn_0 3 rfl) ?_
    refine r_getR C fl_Face_78 0 (hL.1 0 _ rfl) rfl (dk_at dk_Face_drawn_0 4 rfl) ?_
    refine r_getI C fl_Face_302 110 (hL.1 110 _ rfl) rfl (dk_at dk_Face_drawn_0 5 rfl) ?_
    refine r_icmp_ge C 24 rfl (dk_at dk_Face_drawn_0 6 rfl) (fun c2 => ?_) (fun c2 => ?_)
    · replace h := h.1 c2
      refine r_iconst C (-1) (dk_at dk_Face_drawn_0 12 rfl) ?_
      exact r_iret C h (dk_at dk_Face_drawn_0 13 rfl)
    · replace h := h.2 c2
      refine r_iload_n C 2 rfl (dk_at dk_Face_drawn_0 7 rfl) ?_
      refine r_if_lt C 24 rfl (dk_at dk_Face_drawn_0 8 rfl) (fun c3 => ?_) (fun c3 => ?_)
      · replace h := h.1 c3
        refine r_iconst C (-1) (dk_at dk_Face_drawn_0 12 rfl) ?_
        exact r_iret C h (dk_at dk_Face_drawn_0 13 rfl)
      · replace h := h.2 c3
        refine r_iload_n C 2 rfl (dk_at dk_Face_drawn_0 9 rfl) ?_
        refine r_iconst C 1 (dk_at dk_Face_drawn_0 10 rfl) ?_
        refine r_icmp_le C 26 rfl (dk_at dk_Face_drawn_0 11 rfl) (fun c4 => ?_) (fun c4 => ?_)
        · replace h := h.1 c4
          refine r_iload_n C 2 rfl (dk_at dk_Face_drawn_0 14 rfl) ?_
          refine r_if_ne C 42 rfl (dk_at dk_Face_drawn_0 15 rfl) (fun c5 => ?_) (fun c5 => ?_)
          · replace h := h.1 c5
            refine r_aload_n C 0 rfl (dk_at dk_Face_drawn_0 22 rfl) ?_
            refine r_getR C fl_Face_78 0 (hL.1 0 _ rfl) rfl (dk_at dk_Face_drawn_0 23 rfl) ?_
            refine r_getR C fl_Face_306 110 (hL.1 110 _ rfl) rfl (dk_at dk_Face_drawn_0 24 rfl) ?_
            refine r_iload_n C 1 rfl (dk_at dk_Face_drawn_0 25 rfl) ?_
            obtain ⟨q6, h⟩ := h
            refine r_iald C 115 (hL.1 115 _ rfl) q6 (dk_at dk_Face_drawn_0 26 rfl) ?_
            exact r_iret C h (dk_at dk_Face_drawn_0 27 rfl)
          · replace h := h.2 c5
            refine r_aload_n C 0 rfl (dk_at dk_Face_drawn_0 16 rfl) ?_
            refine r_getR C fl_Face_78 0 (hL.1 0 _ rfl) rfl (dk_at dk_Face_drawn_0 17 rfl) ?_
            refine r_getR C fl_Face_303 110 (hL.1 110 _ rfl) rfl (dk_at dk_Face_drawn_0 18 rfl) ?_
            refine r_iload_n C 1 rfl (dk_at dk_Face_drawn_0 19 rfl) ?_
            obtain ⟨q7, h⟩ := h
            refine r_iald C 114 (hL.1 114 _ rfl) q7 (dk_at dk_Face_drawn_0 20 rfl) ?_
            refine r_goto C 51 rfl (dk_at dk_Face_drawn_0 21 rfl) ?_
            exact r_iret C h (dk_at dk_Face_drawn_0 27 rfl)
        · replace h := h.2 c4
          refine r_iconst C (-1) (dk_at dk_Face_drawn_0 12 rfl) ?_
          exact r_iret C h (dk_at dk_Face_drawn_0 13 rfl)
  )
set_option maxRecDepth 20000 in
theorem t_Face_back_j9 {X : CT} {w : WO} (C : CF X w (lim0 w) 3 cX10_back RX10 (some .int) (.code yX10_back cX10_back 3 (some .int)) (rmK 2 82)) {T : TXT} {z : EXa} (hL : LyX w T z) {IM : Nat → Prop} (hI : ∀ b, IM b → LyR w b) (hWF : wFl w) {post : Int32 → DD → Prop} {σ : DD} (h : w_Face_back_j9 T IM post σ) : gW X w (lim0 w) 3 (QI X w post) σ 9 [(0, .ref (wAd w 0))] [] := by
  unfold w_Face_back_j9 at h
  refine r_aload_n C 0 rfl (dk_at dk_Face_back_0 5 rfl) ?_
  refine r_iconst C (-1) (dk_at dk_Face_back_0 6 rfl) ?_
  refine r_cvI C cl_Face_90 0 (hL.1 0 _ rfl) [.int (-1)] (m_Face_refused hL h) (rmK_ok rfl rfl) rfl rfl (Nat.le_of_ble_eq_true rfl) (dk_at dk_Face_back_0 7 rfl) (fun r1 σ2 h => ?_)
  exact r_iret C h (dk_at dk_Face_back_0 8 rfl)
set_option maxRecDepth 20000 in
theorem m_Face_back {l : Launch} {w : WO} {T : TXT} {z : EXa} (hL : LyX w T z) {IM : Nat → Prop} (hI : ∀ b, IM b → LyR w b) (hWF : wFl w) {σ : DD} {a1 : Int32} {post : Int32 → DD → Prop} (h : w_Face_back T IM σ a1 post) : MI l w yX10_back cX10_back 3 .int (rmK 2 82) σ [.ref (wAd w 0), .int a1] post :=
  met_head (rt := (some .int)) (by decide) rfl (fun X hX C => by
  subst hX
  unfold w_Face_back at h
  show gW X w (lim0 w) 3 (QI X w post) σ 0 [(0, .ref (wAd w 0)), (1, .int a1)] []
  refine r_iload_n C 1 rfl (dk_at dk_Face_back_0 0 rfl) ?_
  refine r_if_lt C 9 rfl (dk_at dk_Face_back_0 1 rfl) (fun c3 => ?_) (fun c3 => ?_)
  · replace h := h.1 c3
    refine r_lv [0] rfl ?_
    exact t_Face_back_j9 C hL hI hWF h
  · replace h := h.2 c3
    refine r_iload_n C 1 rfl (dk_at dk_Face_back_0 2 rfl) ?_
    refine r_iconst C 2 (dk_at dk_Face_back_0 3 rfl) ?_
    refine r_icmp_lt C 15 rfl (dk_at dk_Face_back_0 4 rfl) (fun c4 => ?_) (fun c4 => ?_)
    · replace h := h.1 c4
      refine r_aload_n C 0 rfl (dk_at dk_Face_back_0 9 rfl) ?_
      refine r_getR C fl_Face_16 0 (hL.1 0 _ rfl) rfl (dk_at dk_Face_back_0 10 rfl) ?_
      refine r_iload_n C 1 rfl (dk_at dk_Face_back_0 11 rfl) ?_
      obtain ⟨q5, h⟩ := h
      refine r_aald C 2 (hL.1 2 _ rfl) (by decide) q5 (dk_at dk_Face_back_0 12 rfl) ?_
      refine r_topo (fun v6 e7 => ?_)
      replace h := h v6 e7
      refine r_astore_nO C [(2, oV w v6), (0, .ref (wAd w 0)), (1, .int a1)] rfl rfl (dk_at dk_Face_back_0 13 rfl) ?_
      rcases v6 with _ | t8
      · replace h := h.1 rfl
        refine r_aload_nN C 0 rfl (dk_at dk_Face_back_0 14 rfl) ?_
        refine r_ifnonnullN C (dk_at dk_Face_back_0 15 rfl) ?_
        refine r_aload_n C 1 rfl (dk_at dk_Face_back_0 16 rfl) ?_
        refine r_bipush C (-2) (dk_at dk_Face_back_0 17 rfl) ?_
        refine r_cvI C cl_Face_90 0 (hL.1 0 _ rfl) [.int (-2)] (m_Face_refused hL h) (rmK_ok rfl rfl) rfl rfl (Nat.le_of_ble_eq_true rfl) (dk_at dk_Face_back_0 18 rfl) (fun r9 σ10 h => ?_)
        exact r_iret C h (dk_at dk_Face_back_0 19 rfl)
      · replace h := h.2 t8 rfl
        refine r_aload_n C 0 rfl (dk_at dk_Face_back_0 14 rfl) ?_
        refine r_ifnonnull C 33 rfl (dk_at dk_Face_back_0 15 rfl) ?_
        refine r_aload_n C 1 rfl (dk_at dk_Face_back_0 20 rfl) ?_
        refine r_getR C fl_Face_10 0 (hL.1 0 _ rfl) rfl (dk_at dk_Face_back_0 21 rfl) ?_
        refine r_aload_n C 0 rfl (dk_at dk_Face_back_0 22 rfl) ?_
        obtain ⟨q11, h⟩ := h
        refine r_cvV C cl_Face_309 200 (hL.1 200 _ rfl) [.ref (wAd w t8)] (m_Real_become hL (lyR200 hL) (hI _ q11) hWF h) (rmK_ok rfl rfl) rfl rfl (Nat.le_of_ble_eq_true rfl) (dk_at dk_Face_back_0 23 rfl) (fun σ13 h => ?_)
        refine r_aload_n C 1 rfl (dk_at dk_Face_back_0 24 rfl) ?_
        refine r_getR C fl_Face_41 0 (hL.1 0 _ rfl) rfl (dk_at dk_Face_back_0 25 rfl) ?_
        refine r_cvV C cl_Face_123 50 (hL.1 50 _ rfl) [] (m_Court_forget hL h) (rmK_ok rfl rfl) rfl rfl (Nat.le_of_ble_eq_true rfl) (dk_at dk_Face_back_0 26 rfl) (fun σ15 h => ?_)
        refine r_aload_n C 1 rfl (dk_at dk_Face_back_0 27 rfl) ?_
        refine r_iconst C 0 (dk_at dk_Face_back_0 28 rfl) ?_
        refine r_cvI C cl_Face_102 0 (hL.1 0 _ rfl) [.int 0] (m_Face_granted hL h) (rmK_ok rfl rfl) rfl rfl (Nat.le_of_ble_eq_true rfl) (dk_at dk_Face_back_0 29 rfl) (fun r16 σ17 h => ?_)
        exact r_iret C h (dk_at dk_Face_back_0 30 rfl)
    · replace h := h.2 c4
      refine r_lv [0] rfl ?_
      exact t_Face_back_j9 C hL hI hWF h
  )
set_option maxRecDepth 20000 in
theorem t_Face_count_j142 {X : CT} {w : WO} (C : CF X w (lim0 w) 2 cX10_count RX10 (some .int) (.code yX10_count cX10_count 2 (some .int)) (rmK 0 0)) {T : TXT} {z : EXa} (hL : LyX w T z) {post : Int32 → DD → Prop} {a1 : Int32} {σ : DD} (h : w_Face_count_j142 T post σ a1) : gW X w (lim0 w) 2 (QI X w post) σ 142 [(0, .ref (wAd w 0)), (1, .int a1)] [] := by
  unfold w_Face_count_j142 at h
  refine r_iload_n C 1 rfl (dk_at dk_Face_count_1 3 rfl) ?_
  refine r_bipush C 12 (dk_at dk_Face_count_1 4 rfl) ?_
  refine r_icmp_lt C 169 rfl (dk_at dk_Face_count_1 5 rfl) (fun c1 => ?_) (fun c1 => ?_)
  · replace h := h.1 c1
    refine r_iconst C (-1) (dk_at dk_Face_count_1 17 rfl) ?_
    exact r_iret C h (dk_at dk_Face_count_1 18 rfl)
  · replace h := h.2 c1
    refine r_iload_n C 1 rfl (dk_at dk_Face_count_1 6 rfl) ?_
    refine r_bipush C 15 (dk_at dk_Face_count_1 7 rfl) ?_
    refine r_icmp_gt C 169 rfl (dk_at dk_Face_count_1 8 rfl) (fun c2 => ?_) (fun c2 => ?_)
    · replace h := h.1 c2
      refine r_iconst C (-1) (dk_at dk_Face_count_1 17 rfl) ?_
      exact r_iret C h (dk_at dk_Face_count_1 18 rfl)
    · replace h := h.2 c2
      refine r_aload_n C 0 rfl (dk_at dk_Face_count_1 9 rfl) ?_
      refine r_getR C fl_Face_10 0 (hL.1 0 _ rfl) rfl (dk_at dk_Face_count_1 10 rfl) ?_
      refine r_getR C fl_Face_126 200 (hL.1 200 _ rfl) rfl (dk_at dk_Face_count_1 11 rfl) ?_
      refine r_iload_n C 1 rfl (dk_at dk_Face_count_1 12 rfl) ?_
      refine r_bipush C 12 (dk_at dk_Face_count_1 13 rfl) ?_
      refine r_isub C (dk_at dk_Face_count_1 14 rfl) ?_
      obtain ⟨q3, h⟩ := h
      refine r_iald C 208 (hL.1 208 _ rfl) q3 (dk_at dk_Face_count_1 15 rfl) ?_
      refine r_goto C 170 rfl (dk_at dk_Face_count_1 16 rfl) ?_
      exact r_iret C h (dk_at dk_Face_count_1 18 rfl)
set_option maxRecDepth 20000 in
theorem t_Face_count_j120 {X : CT} {w : WO} (C : CF X w (lim0 w) 2 cX10_count RX10 (some .int) (.code yX10_count cX10_count 2 (some .int)) (rmK 0 0)) {T : TXT} {z : EXa} (hL : LyX w T z) {post : Int32 → DD → Prop} {a1 : Int32} {σ : DD} (h : w_Face_count_j120 T post σ a1) : gW X w (lim0 w) 2 (QI X w post) σ 120 [(0, .ref (wAd w 0)), (1, .int a1)] [] := by
  unfold w_Face_count_j120 at h
  refine r_iload_n C 1 rfl (dk_at dk_Face_count_0 30 rfl) ?_
  refine r_bipush C 6 (dk_at dk_Face_count_0 31 rfl) ?_
  refine r_icmp_lt C 142 rfl (dk_at dk_Face_count_0 32 rfl) (fun c4 => ?_) (fun c4 => ?_)
  · replace h := h.1 c4
    refine r_lv [0, 1] rfl ?_
    exact t_Face_count_j142 C hL h
  · replace h := h.2 c4
    refine r_iload_n C 1 rfl (dk_at dk_Face_count_0 33 rfl) ?_
    refine r_bipush C 10 (dk_at dk_Face_count_0 34 rfl) ?_
    refine r_icmp_gt C 142 rfl (dk_at dk_Face_count_0 35 rfl) (fun c5 => ?_) (fun c5 => ?_)
    · replace h := h.1 c5
      refine r_lv [0, 1] rfl ?_
      exact t_Face_count_j142 C hL h
    · replace h := h.2 c5
      refine r_aload_n C 0 rfl (dk_at dk_Face_count_0 36 rfl) ?_
      refine r_getR C fl_Face_82 0 (hL.1 0 _ rfl) rfl (dk_at dk_Face_count_0 37 rfl) ?_
      refine r_iload_n C 1 rfl (dk_at dk_Face_count_0 38 rfl) ?_
      refine r_bipush C 6 (dk_at dk_Face_count_0 39 rfl) ?_
      refine r_isub C (dk_at dk_Face_count_1 0 rfl) ?_
      obtain ⟨q6, h⟩ := h
      refine r_iald C 11 (hL.1 11 _ rfl) q6 (dk_at dk_Face_count_1 1 rfl) ?_
      exact r_iret C h (dk_at dk_Face_count_1 2 rfl)
set_option maxRecDepth 20000 in
theorem m_Face_count {l : Launch} {w : WO} {T : TXT} {z : EXa} (hL : LyX w T z) {σ : DD} {a1 : Int32} {post : Int32 → DD → Prop} (h : w_Face_count T σ a1 post) : MI l w yX10_count cX10_count 2 .int (rmK 0 0) σ [.ref (wAd w 0), .int a1] post :=
  met_head (rt := (some .int)) (by decide) rfl (fun X hX C => by
  subst hX
  unfold w_Face_count at h
  show gW X w (lim0 w) 2 (QI X w post) σ 0 [(0, .ref (wAd w 0)), (1, .int a1)] []
  refine r_iload_n C 1 rfl (dk_at dk_Face_count_0 0 rfl) ?_
  by_cases c7 : a1 = 0
  · refine r_tabK C 0 c7 (off := 63) (tgt := 64) (by decide) (dk_at dk_Face_count_0 1 rfl) ?_
    replace h := h.1 c7
    refine r_aload_n C 0 rfl (dk_at dk_Face_count_0 2 rfl) ?_
    refine r_getR C fl_Face_10 0 (hL.1 0 _ rfl) rfl (dk_at dk_Face_count_0 3 rfl) ?_
    refine r_getI C fl_Face_94 200 (hL.1 200 _ rfl) rfl (dk_at dk_Face_count_0 4 rfl) ?_
    exact r_iret C h (dk_at dk_Face_count_0 5 rfl)
  · replace h := h.2 c7
    by_cases c8 : a1 = 1
    · refine r_tabK C 1 c8 (off := 71) (tgt := 72) (by decide) (dk_at dk_Face_count_0 1 rfl) ?_
      replace h := h.1 c8
      refine r_aload_n C 0 rfl (dk_at dk_Face_count_0 6 rfl) ?_
      refine r_getR C fl_Face_10 0 (hL.1 0 _ rfl) rfl (dk_at dk_Face_count_0 7 rfl) ?_
      refine r_getI C fl_Face_138 200 (hL.1 200 _ rfl) rfl (dk_at dk_Face_count_0 8 rfl) ?_
      exact r_iret C h (dk_at dk_Face_count_0 9 rfl)
    · replace h := h.2 c8
      by_cases c9 : a1 = 2
      · refine r_tabK C 2 c9 (off := 79) (tgt := 80) (by decide) (dk_at dk_Face_count_0 1 rfl) ?_
        replace h := h.1 c9
        refine r_aload_n C 0 rfl (dk_at dk_Face_count_0 10 rfl) ?_
        refine r_getR C fl_Face_10 0 (hL.1 0 _ rfl) rfl (dk_at dk_Face_count_0 11 rfl) ?_
        refine r_getI C fl_Face_216 200 (hL.1 200 _ rfl) rfl (dk_at dk_Face_count_0 12 rfl) ?_
        exact r_iret C h (dk_at dk_Face_count_0 13 rfl)
      · replace h := h.2 c9
        by_cases c10 : a1 = 3
        · refine r_tabK C 3 c10 (off := 87) (tgt := 88) (by decide) (dk_at dk_Face_count_0 1 rfl) ?_
          replace h := h.1 c10
          refine r_aload_n C 0 rfl (dk_at dk_Face_count_0 14 rfl) ?_
          refine r_getR C fl_Face_10 0 (hL.1 0 _ rfl) rfl (dk_at dk_Face_count_0 15 rfl) ?_
          refine r_getI C fl_Face_276 200 (hL.1 200 _ rfl) rfl (dk_at dk_Face_count_0 16 rfl) ?_
          exact r_iret C h (dk_at dk_Face_count_0 17 rfl)
        · replace h := h.2 c10
          by_cases c11 : a1 = 4
          · refine r_tabK C 4 c11 (off := 95) (tgt := 96) (by decide) (dk_at dk_Face_count_0 1 rfl) ?_
            replace h := h.1 c11
            refine r_aload_n C 0 rfl (dk_at dk_Face_count_0 18 rfl) ?_
            refine r_getR C fl_Face_10 0 (hL.1 0 _ rfl) rfl (dk_at dk_Face_count_0 19 rfl) ?_
            refine r_getI C fl_Face_176 200 (hL.1 200 _ rfl) rfl (dk_at dk_Face_count_0 20 rfl) ?_
            exact r_iret C h (dk_at dk_Face_count_0 21 rfl)
          · replace h := h.2 c11
            by_cases c12 : a1 = 5
            · refine r_tabK C 5 c12 (off := 103) (tgt := 104) (by decide) (dk_at dk_Face_count_0 1 rfl) ?_
              replace h := h.1 c12
              refine r_aload_n C 0 rfl (dk_at dk_Face_count_0 22 rfl) ?_
              refine r_getR C fl_Face_23 0 (hL.1 0 _ rfl) rfl (dk_at dk_Face_count_0 23 rfl) ?_
              refine r_getI C fl_Face_163 20 (hL.1 20 _ rfl) rfl (dk_at dk_Face_count_0 24 rfl) ?_
              exact r_iret C h (dk_at dk_Face_count_0 25 rfl)
            · replace h := h.2 c12
              by_cases c13 : a1 = 6
              · refine r_tabK C 6 c13 (off := 119) (tgt := 120) (by decide) (dk_at dk_Face_count_0 1 rfl) ?_
                replace h := h.1 c13
                refine r_lv [0, 1] rfl ?_
                exact t_Face_count_j120 C hL h
              · replace h := h.2 c13
                by_cases c14 : a1 = 7
                · refine r_tabK C 7 c14 (off := 119) (tgt := 120) (by decide) (dk_at dk_Face_count_0 1 rfl) ?_
                  replace h := h.1 c14
                  refine r_lv [0, 1] rfl ?_
                  exact t_Face_count_j120 C hL h
                · replace h := h.2 c14
                  by_cases c15 : a1 = 8
                  · refine r_tabK C 8 c15 (off := 119) (tgt := 120) (by decide) (dk_at dk_Face_count_0 1 rfl) ?_
                    replace h := h.1 c15
                    refine r_lv [0, 1] rfl ?_
                    exact t_Face_count_j120 C hL h
                  · replace h := h.2 c15
                    by_cases c16 : a1 = 9
                    · refine r_tabK C 9 c16 (off := 119) (tgt := 120) (by decide) (dk_at dk_Face_count_0 1 rfl) ?_
                      replace h := h.1 c16
                      refine r_lv [0, 1] rfl ?_
                      exact t_Face_count_j120 C hL h
                    · replace h := h.2 c16
                      by_cases c17 : a1 = 10
                      · refine r_tabK C 10 c17 (off := 119) (tgt := 120) (by decide) (dk_at dk_Face_count_0 1 rfl) ?_
                        replace h := h.1 c17
                        refine r_lv [0, 1] rfl ?_
                        exact t_Face_count_j120 C hL h
                      · replace h := h.2 c17
                        by_cases c18 : a1 = 11
                        · refine r_tabK C 11 c18 (off := 111) (tgt := 112) (by decide) (dk_at dk_Face_count_0 1 rfl) ?_
                          replace h := h.1 c18
                          refine r_aload_n C 0 rfl (dk_at dk_Face_count_0 26 rfl) ?_
                          refine r_getR C fl_Face_10 0 (hL.1 0 _ rfl) rfl (dk_at dk_Face_count_0 27 rfl) ?_
                          refine r_getI C fl_Face_197 200 (hL.1 200 _ rfl) rfl (dk_at dk_Face_count_0 28 rfl) ?_
                          exact r_iret C h (dk_at dk_Face_count_0 29 rfl)
                        · replace h := h.2 c18
                          refine r_tabD C (tgt := 120) (dk_at dk_Face_count_0 1 rfl) (tab_out (fun k h1 h2 => by rcases (show k = 0 ∨ k = 1 ∨ k = 2 ∨ k = 3 ∨ k = 4 ∨ k = 5 ∨ k = 6 ∨ k = 7 ∨ k = 8 ∨ k = 9 ∨ k = 10 ∨ k = 11 by omega) with rfl | rfl | rfl | rfl | rfl | rfl | rfl | rfl | rfl | rfl | rfl | rfl <;> assumption)) rfl ?_
                          refine r_lv [0, 1] rfl ?_
                          exact t_Face_count_j120 C hL h
  )
set_option maxRecDepth 20000 in
theorem m_Face_status {l : Launch} {w : WO} {T : TXT} {z : EXa} (hL : LyX w T z) {σ : DD} {post : Int32 → DD → Prop} (h : w_Face_status T σ post) : MI l w yX10_status cX10_status 1 .int (rmK 0 0) σ [.ref (wAd w 0)] post :=
  met_head (rt := (some .int)) (by decide) rfl (fun X hX C => by
  subst hX
  unfold w_Face_status at h
  show gW X w (lim0 w) 1 (QI X w post) σ 0 [(0, .ref (wAd w 0))] []
  refine r_aload_n C 0 rfl (dk_at dk_Face_status_0 0 rfl) ?_
  refine r_getI C fl_Face_312 0 (hL.1 0 _ rfl) rfl (dk_at dk_Face_status_0 1 rfl) ?_
  exact r_iret C h (dk_at dk_Face_status_0 2 rfl)
  )
