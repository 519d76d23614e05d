set_option maxRecDepth 20000 in
theorem m_Court_forget {l : Launch} {w : WO} {T : TXT} {z : EXa} (hL : LyX w T z) {σ : DD} {post : DD → Prop} (h : w_Court_forget T σ post) : MV l w yX0_forget cX0_forget 1 (rmK 0 0) σ [.ref (wAd w 50)] post :=
  met_head (rt := none) (by decide) rfl (fun X hX C => by
  subst hX
  unfold w_Court_forget at h
  show gW X w (lim0 w) 1 (QV X w post) σ 0 [(0, .ref (wAd w 50))] []
  refine r_aload_n C 0 rfl (dk_at dk_Court_forget_0 0 rfl) ?_
  refine r_dup C rfl (dk_at dk_Court_forget_0 1 rfl) ?_
  refine r_getI C fl_Court_27 50 (hL.1 50 _ rfl) rfl (dk_at dk_Court_forget_0 2 rfl) ?_
  refine r_iconst C 1 (dk_at dk_Court_forget_0 3 rfl) ?_
  refine r_iadd C (dk_at dk_Court_forget_0 4 rfl) ?_
  refine r_putI C fl_Court_27 50 (hL.1 50 _ rfl) rfl (dk_at dk_Court_forget_0 5 rfl) (r_sg (fun σ1 e2 => ?_))
  replace h := h σ1 e2
  exact r_vret C h (dk_at dk_Court_forget_0 6 rfl)
  )
set_option maxRecDepth 20000 in
theorem m_Real_trait {l : Launch} {w : WO} {T : TXT} {z : EXa} (hL : LyX w T z) {σ : DD} {a1 : Int32} {a2 : Int32} {post : Int32 → DD → Prop} (h : w_Real_trait T σ a1 a2 post) : MI l w yX5_trait cX5_trait 3 .int (rmK 0 0) σ [.ref (wAd w 200), .int a1, .int a2] post :=
  met_head (rt := (some .int)) (by decide) rfl (fun X hX C => by
  subst hX
  unfold w_Real_trait at h
  show gW X w (lim0 w) 3 (QI X w post) σ 0 [(0, .ref (wAd w 200)), (1, .int a1), (2, .int a2)] []
  refine r_aload_n C 0 rfl (dk_at dk_Real_trait_0 0 rfl) ?_
  refine r_getR C fl_Real_9 200 (hL.1 200 _ rfl) rfl (dk_at dk_Real_trait_0 1 rfl) ?_
  refine r_iload_n C 1 rfl (dk_at dk_Real_trait_0 2 rfl) ?_
  refine r_iconst C 4 (dk_at dk_Real_trait_0 3 rfl) ?_
  refine r_imul C (dk_at dk_Real_trait_0 4 rfl) ?_
  refine r_iload_n C 2 rfl (dk_at dk_Real_trait_0 5 rfl) ?_
  refine r_iadd C (dk_at dk_Real_trait_0 6 rfl) ?_
  obtain ⟨q1, h⟩ := h
  refine r_iald C 202 (hL.1 202 _ rfl) q1 (dk_at dk_Real_trait_0 7 rfl) ?_
  exact r_iret C h (dk_at dk_Real_trait_0 8 rfl)
  )
set_option maxRecDepth 20000 in
theorem m_Real_textInForce {l : Launch} {w : WO} {T : TXT} {z : EXa} (hL : LyX w T z) {σ : DD} {post : Option Nat → DD → Prop} (h : w_Real_textInForce T σ post) : MO l w yX5_textInForce cX5_textInForce 1 (.object "FadingActs$Text") (rmK 0 0) σ [.ref (wAd w 200)] post :=
  met_head (rt := (some (.object "FadingActs$Text"))) (by decide) rfl (fun X hX C => by
  subst hX
  unfold w_Real_textInForce at h
  show gW X w (lim0 w) 1 (QO X w post) σ 0 [(0, .ref (wAd w 200))] []
  refine r_aload_n C 0 rfl (dk_at dk_Real_textInForce_0 0 rfl) ?_
  refine r_getI C fl_Real_57 200 (hL.1 200 _ rfl) rfl (dk_at dk_Real_textInForce_0 1 rfl) ?_
  refine r_if_lt C 30 rfl (dk_at dk_Real_textInForce_0 2 rfl) (fun c1 => ?_) (fun c1 => ?_)
  · replace h := h.1 c1
    refine r_null C (dk_at dk_Real_textInForce_0 14 rfl) ?_
    exact r_aretO C rfl h (dk_at dk_Real_textInForce_0 15 rfl)
  · replace h := h.2 c1
    refine r_aload_n C 0 rfl (dk_at dk_Real_textInForce_0 3 rfl) ?_
    refine r_getI C fl_Real_57 200 (hL.1 200 _ rfl) rfl (dk_at dk_Real_textInForce_0 4 rfl) ?_
    refine r_aload_n C 0 rfl (dk_at dk_Real_textInForce_0 5 rfl) ?_
    refine r_getI C fl_Real_99 200 (hL.1 200 _ rfl) rfl (dk_at dk_Real_textInForce_0 6 rfl) ?_
    refine r_icmp_ge C 30 rfl (dk_at dk_Real_textInForce_0 7 rfl) (fun c2 => ?_) (fun c2 => ?_)
    · replace h := h.1 c2
      refine r_null C (dk_at dk_Real_textInForce_0 14 rfl) ?_
      exact r_aretO C rfl h (dk_at dk_Real_textInForce_0 15 rfl)
    · replace h := h.2 c2
      refine r_aload_n C 0 rfl (dk_at dk_Real_textInForce_0 8 rfl) ?_
      refine r_getR C fl_Real_53 200 (hL.1 200 _ rfl) rfl (dk_at dk_Real_textInForce_0 9 rfl) ?_
      refine r_aload_n C 0 rfl (dk_at dk_Real_textInForce_0 10 rfl) ?_
      refine r_getI C fl_Real_57 200 (hL.1 200 _ rfl) rfl (dk_at dk_Real_textInForce_0 11 rfl) ?_
      obtain ⟨q3, h⟩ := h
      refine r_aald C 219 (hL.1 219 _ rfl) (by decide) q3 (dk_at dk_Real_textInForce_0 12 rfl) ?_
      refine r_goto C 31 rfl (dk_at dk_Real_textInForce_0 13 rfl) ?_
      exact r_aretO C rfl h (dk_at dk_Real_textInForce_0 15 rfl)
  )
set_option maxRecDepth 20000 in
theorem m_J6_bitCount_0f7a4 {l : Launch} {w : WO} {T : TXT} {z : EXa} (hL : LyX w T z) {σ : DD} {a0 : Int32} {post : Int32 → DD → Prop} (h : w_J6_bitCount_0f7a4 T σ a0 post) : MI l w yJ6_bitCount_0f7a4 cJ6_bitCount_0f7a4 1 .int (rmK 0 0) σ [.int a0] post :=
  met_head (rt := (some .int)) (by decide) rfl (fun X hX C => by
  subst hX
  unfold w_J6_bitCount_0f7a4 at h
  show gW X w (lim0 w) 1 (QI X w post) σ 0 [(0, .int a0)] []
  refine r_iload_n C 0 rfl (dk_at dk_J6_bitCount_0f7a4_0 0 rfl) ?_
  refine r_iload_n C 0 rfl (dk_at dk_J6_bitCount_0f7a4_0 1 rfl) ?_
  refine r_iconst C 1 (dk_at dk_J6_bitCount_0f7a4_0 2 rfl) ?_
  refine r_iushr C (dk_at dk_J6_bitCount_0f7a4_0 3 rfl) ?_
  refine r_ldc_w C tw_519 (dk_at dk_J6_bitCount_0f7a4_0 4 rfl) ?_
  refine r_iand C (dk_at dk_J6_bitCount_0f7a4_0 5 rfl) ?_
  refine r_isub C (dk_at dk_J6_bitCount_0f7a4_0 6 rfl) ?_
  refine r_topi (fun v1 e2 => ?_)
  replace h := h v1 e2
  refine r_istore_n C [(0, .int v1)] rfl rfl (dk_at dk_J6_bitCount_0f7a4_0 7 rfl) ?_
  refine r_iload_n C 0 rfl (dk_at dk_J6_bitCount_0f7a4_0 8 rfl) ?_
  refine r_ldc_w C tw_520 (dk_at dk_J6_bitCount_0f7a4_0 9 rfl) ?_
  refine r_iand C (dk_at dk_J6_bitCount_0f7a4_0 10 rfl) ?_
  refine r_iload_n C 0 rfl (dk_at dk_J6_bitCount_0f7a4_0 11 rfl) ?_
  refine r_iconst C 2 (dk_at dk_J6_bitCount_0f7a4_0 12 rfl) ?_
  refine r_iushr C (dk_at dk_J6_bitCount_0f7a4_0 13 rfl) ?_
  refine r_ldc_w C tw_520 (dk_at dk_J6_bitCount_0f7a4_0 14 rfl) ?_
  refine r_iand C (dk_at dk_J6_bitCount_0f7a4_0 15 rfl) ?_
  refine r_iadd C (dk_at dk_J6_bitCount_0f7a4_0 16 rfl) ?_
  refine r_topi (fun v3 e4 => ?_)
  replace h := h v3 e4
  refine r_istore_n C [(0, .int v3)] rfl rfl (dk_at dk_J6_bitCount_0f7a4_0 17 rfl) ?_
  refine r_iload_n C 0 rfl (dk_at dk_J6_bitCount_0f7a4_0 18 rfl) ?_
  refine r_iload_n C 0 rfl (dk_at dk_J6_bitCount_0f7a4_0 19 rfl) ?_
  refine r_iconst C 4 (dk_at dk_J6_bitCount_0f7a4_0 20 rfl) ?_
  refine r_iushr C (dk_at dk_J6_bitCount_0f7a4_0 21 rfl) ?_
  refine r_iadd C (dk_at dk_J6_bitCount_0f7a4_0 22 rfl) ?_
  refine r_ldc_w C tw_521 (dk_at dk_J6_bitCount_0f7a4_0 23 rfl) ?_
  refine r_iand C (dk_at dk_J6_bitCount_0f7a4_0 24 rfl) ?_
  refine r_topi (fun v5 e6 => ?_)
  replace h := h v5 e6
  refine r_istore_n C [(0, .int v5)] rfl rfl (dk_at dk_J6_bitCount_0f7a4_0 25 rfl) ?_
  refine r_iload_n C 0 rfl (dk_at dk_J6_bitCount_0f7a4_0 26 rfl) ?_
  refine r_iload_n C 0 rfl (dk_at dk_J6_bitCount_0f7a4_0 27 rfl) ?_
  refine r_bipush C 8 (dk_at dk_J6_bitCount_0f7a4_0 28 rfl) ?_
  refine r_iushr C (dk_at dk_J6_bitCount_0f7a4_0 29 rfl) ?_
  refine r_iadd C (dk_at dk_J6_bitCount_0f7a4_0 30 rfl) ?_
  refine r_topi (fun v7 e8 => ?_)
  replace h := h v7 e8
  refine r_istore_n C [(0, .int v7)] rfl rfl (dk_at dk_J6_bitCount_0f7a4_0 31 rfl) ?_
  refine r_iload_n C 0 rfl (dk_at dk_J6_bitCount_0f7a4_0 32 rfl) ?_
  refine r_iload_n C 0 rfl (dk_at dk_J6_bitCount_0f7a4_0 33 rfl) ?_
  refine r_bipush C 16 (dk_at dk_J6_bitCount_0f7a4_0 34 rfl) ?_
  refine r_iushr C (dk_at dk_J6_bitCount_0f7a4_0 35 rfl) ?_
  refine r_iadd C (dk_at dk_J6_bitCount_0f7a4_0 36 rfl) ?_
  refine r_topi (fun v9 e10 => ?_)
  replace h := h v9 e10
  refine r_istore_n C [(0, .int v9)] rfl rfl (dk_at dk_J6_bitCount_0f7a4_0 37 rfl) ?_
  refine r_iload_n C 0 rfl (dk_at dk_J6_bitCount_0f7a4_0 38 rfl) ?_
  refine r_bipush C 63 (dk_at dk_J6_bitCount_0f7a4_0 39 rfl) ?_
  refine r_iand C (dk_at dk_J6_bitCount_0f7a4_1 0 rfl) ?_
  exact r_iret C h (dk_at dk_J6_bitCount_0f7a4_1 1 rfl)
  )
set_option maxRecDepth 20000 in
theorem m_Text_headOf {l : Launch} {w : WO} {T : TXT} {z : EXa} (hL : LyX w T z) {o : Nat} {m1 : Nat} {m2 : Nat} (hT : isT w o m1 m2) {σ : DD} {a1 : Int32} {a2 : Int32} {post : Int32 → DD → Prop} (h : w_Text_headOf T o m1 m2 σ a1 a2 post) : MI l w yX8_headOf cX8_headOf 3 .int (rmK 0 0) σ [.ref (wAd w o), .int a1, .int a2] post :=
  met_head (rt := (some .int)) (by decide) rfl (fun X hX C => by
  subst hX
  unfold w_Text_headOf at h
  show gW X w (lim0 w) 3 (QI X w post) σ 0 [(0, .ref (wAd w o)), (1, .int a1), (2, .int a2)] []
  refine r_aload_n C 0 rfl (dk_at dk_Text_headOf_0 0 rfl) ?_
  refine r_getR C fl_Text_13 o hT.1 rfl (dk_at dk_Text_headOf_0 1 rfl) ?_
  refine r_iload_n C 1 rfl (dk_at dk_Text_headOf_0 2 rfl) ?_
  refine r_bipush C 6 (dk_at dk_Text_headOf_0 3 rfl) ?_
  refine r_imul C (dk_at dk_Text_headOf_0 4 rfl) ?_
  refine r_iload_n C 2 rfl (dk_at dk_Text_headOf_0 5 rfl) ?_
  refine r_iadd C (dk_at dk_Text_headOf_0 6 rfl) ?_
  obtain ⟨q1, h⟩ := h
  refine r_iald C (o + 4) hT.2.2 q1 (dk_at dk_Text_headOf_0 7 rfl) ?_
  exact r_iret C h (dk_at dk_Text_headOf_0 8 rfl)
  )
set_option maxRecDepth 20000 in
theorem t_Text_valueOf_j175 {X : CT} {w : WO} (C : CF X w (lim0 w) 19 cX8_valueOf RX8 (some .long) (.code yX8_valueOf cX8_valueOf 19 (some .long)) (rmK 0 0)) {T : TXT} {z : EXa} (hL : LyX w T z) {o : Nat} {m1 : Nat} {m2 : Nat} {a3 : Nat} {n3 : Nat} {a4 : Nat} {n4 : Nat} (hT : isT w o m1 m2) (hy3 : wLy w a3 = some (lI 0 n3)) (hy4 : wLy w a4 = some (lJ n4)) {K31 : DD → Int32 → Int32 → Prop} {post : Int64 → DD → Prop} {a5 : Int32} {a6 : Int32} {a7 : Int32} {t1 : Int32} {t2 : Int64} (k31 : ∀ (σ : DD) (a6 : Int32) (a7 : Int32), K31 σ a6 a7 → gW X w (lim0 w) 19 (QL X w post) σ 31 [(0, .ref (wAd w o)), (3, .ref (wAd w a3)), (4, .ref (wAd w a4)), (5, .int a5), (6, .int a6), (7, .int a7)] []) {σ : DD} (h : w_Text_valueOf_j175 T o m1 m2 a3 n3 a4 n4 K31 post σ a5 a6 a7 t1 t2) : gW X w (lim0 w) 19 (QL X w post) σ 175 [(0, .ref (wAd w o)), (3, .ref (wAd w a3)), (4, .ref (wAd w a4)), (5, .int a5), (6, .int a6), (7, .int a7)] [.long t2, .int t1, .ref (wAd w a4)] := by
  unfold w_Text_valueOf_j175 at h
  obtain ⟨q3, h⟩ := h
  refine r_last C a4 hy4 q3 (dk_at dk_Text_valueOf_2 17 rfl) (r_sg (fun σ1 e2 => ?_))
  replace h := h σ1 e2
  refine r_iinc C 4 rfl rfl [(6, .int (a6 + 1)), (0, .ref (wAd w o)), (3, .ref (wAd w a3)), (4, .ref (wAd w a4)), (5, .int a5), (7, .int a7)] rfl rfl (dk_at dk_Text_valueOf_2 18 rfl) ?_
  refine r_goto C 488 rfl (dk_at dk_Text_valueOf_2 19 rfl) ?_
  refine r_iinc C 5 rfl rfl [(7, .int (a7 + 1)), (6, .int (a6 + 1)), (0, .ref (wAd w o)), (3, .ref (wAd w a3)), (4, .ref (wAd w a4)), (5, .int a5)] rfl rfl (dk_at dk_Text_valueOf_6 0 rfl) ?_
  refine r_goto C 31 rfl (dk_at dk_Text_valueOf_6 1 rfl) ?_
  refine r_lv [2, 3, 4, 5, 1, 0] rfl ?_
  exact k31 _ _ _ h
set_option maxRecDepth 20000 in
theorem t_Text_valueOf_j258 {X : CT} {w : WO} (C : CF X w (lim0 w) 19 cX8_valueOf RX8 (some .long) (.code yX8_valueOf cX8_valueOf 19 (some .long)) (rmK 0 0)) {T : TXT} {z : EXa} (hL : LyX w T z) {o : Nat} {m1 : Nat} {m2 : Nat} {a3 : Nat} {n3 : Nat} {a4 : Nat} {n4 : Nat} (hT : isT w o m1 m2) (hy3 : wLy w a3 = some (lI 0 n3)) (hy4 : wLy w a4 = some (lJ n4)) {K31 : DD → Int32 → Int32 → Prop} {post : Int64 → DD → Prop} {a5 : Int32} {a6 : Int32} {t0 : Int32} (k31 : ∀ (σ : DD) (a6 : Int32) (a7 : Int32), K31 σ a6 a7 → gW X w (lim0 w) 19 (QL X w post) σ 31 [(0, .ref (wAd w o)), (3, .ref (wAd w a3)), (4, .ref (wAd w a4)), (5, .int a5), (6, .int a6), (7, .int a7)] []) {σ : DD} (h : w_Text_valueOf_j258 T o m1 m2 a3 n3 a4 n4 K31 post σ a5 a6 t0) : gW X w (lim0 w) 19 (QL X w post) σ 258 [(0, .ref (wAd w o)), (3, .ref (wAd w a3)), (4, .ref (wAd w a4)), (5, .int a5), (6, .int a6)] [.int t0] := by
  unfold w_Text_valueOf_j258 at h
  refine r_istore C [(7, .int t0), (0, .ref (wAd w o)), (3, .ref (wAd w a3)), (4, .ref (wAd w a4)), (5, .int a5), (6, .int a6)] rfl rfl (dk_at dk_Text_valueOf_3 24 rfl) ?_
  refine r_goto C 488 rfl (dk_at dk_Text_valueOf_3 25 rfl) ?_
  refine r_iinc C 0 rfl rfl [(7, .int (t0 + 1)), (0, .ref (wAd w o)), (3, .ref (wAd w a3)), (4, .ref (wAd w a4)), (5, .int a5), (6, .int a6)] rfl rfl (dk_at dk_Text_valueOf_6 0 rfl) ?_
  refine r_goto C 31 rfl (dk_at dk_Text_valueOf_6 1 rfl) ?_
  refine r_lv [1, 2, 3, 4, 5, 0] rfl ?_
  exact k31 _ _ _ h
set_option maxRecDepth 20000 in
theorem t_Text_valueOf_j237 {X : CT} {w : WO} (C : CF X w (lim0 w) 19 cX8_valueOf RX8 (some .long) (.code yX8_valueOf cX8_valueOf 19 (some .long)) (rmK 0 0)) {T : TXT} {z : EXa} (hL : LyX w T z) {o : Nat} {m1 : Nat} {m2 : Nat} {a3 : Nat} {n3 : Nat} {a4 : Nat} {n4 : Nat} (hT : isT w o m1 m2) (hy3 : wLy w a3 = some (lI 0 n3)) (hy4 : wLy w a4 = some (lJ n4)) {K31 : DD → Int32 → Int32 → Prop} {post : Int64 → DD → Prop} {a5 : Int32} {a6 : Int32} {a7 : Int32} {a9 : Int32} {t0 : Int64} {t1 : Int32} (k31 : ∀ (σ : DD) (a6 : Int32) (a7 : Int32), K31 σ a6 a7 → gW X w (lim0 w) 19 (QL X w post) σ 31 [(0, .ref (wAd w o)), (3, .ref (wAd w a3)), (4, .ref (wAd w a4)), (5, .int a5), (6, .int a6), (7, .int a7)] []) {σ : DD} (h : w_Text_valueOf_j237 T o m1 m2 a3 n3 a4 n4 K31 post σ a5 a6 a7 a9 t0 t1) : gW X w (lim0 w) 19 (QL X w post) σ 237 [(0, .ref (wAd w o)), (3, .ref (wAd w a3)), (4, .ref (wAd w a4)), (5, .int a5), (6, .int a6), (7, .int a7), (9, .int a9)] [.int t1, .long t0] := by
  unfold w_Text_valueOf_j237 at h
  refine r_i2l C (dk_at dk_Text_valueOf_3 13 rfl) ?_
  refine r_lcmp C (dk_at dk_Text_valueOf_3 14 rfl) ?_
  refine r_if_ne C 263 rfl (dk_at dk_Text_valueOf_3 15 rfl) (fun c4 => ?_) (fun c4 => ?_)
  · replace h := h.1 c4
    refine r_iinc C 4 rfl (iincM (m := (-1)) (by decide)) [(6, .int (a6 + (-1))), (0, .ref (wAd w o)), (3, .ref (wAd w a3)), (4, .ref (wAd w a4)), (5, .int a5), (7, .int a7), (9, .int a9)] rfl rfl (dk_at dk_Text_valueOf_3 26 rfl) ?_
    refine r_goto C 488 rfl (dk_at dk_Text_valueOf_3 27 rfl) ?_
    refine r_iinc C 5 rfl rfl [(7, .int (a7 + 1)), (6, .int (a6 + (-1))), (0, .ref (wAd w o)), (3, .ref (wAd w a3)), (4, .ref (wAd w a4)), (5, .int a5), (9, .int a9)] rfl rfl (dk_at dk_Text_valueOf_6 0 rfl) ?_
    refine r_goto C 31 rfl (dk_at dk_Text_valueOf_6 1 rfl) ?_
    refine r_lv [2, 3, 4, 5, 1, 0] rfl ?_
    exact k31 _ _ _ h
  · replace h := h.2 c4
    refine r_iload C 6 rfl (dk_at dk_Text_valueOf_3 16 rfl) ?_
    refine r_iload C 5 rfl (dk_at dk_Text_valueOf_3 17 rfl) ?_
    refine r_icmp_le C 256 rfl (dk_at dk_Text_valueOf_3 18 rfl) (fun c5 => ?_) (fun c5 => ?_)
    · replace h := h.1 c5
      refine r_iload C 5 rfl (dk_at dk_Text_valueOf_3 23 rfl) ?_
      refine r_lv [0, 1, 2, 3, 4] rfl ?_
      exact t_Text_valueOf_j258 C hL hT hy3 hy4 k31 h
    · replace h := h.2 c5
      refine r_iload C 6 rfl (dk_at dk_Text_valueOf_3 19 rfl) ?_
      refine r_iconst C 1 (dk_at dk_Text_valueOf_3 20 rfl) ?_
      refine r_isub C (dk_at dk_Text_valueOf_3 21 rfl) ?_
      refine r_goto C 258 rfl (dk_at dk_Text_valueOf_3 22 rfl) ?_
      refine r_lv [0, 1, 2, 3, 4] rfl ?_
      exact t_Text_valueOf_j258 C hL hT hy3 hy4 k31 h
set_option maxRecDepth 20000 in
theorem t_Text_valueOf_j219 {X : CT} {w : WO} (C : CF X w (lim0 w) 19 cX8_valueOf RX8 (some .long) (.code yX8_valueOf cX8_valueOf 19 (some .long)) (rmK 0 0)) {T : TXT} {z : EXa} (hL : LyX w T z) {o : Nat} {m1 : Nat} {m2 : Nat} {a3 : Nat} {n3 : Nat} {a4 : Nat} {n4 : Nat} (hT : isT w o m1 m2) (hy3 : wLy w a3 = some (lI 0 n3)) (hy4 : wLy w a4 = some (lJ n4)) {K31 : DD → Int32 → Int32 → Prop} {post : Int64 → DD → Prop} {a5 : Int32} {a6 : Int32} {a7 : Int32} {a8 : Int32} {a9 : Int32} (k31 : ∀ (σ : DD) (a6 : Int32) (a7 : Int32), K31 σ a6 a7 → gW X w (lim0 w) 19 (QL X w post) σ 31 [(0, .ref (wAd w o)), (3, .ref (wAd w a3)), (4, .ref (wAd w a4)), (5, .int a5), (6, .int a6), (7, .int a7)] []) {σ : DD} (h : w_Text_valueOf_j219 T o m1 m2 a3 n3 a4 n4 K31 post σ a5 a6 a7 a8 a9) : gW X w (lim0 w) 19 (QL X w post) σ 219 [(0, .ref (wAd w o)), (3, .ref (wAd w a3)), (4, .ref (wAd w a4)), (5, .int a5), (6, .int a6), (7, .int a7), (8, .int a8), (9, .int a9)] [] := by
  unfold w_Text_valueOf_j219 at h
  refine r_aload C 2 rfl (dk_at dk_Text_valueOf_3 2 rfl) ?_
  refine r_iload C 4 rfl (dk_at dk_Text_valueOf_3 3 rfl) ?_
  refine r_iconst C 1 (dk_at dk_Text_valueOf_3 4 rfl) ?_
  refine r_isub C (dk_at dk_Text_valueOf_3 5 rfl) ?_
  obtain ⟨q6, h⟩ := h
  refine r_lald C a4 hy4 q6 (dk_at dk_Text_valueOf_3 6 rfl) ?_
  refine r_iload C 6 rfl (dk_at dk_Text_valueOf_3 7 rfl) ?_
  refine r_iconst C 4 (dk_at dk_Text_valueOf_3 8 rfl) ?_
  refine r_icmp_ne C 236 rfl (dk_at dk_Text_valueOf_3 9 rfl) (fun c7 => ?_) (fun c7 => ?_)
  · replace h := h.1 c7
    refine r_iconst C 0 (dk_at dk_Text_valueOf_3 12 rfl) ?_
    refine r_lv [0, 1, 2, 3, 4, 5, 7] rfl ?_
    exact t_Text_valueOf_j237 C hL hT hy3 hy4 k31 h
  · replace h := h.2 c7
    refine r_iconst C 1 (dk_at dk_Text_valueOf_3 10 rfl) ?_
    refine r_goto C 237 rfl (dk_at dk_Text_valueOf_3 11 rfl) ?_
    refine r_lv [0, 1, 2, 3, 4, 5, 7] rfl ?_
    exact t_Text_valueOf_j237 C hL hT hy3 hy4 k31 h
set_option maxRecDepth 20000 in
theorem t_Text_valueOf_j457 {X : CT} {w : WO} (C : CF X w (lim0 w) 19 cX8_valueOf RX8 (some .long) (.code yX8_valueOf cX8_valueOf 19 (some .long)) (rmK 0 0)) {T : TXT} {z : EXa} (hL : LyX w T z) {o : Nat} {m1 : Nat} {m2 : Nat} {a3 : Nat} {n3 : Nat} {a4 : Nat} {n4 : Nat} (hT : isT w o m1 m2) (hy3 : wLy w a3 = some (lI 0 n3)) (hy4 : wLy w a4 = some (lJ n4)) {K31 : DD → Int32 → Int32 → Prop} {post : Int64 → DD → Prop} {a5 : Int32} {a6 : Int32} {a7 : Int32} {a17 : Int64} (k31 : ∀ (σ : DD) (a6 : Int32) (a7 : Int32), K31 σ a6 a7 → gW X w (lim0 w) 19 (QL X w post) σ 31 [(0, .ref (wAd w o)), (3, .ref (wAd w a3)), (4, .ref (wAd w a4)), (5, .int a5), (6, .int a6), (7, .int a7)] []) {σ : DD} (h : w_Text_valueOf_j457 T o m1 m2 a3 n3 a4 n4 K31 post σ a5 a6 a7 a17) : gW X w (lim0 w) 19 (QL X w post) σ 457 [(0, .ref (wAd w o)), (3, .ref (wAd w a3)), (4, .ref (wAd w a4)), (5, .int a5), (6, .int a6), (7, .int a7), (17, .long a17)] [] := by
  unfold w_Text_valueOf_j457 at h
  refine r_lload C 6 rfl (dk_at dk_Text_valueOf_5 24 rfl) ?_
  refine r_ldc2 C tw_531 (dk_at dk_Text_valueOf_5 25 rfl) ?_
  refine r_lcmp C (dk_at dk_Text_valueOf_5 26 rfl) ?_
  refine r_if_gt C 475 rfl (dk_at dk_Text_valueOf_5 27 rfl) (fun c8 => ?_) (fun c8 => ?_)
  · replace h := h.1 c8
    refine r_ldc2 C tw_530 (dk_at dk_Text_valueOf_5 32 rfl) ?_
    exact r_lret C h (dk_at dk_Text_valueOf_5 33 rfl)
  · replace h := h.2 c8
    refine r_lload C 6 rfl (dk_at dk_Text_valueOf_5 28 rfl) ?_
    refine r_ldc2 C tw_532 (dk_at dk_Text_valueOf_5 29 rfl) ?_
    refine r_lcmp C (dk_at dk_Text_valueOf_5 30 rfl) ?_
    refine r_if_ge C 479 rfl (dk_at dk_Text_valueOf_5 31 rfl) (fun c9 => ?_) (fun c9 => ?_)
    · replace h := h.1 c9
      refine r_aload C 2 rfl (dk_at dk_Text_valueOf_5 34 rfl) ?_
      refine r_iload C 4 rfl (dk_at dk_Text_valueOf_5 35 rfl) ?_
      refine r_iconst C 1 (dk_at dk_Text_valueOf_5 36 rfl) ?_
      refine r_isub C (dk_at dk_Text_valueOf_5 37 rfl) ?_
      refine r_lload C 6 rfl (dk_at dk_Text_valueOf_5 38 rfl) ?_
      obtain ⟨q12, h⟩ := h
      refine r_last C a4 hy4 q12 (dk_at dk_Text_valueOf_5 39 rfl) (r_sg (fun σ10 e11 => ?_))
      replace h := h σ10 e11
      refine r_iinc C 5 rfl rfl [(7, .int (a7 + 1)), (0, .ref (wAd w o)), (3, .ref (wAd w a3)), (4, .ref (wAd w a4)), (5, .int a5), (6, .int a6), (17, .long a17)] rfl rfl (dk_at dk_Text_valueOf_6 0 rfl) ?_
      refine r_goto C 31 rfl (dk_at dk_Text_valueOf_6 1 rfl) ?_
      refine r_lv [1, 2, 3, 4, 5, 0] rfl ?_
      exact k31 _ _ _ h
    · replace h := h.2 c9
      refine r_ldc2 C tw_530 (dk_at dk_Text_valueOf_5 32 rfl) ?_
      exact r_lret C h (dk_at dk_Text_valueOf_5 33 rfl)
set_option maxRecDepth 20000 in
theorem t_Text_valueOf_j419 {X : CT} {w : WO} (C : CF X w (lim0 w) 19 cX8_valueOf RX8 (some .long) (.code yX8_valueOf cX8_valueOf 19 (some .long)) (rmK 0 0)) {T : TXT} {z : EXa} (hL : LyX w T z) {o : Nat} {m1 : Nat} {m2 : Nat} {a3 : Nat} {n3 : Nat} {a4 : Nat} {n4 : Nat} (hT : isT w o m1 m2) (hy3 : wLy w a3 = some (lI 0 n3)) (hy4 : wLy w a4 = some (lJ n4)) {K31 : DD → Int32 → Int32 → Prop} {post : Int64 → DD → Prop} {a5 : Int32} {a6 : Int32} {a7 : Int32} {t0 : Int64} (k31 : ∀ (σ : DD) (a6 : Int32) (a7 : Int32), K31 σ a6 a7 → gW X w (lim0 w) 19 (QL X w post) σ 31 [(0, .ref (wAd w o)), (3, .ref (wAd w a3)), (4, .ref (wAd w a4)), (5, .int a5), (6, .int a6), (7, .int a7)] []) {σ : DD} (h : w_Text_valueOf_j419 T o m1 m2 a3 n3 a4 n4 K31 post σ a5 a6 a7 t0) : gW X w (lim0 w) 19 (QL X w post) σ 419 [(0, .ref (wAd w o)), (3, .ref (wAd w a3)), (4, .ref (wAd w a4)), (5, .int a5), (6, .int a6), (7, .int a7)] [.long t0] := by
  unfold w_Text_valueOf_j419 at h
  refine r_lstore C [(17, .long t0), (0, .ref (wAd w o)), (3, .ref (wAd w a3)), (4, .ref (wAd w a4)), (5, .int a5), (6, .int a6), (7, .int a7)] rfl rfl (dk_at dk_Text_valueOf_5 5 rfl) ?_
  refine r_goto C 457 rfl (dk_at dk_Text_valueOf_5 6 rfl) ?_
  refine r_lv [1, 2, 3, 4, 5, 6, 0] rfl ?_
  exact t_Text_valueOf_j457 C hL hT hy3 hy4 k31 h
set_option maxRecDepth 20000 in
theorem t_Text_valueOf_j437 {X : CT} {w : WO} (C : CF X w (lim0 w) 19 cX8_valueOf RX8 (some .long) (.code yX8_valueOf cX8_valueOf 19 (some .long)) (rmK 0 0)) {T : TXT} {z : EXa} (hL : LyX w T z) {o : Nat} {m1 : Nat} {m2 : Nat} {a3 : Nat} {n3 : Nat} {a4 : Nat} {n4 : Nat} (hT : isT w o m1 m2) (hy3 : wLy w a3 = some (lI 0 n3)) (hy4 : wLy w a4 = some (lJ n4)) {K31 : DD → Int32 → Int32 → Prop} {post : Int64 → DD → Prop} {a5 : Int32} {a6 : Int32} {a7 : Int32} {t0 : Int64} (k31 : ∀ (σ : DD) (a6 : Int32) (a7 : Int32), K31 σ a6 a7 → gW X w (lim0 w) 19 (QL X w post) σ 31 [(0, .ref (wAd w o)), (3, .ref (wAd w a3)), (4, .ref (wAd w a4)), (5, .int a5), (6, .int a6), (7, .int a7)] []) {σ : DD} (h : w_Text_valueOf_j437 T o m1 m2 a3 n3 a4 n4 K31 post σ a5 a6 a7 t0) : gW X w (lim0 w) 19 (QL X w post) σ 437 [(0, .ref (wAd w o)), (3, .ref (wAd w a3)), (4, .ref (wAd w a4)), (5, .int a5), (6, .int a6), (7, .int a7)] [.long t0] := by
  unfold w_Text_valueOf_j437 at h
  refine r_lstore C [(17, .long t0), (0, .ref (wAd w o)), (3, .ref (wAd w a3)), (4, .ref (wAd w a4)), (5, .int a5), (6, .int a6), (7, .int a7)] rfl rfl (dk_at dk_Text_valueOf_5 14 rfl) ?_
  refine r_goto C 457 rfl (dk_at dk_Text_valueOf_5 15 rfl) ?_
  refine r_lv [1, 2, 3, 4, 5, 6, 0] rfl ?_
  exact t_Text_valueOf_j457 C hL hT hy3 hy4 k31 h
set_option maxRecDepth 20000 in
theorem t_Text_valueOf_j455 {X : CT} {w : WO} (C : CF X w (lim0 w) 19 cX8_valueOf RX8 (some .long) (.code yX8_valueOf cX8_valueOf 19 (some .long)) (rmK 0 0)) {T : TXT} {z : EXa} (hL : LyX w T z) {o : Nat} {m1 : Nat} {m2 : Nat} {a3 : Nat} {n3 : Nat} {a4 : Nat} {n4 : Nat} (hT : isT w o m1 m2) (hy3 : wLy w a3 = some (lI 0 n3)) (hy4 : wLy w a4 = some (lJ n4)) {K31 : DD → Int32 → Int32 → Prop} {post : Int64 → DD → Prop} {a5 : Int32} {a6 : Int32} {a7 : Int32} {t0 : Int64} (k31 : ∀ (σ : DD) (a6 : Int32) (a7 : Int32), K31 σ a6 a7 → gW X w (lim0 w) 19 (QL X w post) σ 31 [(0, .ref (wAd w o)), (3, .ref (wAd w a3)), (4, .ref (wAd w a4)), (5, .int a5), (6, .int a6), (7, .int a7)] []) {σ : DD} (h : w_Text_valueOf_j455 T o m1 m2 a3 n3 a4 n4 K31 post σ a5 a6 a7 t0) : gW X w (lim0 w) 19 (QL X w post) σ 455 [(0, .ref (wAd w o)), (3, .ref (wAd w a3)), (4, .ref (wAd w a4)), (5, .int a5), (6, .int a6), (7, .int a7)] [.long t0] := by
  unfold w_Text_valueOf_j455 at h
  refine r_lstore C [(17, .long t0), (0, .ref (wAd w o)), (3, .ref (wAd w a3)), (4, .ref (wAd w a4)), (5, .int a5), (6, .int a6), (7, .int a7)] rfl rfl (dk_at dk_Text_valueOf_5 23 rfl) ?_
  refine r_lv [1, 2, 3, 4, 5, 6, 0] rfl ?_
  exact t_Text_valueOf_j457 C hL hT hy3 hy4 k31 h
set_option maxRecDepth 20000 in
theorem t_Text_valueOf_j313 {X : CT} {w : WO} (C : CF X w (lim0 w) 19 cX8_valueOf RX8 (some .long) (.code yX8_valueOf cX8_valueOf 19 (some .long)) (rmK 0 0)) {T : TXT} {z : EXa} (hL : LyX w T z) {o : Nat} {m1 : Nat} {m2 : Nat} {a3 : Nat} {n3 : Nat} {a4 : Nat} {n4 : Nat} (hT : isT w o m1 m2) (hy3 : wLy w a3 = some (lI 0 n3)) (hy4 : wLy w a4 = some (lJ n4)) {K31 : DD → Int32 → Int32 → Prop} {post : Int64 → DD → Prop} {a5 : Int32} {a6 : Int32} {a7 : Int32} {a8 : Int32} {a13 : Int64} {a15 : Int64} (k31 : ∀ (σ : DD) (a6 : Int32) (a7 : Int32), K31 σ a6 a7 → gW X w (lim0 w) 19 (QL X w post) σ 31 [(0, .ref (wAd w o)), (3, .ref (wAd w a3)), (4, .ref (wAd w a4)), (5, .int a5), (6, .int a6), (7, .int a7)] []) {σ : DD} (h : w_Text_valueOf_j313 T o m1 m2 a3 n3 a4 n4 K31 post σ a5 a6 a7 a8 a13 a15) : gW X w (lim0 w) 19 (QL X w post) σ 313 [(0, .ref (wAd w o)), (3, .ref (wAd w a3)), (4, .ref (wAd w a4)), (5, .int a5), (6, .int a6), (7, .int a7), (8, .int a8), (13, .long a13), (15, .long a15)] [] := by
  unfold w_Text_valueOf_j313 at h
  refine r_iload C 6 rfl (dk_at dk_Text_valueOf_4 11 rfl) ?_
  by_cases c13 : a8 = 5
  · refine r_tabK C 5 c13 (off := 41) (tgt := 356) (by decide) (dk_at dk_Text_valueOf_4 12 rfl) ?_
    replace h := h.1 c13
    refine r_lload C 7 rfl (dk_at dk_Text_valueOf_4 13 rfl) ?_
    refine r_lload C 8 rfl (dk_at dk_Text_valueOf_4 14 rfl) ?_
    refine r_ladd C (dk_at dk_Text_valueOf_4 15 rfl) ?_
    refine r_topl (fun v14 e15 => ?_)
    replace h := h v14 e15
    refine r_lstore C [(17, .long v14), (0, .ref (wAd w o)), (3, .ref (wAd w a3)), (4, .ref (wAd w a4)), (5, .int a5), (6, .int a6), (7, .int a7), (8, .int a8), (13, .long a13), (15, .long a15)] rfl rfl (dk_at dk_Text_valueOf_4 16 rfl) ?_
    refine r_goto C 457 rfl (dk_at dk_Text_valueOf_4 17 rfl) ?_
    refine r_lv [1, 2, 3, 4, 5, 6, 0] rfl ?_
    exact t_Text_valueOf_j457 C hL hT hy3 hy4 k31 h
  · replace h := h.2 c13
    by_cases c16 : a8 = 6
    · refine r_tabK C 6 c16 (off := 51) (tgt := 366) (by decide) (dk_at dk_Text_valueOf_4 12 rfl) ?_
      replace h := h.1 c16
      refine r_lload C 7 rfl (dk_at dk_Text_valueOf_4 18 rfl) ?_
      refine r_lload C 8 rfl (dk_at dk_Text_valueOf_4 19 rfl) ?_
      refine r_lsub C (dk_at dk_Text_valueOf_4 20 rfl) ?_
      refine r_topl (fun v17 e18 => ?_)
      replace h := h v17 e18
      refine r_lstore C [(17, .long v17), (0, .ref (wAd w o)), (3, .ref (wAd w a3)), (4, .ref (wAd w a4)), (5, .int a5), (6, .int a6), (7, .int a7), (8, .int a8), (13, .long a13), (15, .long a15)] rfl rfl (dk_at dk_Text_valueOf_4 21 rfl) ?_
      refine r_goto C 457 rfl (dk_at dk_Text_valueOf_4 22 rfl) ?_
      refine r_lv [1, 2, 3, 4, 5, 6, 0] rfl ?_
      exact t_Text_valueOf_j457 C hL hT hy3 hy4 k31 h
    · replace h := h.2 c16
      by_cases c19 : a8 = 7
      · refine r_tabK C 7 c19 (off := 61) (tgt := 376) (by decide) (dk_at dk_Text_valueOf_4 12 rfl) ?_
        replace h := h.1 c19
        refine r_lload C 7 rfl (dk_at dk_Text_valueOf_4 23 rfl) ?_
        refine r_lload C 8 rfl (dk_at dk_Text_valueOf_4 24 rfl) ?_
        refine r_lmul C (dk_at dk_Text_valueOf_4 25 rfl) ?_
        refine r_topl (fun v20 e21 => ?_)
        replace h := h v20 e21
        refine r_lstore C [(17, .long v20), (0, .ref (wAd w o)), (3, .ref (wAd w a3)), (4, .ref (wAd w a4)), (5, .int a5), (6, .int a6), (7, .int a7), (8, .int a8), (13, .long a13), (15, .long a15)] rfl rfl (dk_at dk_Text_valueOf_4 26 rfl) ?_
        refine r_goto C 457 rfl (dk_at dk_Text_valueOf_4 27 rfl) ?_
        refine r_lv [1, 2, 3, 4, 5, 6, 0] rfl ?_
        exact t_Text_valueOf_j457 C hL hT hy3 hy4 k31 h
      · replace h := h.2 c19
        by_cases c22 : a8 = 8
        · refine r_tabK C 8 c22 (off := 71) (tgt := 386) (by decide) (dk_at dk_Text_valueOf_4 12 rfl) ?_
          replace h := h.1 c22
          refine r_lload C 7 rfl (dk_at dk_Text_valueOf_4 28 rfl) ?_
          refine r_lload C 8 rfl (dk_at dk_Text_valueOf_4 29 rfl) ?_
          obtain ⟨q23, h⟩ := h
          refine r_ldiv C q23 (dk_at dk_Text_valueOf_4 30 rfl) ?_
          refine r_topl (fun v24 e25 => ?_)
          replace h := h v24 e25
          refine r_lstore C [(17, .long v24), (0, .ref (wAd w o)), (3, .ref (wAd w a3)), (4, .ref (wAd w a4)), (5, .int a5), (6, .int a6), (7, .int a7), (8, .int a8), (13, .long a13), (15, .long a15)] rfl rfl (dk_at dk_Text_valueOf_4 31 rfl) ?_
          refine r_goto C 457 rfl (dk_at dk_Text_valueOf_4 32 rfl) ?_
          refine r_lv [1, 2, 3, 4, 5, 6, 0] rfl ?_
          exact t_Text_valueOf_j457 C hL hT hy3 hy4 k31 h
        · replace h := h.2 c22
          by_cases c26 : a8 = 9
          · refine r_tabK C 9 c26 (off := 81) (tgt := 396) (by decide) (dk_at dk_Text_valueOf_4 12 rfl) ?_
            replace h := h.1 c26
            refine r_lload C 7 rfl (dk_at dk_Text_valueOf_4 33 rfl) ?_
            refine r_lload C 8 rfl (dk_at dk_Text_valueOf_4 34 rfl) ?_
            obtain ⟨q27, h⟩ := h
            refine r_lrem C q27 (dk_at dk_Text_valueOf_4 35 rfl) ?_
            refine r_topl (fun v28 e29 => ?_)
            replace h := h v28 e29
            refine r_lstore C [(17, .long v28), (0, .ref (wAd w o)), (3, .ref (wAd w a3)), (4, .ref (wAd w a4)), (5, .int a5), (6, .int a6), (7, .int a7), (8, .int a8), (13, .long a13), (15, .long a15)] rfl rfl (dk_at dk_Text_valueOf_4 36 rfl) ?_
            refine r_goto C 457 rfl (dk_at dk_Text_valueOf_4 37 rfl) ?_
            refine r_lv [1, 2, 3, 4, 5, 6, 0] rfl ?_
            exact t_Text_valueOf_j457 C hL hT hy3 hy4 k31 h
          · replace h := h.2 c26
            by_cases c30 : a8 = 10
            · refine r_tabK C 10 c30 (off := 91) (tgt := 406) (by decide) (dk_at dk_Text_valueOf_4 12 rfl) ?_
              replace h := h.1 c30
              refine r_lload C 7 rfl (dk_at dk_Text_valueOf_4 38 rfl) ?_
              refine r_lload C 8 rfl (dk_at dk_Text_valueOf_4 39 rfl) ?_
              refine r_lcmp C (dk_at dk_Text_valueOf_5 0 rfl) ?_
              refine r_if_ge C 418 rfl (dk_at dk_Text_valueOf_5 1 rfl) (fun c31 => ?_) (fun c31 => ?_)
              · replace h := h.1 c31
                refine r_lconst C 0 (dk_at dk_Text_valueOf_5 4 rfl) ?_
                refine r_lv [0, 1, 2, 3, 4, 5] rfl ?_
                exact t_Text_valueOf_j419 C hL hT hy3 hy4 k31 h
              · replace h := h.2 c31
                refine r_lconst C 1 (dk_at dk_Text_valueOf_5 2 rfl) ?_
                refine r_goto C 419 rfl (dk_at dk_Text_valueOf_5 3 rfl) ?_
                refine r_lv [0, 1, 2, 3, 4, 5] rfl ?_
                exact t_Text_valueOf_j419 C hL hT hy3 hy4 k31 h
            · replace h := h.2 c30
              by_cases c32 : a8 = 11
              · refine r_tabK C 11 c32 (off := 109) (tgt := 424) (by decide) (dk_at dk_Text_valueOf_4 12 rfl) ?_
                replace h := h.1 c32
                refine r_lload C 7 rfl (dk_at dk_Text_valueOf_5 7 rfl) ?_
                refine r_lload C 8 rfl (dk_at dk_Text_valueOf_5 8 rfl) ?_
                refine r_lcmp C (dk_at dk_Text_valueOf_5 9 rfl) ?_
                refine r_if_le C 436 rfl (dk_at dk_Text_valueOf_5 10 rfl) (fun c33 => ?_) (fun c33 => ?_)
                · replace h := h.1 c33
                  refine r_lconst C 0 (dk_at dk_Text_valueOf_5 13 rfl) ?_
                  refine r_lv [0, 1, 2, 3, 4, 5] rfl ?_
                  exact t_Text_valueOf_j437 C hL hT hy3 hy4 k31 h
                · replace h := h.2 c33
                  refine r_lconst C 1 (dk_at dk_Text_valueOf_5 11 rfl) ?_
                  refine r_goto C 437 rfl (dk_at dk_Text_valueOf_5 12 rfl) ?_
                  refine r_lv [0, 1, 2, 3, 4, 5] rfl ?_
                  exact t_Text_valueOf_j437 C hL hT hy3 hy4 k31 h
              · replace h := h.2 c32
                refine r_tabD C (tgt := 442) (dk_at dk_Text_valueOf_4 12 rfl) (tab_out (fun k h1 h2 => by rcases (show k = 5 ∨ k = 6 ∨ k = 7 ∨ k = 8 ∨ k = 9 ∨ k = 10 ∨ k = 11 by omega) with rfl | rfl | rfl | rfl | rfl | rfl | rfl <;> assumption)) rfl ?_
                refine r_lload C 7 rfl (dk_at dk_Text_valueOf_5 16 rfl) ?_
                refine r_lload C 8 rfl (dk_at dk_Text_valueOf_5 17 rfl) ?_
                refine r_lcmp C (dk_at dk_Text_valueOf_5 18 rfl) ?_
                refine r_if_ne C 454 rfl (dk_at dk_Text_valueOf_5 19 rfl) (fun c34 => ?_) (fun c34 => ?_)
                · replace h := h.1 c34
                  refine r_lconst C 0 (dk_at dk_Text_valueOf_5 22 rfl) ?_
                  refine r_lv [0, 1, 2, 3, 4, 5] rfl ?_
                  exact t_Text_valueOf_j455 C hL hT hy3 hy4 k31 h
                · replace h := h.2 c34
                  refine r_lconst C 1 (dk_at dk_Text_valueOf_5 20 rfl) ?_
                  refine r_goto C 455 rfl (dk_at dk_Text_valueOf_5 21 rfl) ?_
                  refine r_lv [0, 1, 2, 3, 4, 5] rfl ?_
                  exact t_Text_valueOf_j455 C hL hT hy3 hy4 k31 h
set_option maxRecDepth 20000 in
theorem t_Text_valueOf_j125 {X : CT} {w : WO} (C : CF X w (lim0 w) 19 cX8_valueOf RX8 (some .long) (.code yX8_valueOf cX8_valueOf 19 (some .long)) (rmK 0 0)) {T : TXT} {z : EXa} (hL : LyX w T z) {o : Nat} {m1 : Nat} {m2 : Nat} {a3 : Nat} {n3 : Nat} {a4 : Nat} {n4 : Nat} (hT : isT w o m1 m2) (hy3 : wLy w a3 = some (lI 0 n3)) (hy4 : wLy w a4 = some (lJ n4)) {K31 : DD → Int32 → Int32 → Prop} {post : Int64 → DD → Prop} {a5 : Int32} {a6 : Int32} {a7 : Int32} {a8 : Int32} {a9 : Int32} {a10 : Int32} {a11 : Int32} {t0 : Int32} (k31 : ∀ (σ : DD) (a6 : Int32) (a7 : Int32), K31 σ a6 a7 → gW X w (lim0 w) 19 (QL X w post) σ 31 [(0, .ref (wAd w o)), (3, .ref (wAd w a3)), (4, .ref (wAd w a4)), (5, .int a5), (6, .int a6), (7, .int a7)] []) {σ : DD} (h : w_Text_valueOf_j125 T o m1 m2 a3 n3 a4 n4 K31 post σ a5 a6 a7 a8 a9 a10 a11 t0) : gW X w (lim0 w) 19 (QL X w post) σ 125 [(0, .ref (wAd w o)), (3, .ref (wAd w a3)), (4, .ref (wAd w a4)), (5, .int a5), (6, .int a6), (7, .int a7), (8, .int a8), (9, .int a9), (10, .int a10), (11, .int a11)] [.int t0] := by
  unfold w_Text_valueOf_j125 at h
  refine r_istore C [(12, .int t0), (0, .ref (wAd w o)), (3, .ref (wAd w a3)), (4, .ref (wAd w a4)), (5, .int a5), (6, .int a6), (7, .int a7), (8, .int a8), (9, .int a9), (10, .int a10), (11, .int a11)] rfl rfl (dk_at dk_Text_valueOf_1 33 rfl) ?_
  refine r_iload C 5 rfl (dk_at dk_Text_valueOf_1 34 rfl) ?_
  refine r_iload C 9 rfl (dk_at dk_Text_valueOf_1 35 rfl) ?_
  refine r_icmp_lt C 146 rfl (dk_at dk_Text_valueOf_1 36 rfl) (fun c35 => ?_) (fun c35 => ?_)
  · replace h := h.1 c35
    refine r_ldc2 C tw_530 (dk_at dk_Text_valueOf_2 2 rfl) ?_
    exact r_lret C h (dk_at dk_Text_valueOf_2 3 rfl)
  · replace h := h.2 c35
    refine r_iload C 5 rfl (dk_at dk_Text_valueOf_1 37 rfl) ?_
    refine r_iload C 0 rfl (dk_at dk_Text_valueOf_1 38 rfl) ?_
    refine r_icmp_gt C 146 rfl (dk_at dk_Text_valueOf_1 39 rfl) (fun c36 => ?_) (fun c36 => ?_)
    · replace h := h.1 c36
      refine r_ldc2 C tw_530 (dk_at dk_Text_valueOf_2 2 rfl) ?_
      exact r_lret C h (dk_at dk_Text_valueOf_2 3 rfl)
    · replace h := h.2 c36
      refine r_iload C 10 rfl (dk_at dk_Text_valueOf_2 0 rfl) ?_
      refine r_if_ne C 150 rfl (dk_at dk_Text_valueOf_2 1 rfl) (fun c37 => ?_) (fun c37 => ?_)
      · replace h := h.1 c37
        refine r_iload C 9 rfl (dk_at dk_Text_valueOf_2 4 rfl) ?_
        refine r_if_ne C 182 rfl (dk_at dk_Text_valueOf_2 5 rfl) (fun c38 => ?_) (fun c38 => ?_)
        · replace h := h.1 c38
          refine r_iload C 7 rfl (dk_at dk_Text_valueOf_2 20 rfl) ?_
          refine r_iconst C 2 (dk_at dk_Text_valueOf_2 21 rfl) ?_
          refine r_icmp_ne C 207 rfl (dk_at dk_Text_valueOf_2 22 rfl) (fun c39 => ?_) (fun c39 => ?_)
          · replace h := h.1 c39
            refine r_iload C 7 rfl (dk_at dk_Text_valueOf_2 36 rfl) ?_
            refine r_iconst C 3 (dk_at dk_Text_valueOf_2 37 rfl) ?_
            refine r_icmp_eq C 219 rfl (dk_at dk_Text_valueOf_2 38 rfl) (fun c40 => ?_) (fun c40 => ?_)
            · replace h := h.1 c40
              refine r_lv [1, 2, 3, 4, 5, 6, 7, 8] rfl ?_
              exact t_Text_valueOf_j219 C hL hT hy3 hy4 k31 h
            · replace h := h.2 c40
              refine r_iload C 7 rfl (dk_at dk_Text_valueOf_2 39 rfl) ?_
              refine r_iconst C 4 (dk_at dk_Text_valueOf_3 0 rfl) ?_
              refine r_icmp_ne C 269 rfl (dk_at dk_Text_valueOf_3 1 rfl) (fun c41 => ?_) (fun c41 => ?_)
              · replace h := h.1 c41
                refine r_iinc C 5 rfl (iincM (m := (-1)) (by decide)) [(6, .int (a6 + (-1))), (12, .int t0), (0, .ref (wAd w o)), (3, .ref (wAd w a3)), (4, .ref (wAd w a4)), (5, .int a5), (7, .int a7), (8, .int a8), (9, .int a9), (10, .int a10), (11, .int a11)] rfl rfl (dk_at dk_Text_valueOf_3 28 rfl) ?_
                refine r_aload C 4 rfl (dk_at dk_Text_valueOf_3 29 rfl) ?_
                refine r_iload C 0 rfl (dk_at dk_Text_valueOf_3 30 rfl) ?_
                refine r_iconst C 1 (dk_at dk_Text_valueOf_3 31 rfl) ?_
                refine r_isub C (dk_at dk_Text_valueOf_3 32 rfl) ?_
                obtain ⟨q42, h⟩ := h
                refine r_lald C a4 hy4 q42 (dk_at dk_Text_valueOf_3 33 rfl) ?_
                refine r_topl (fun v43 e44 => ?_)
                replace h := h v43 e44
                refine r_lstore C [(13, .long v43), (6, .int (a6 + (-1))), (12, .int t0), (0, .ref (wAd w o)), (3, .ref (wAd w a3)), (4, .ref (wAd w a4)), (5, .int a5), (7, .int a7), (8, .int a8), (9, .int a9), (10, .int a10), (11, .int a11)] rfl rfl (dk_at dk_Text_valueOf_3 34 rfl) ?_
                refine r_aload C 5 rfl (dk_at dk_Text_valueOf_3 35 rfl) ?_
                refine r_iload C 1 rfl (dk_at dk_Text_valueOf_3 36 rfl) ?_
                obtain ⟨q45, h⟩ := h
                refine r_lald C a4 hy4 q45 (dk_at dk_Text_valueOf_3 37 rfl) ?_
                refine r_topl (fun v46 e47 => ?_)
                replace h := h v46 e47
                refine r_lstore C [(15, .long v46), (13, .long v43), (6, .int (a6 + (-1))), (12, .int t0), (0, .ref (wAd w o)), (3, .ref (wAd w a3)), (4, .ref (wAd w a4)), (5, .int a5), (7, .int a7), (8, .int a8), (9, .int a9), (10, .int a10), (11, .int a11)] rfl rfl (dk_at dk_Text_valueOf_3 38 rfl) ?_
                refine r_lload C 0 rfl (dk_at dk_Text_valueOf_3 39 rfl) ?_
                refine r_lconst C 0 (dk_at dk_Text_valueOf_4 0 rfl) ?_
                refine r_lcmp C (dk_at dk_Text_valueOf_4 1 rfl) ?_
                refine r_if_ne C 313 rfl (dk_at dk_Text_valueOf_4 2 rfl) (fun c48 => ?_) (fun c48 => ?_)
                · replace h := h.1 c48
                  refine r_lv [4, 5, 6, 7, 2, 8, 9, 1, 0] rfl ?_
                  exact t_Text_valueOf_j313 C hL hT hy3 hy4 k31 h
                · replace h := h.2 c48
                  refine r_iload C 9 rfl (dk_at dk_Text_valueOf_4 3 rfl) ?_
                  refine r_bipush C 8 (dk_at dk_Text_valueOf_4 4 rfl) ?_
                  refine r_icmp_eq C 309 rfl (dk_at dk_Text_valueOf_4 5 rfl) (fun c49 => ?_) (fun c49 => ?_)
                  · replace h := h.1 c49
                    refine r_ldc2 C tw_530 (dk_at dk_Text_valueOf_4 9 rfl) ?_
                    exact r_lret C h (dk_at dk_Text_valueOf_4 10 rfl)
                  · replace h := h.2 c49
                    refine r_iload C 9 rfl (dk_at dk_Text_valueOf_4 6 rfl) ?_
                    refine r_bipush C 9 (dk_at dk_Text_valueOf_4 7 rfl) ?_
                    refine r_icmp_ne C 313 rfl (dk_at dk_Text_valueOf_4 8 rfl) (fun c50 => ?_) (fun c50 => ?_)
                    · replace h := h.1 c50
                      refine r_lv [4, 5, 6, 7, 2, 8, 9, 1, 0] rfl ?_
                      exact t_Text_valueOf_j313 C hL hT hy3 hy4 k31 h
                    · replace h := h.2 c50
                      refine r_ldc2 C tw_530 (dk_at dk_Text_valueOf_4 9 rfl) ?_
                      exact r_lret C h (dk_at dk_Text_valueOf_4 10 rfl)
              · replace h := h.2 c41
                refine r_lv [1, 2, 3, 4, 5, 6, 7, 8] rfl ?_
                exact t_Text_valueOf_j219 C hL hT hy3 hy4 k31 h
          · replace h := h.2 c39
            refine r_aload C 3 rfl (dk_at dk_Text_valueOf_2 23 rfl) ?_
            refine r_iload C 5 rfl (dk_at dk_Text_valueOf_2 24 rfl) ?_
            refine r_iconst C 1 (dk_at dk_Text_valueOf_2 25 rfl) ?_
            refine r_isub C (dk_at dk_Text_valueOf_2 26 rfl) ?_
            refine r_lconst C 1 (dk_at dk_Text_valueOf_2 27 rfl) ?_
            refine r_aload C 3 rfl (dk_at dk_Text_valueOf_2 28 rfl) ?_
            refine r_iload C 5 rfl (dk_at dk_Text_valueOf_2 29 rfl) ?_
            refine r_iconst C 1 (dk_at dk_Text_valueOf_2 30 rfl) ?_
            refine r_isub C (dk_at dk_Text_valueOf_2 31 rfl) ?_
            obtain ⟨q51, h⟩ := h
            refine r_lald C a4 hy4 q51 (dk_at dk_Text_valueOf_2 32 rfl) ?_
            refine r_lsub C (dk_at dk_Text_valueOf_2 33 rfl) ?_
            obtain ⟨q54, h⟩ := h
            refine r_last C a4 hy4 q54 (dk_at dk_Text_valueOf_2 34 rfl) (r_sg (fun σ52 e53 => ?_))
            replace h := h σ52 e53
            refine r_goto C 488 rfl (dk_at dk_Text_valueOf_2 35 rfl) ?_
            refine r_iinc C 6 rfl rfl [(7, .int (a7 + 1)), (12, .int t0), (0, .ref (wAd w o)), (3, .ref (wAd w a3)), (4, .ref (wAd w a4)), (5, .int a5), (6, .int a6), (8, .int a8), (9, .int a9), (10, .int a10), (11, .int a11)] rfl rfl (dk_at dk_Text_valueOf_6 0 rfl) ?_
            refine r_goto C 31 rfl (dk_at dk_Text_valueOf_6 1 rfl) ?_
            refine r_lv [2, 3, 4, 5, 6, 0] rfl ?_
            exact k31 _ _ _ h
        · replace h := h.2 c38
          refine r_aload C 3 rfl (dk_at dk_Text_valueOf_2 6 rfl) ?_
          refine r_iload C 5 rfl (dk_at dk_Text_valueOf_2 7 rfl) ?_
          refine r_iload C 7 rfl (dk_at dk_Text_valueOf_2 8 rfl) ?_
          refine r_if_ne C 170 rfl (dk_at dk_Text_valueOf_2 9 rfl) (fun c55 => ?_) (fun c55 => ?_)
          · replace h := h.1 c55
            refine r_aload_n C 2 rfl (dk_at dk_Text_valueOf_2 13 rfl) ?_
            refine r_iload C 8 rfl (dk_at dk_Text_valueOf_2 14 rfl) ?_
            obtain ⟨q56, h⟩ := h
            refine r_iald C a3 hy3 q56 (dk_at dk_Text_valueOf_2 15 rfl) ?_
            refine r_i2l C (dk_at dk_Text_valueOf_2 16 rfl) ?_
            refine r_lv [1, 2, 3, 4, 5, 6] rfl ?_
            exact t_Text_valueOf_j175 C hL hT hy3 hy4 k31 h
          · replace h := h.2 c55
            refine r_iload C 8 rfl (dk_at dk_Text_valueOf_2 10 rfl) ?_
            refine r_i2l C (dk_at dk_Text_valueOf_2 11 rfl) ?_
            refine r_goto C 175 rfl (dk_at dk_Text_valueOf_2 12 rfl) ?_
            refine r_lv [1, 2, 3, 4, 5, 6] rfl ?_
            exact t_Text_valueOf_j175 C hL hT hy3 hy4 k31 h
      · replace h := h.2 c37
        refine r_ldc2 C tw_530 (dk_at dk_Text_valueOf_2 2 rfl) ?_
        exact r_lret C h (dk_at dk_Text_valueOf_2 3 rfl)
set_option maxRecDepth 20000 in
theorem t_Text_valueOf_j107 {X : CT} {w : WO} (C : CF X w (lim0 w) 19 cX8_valueOf RX8 (some .long) (.code yX8_valueOf cX8_valueOf 19 (some .long)) (rmK 0 0)) {T : TXT} {z : EXa} (hL : LyX w T z) {o : Nat} {m1 : Nat} {m2 : Nat} {a3 : Nat} {n3 : Nat} {a4 : Nat} {n4 : Nat} (hT : isT w o m1 m2) (hy3 : wLy w a3 = some (lI 0 n3)) (hy4 : wLy w a4 = some (lJ n4)) {K31 : DD → Int32 → Int32 → Prop} {post : Int64 → DD → Prop} {a5 : Int32} {a6 : Int32} {a7 : Int32} {a8 : Int32} {a9 : Int32} {a10 : Int32} {t0 : Int32} (k31 : ∀ (σ : DD) (a6 : Int32) (a7 : Int32), K31 σ a6 a7 → gW X w (lim0 w) 19 (QL X w post) σ 31 [(0, .ref (wAd w o)), (3, .ref (wAd w a3)), (4, .ref (wAd w a4)), (5, .int a5), (6, .int a6), (7, .int a7)] []) {σ : DD} (h : w_Text_valueOf_j107 T o m1 m2 a3 n3 a4 n4 K31 post σ a5 a6 a7 a8 a9 a10 t0) : gW X w (lim0 w) 19 (QL X w post) σ 107 [(0, .ref (wAd w o)), (3, .ref (wAd w a3)), (4, .ref (wAd w a4)), (5, .int a5), (6, .int a6), (7, .int a7), (8, .int a8), (9, .int a9), (10, .int a10)] [.int t0] := by
  unfold w_Text_valueOf_j107 at h
  refine r_istore C [(11, .int t0), (0, .ref (wAd w o)), (3, .ref (wAd w a3)), (4, .ref (wAd w a4)), (5, .int a5), (6, .int a6), (7, .int a7), (8, .int a8), (9, .int a9), (10, .int a10)] rfl rfl (dk_at dk_Text_valueOf_1 23 rfl) ?_
  refine r_iload C 9 rfl (dk_at dk_Text_valueOf_1 24 rfl) ?_
  refine r_if_ne C 122 rfl (dk_at dk_Text_valueOf_1 25 rfl) (fun c57 => ?_) (fun c57 => ?_)
  · replace h := h.1 c57
    refine r_aload C 3 rfl (dk_at dk_Text_valueOf_1 31 rfl) ?_
    refine r_alenJ C a4 hy4 _ rfl (dk_at dk_Text_valueOf_1 32 rfl) ?_
    refine r_lv [1, 2, 3, 4, 5, 6, 7, 8, 9, 0] rfl ?_
    exact t_Text_valueOf_j125 C hL hT hy3 hy4 k31 h
  · replace h := h.2 c57
    refine r_aload C 3 rfl (dk_at dk_Text_valueOf_1 26 rfl) ?_
    refine r_alenJ C a4 hy4 _ rfl (dk_at dk_Text_valueOf_1 27 rfl) ?_
    refine r_iconst C 1 (dk_at dk_Text_valueOf_1 28 rfl) ?_
    refine r_isub C (dk_at dk_Text_valueOf_1 29 rfl) ?_
    refine r_goto C 125 rfl (dk_at dk_Text_valueOf_1 30 rfl) ?_
    refine r_lv [1, 2, 3, 4, 5, 6, 7, 8, 9, 0] rfl ?_
    exact t_Text_valueOf_j125 C hL hT hy3 hy4 k31 h
set_option maxRecDepth 20000 in
theorem t_Text_valueOf_j102 {X : CT} {w : WO} (C : CF X w (lim0 w) 19 cX8_valueOf RX8 (some .long) (.code yX8_valueOf cX8_valueOf 19 (some .long)) (rmK 0 0)) {T : TXT} {z : EXa} (hL : LyX w T z) {o : Nat} {m1 : Nat} {m2 : Nat} {a3 : Nat} {n3 : Nat} {a4 : Nat} {n4 : Nat} (hT : isT w o m1 m2) (hy3 : wLy w a3 = some (lI 0 n3)) (hy4 : wLy w a4 = some (lJ n4)) {K31 : DD → Int32 → Int32 → Prop} {post : Int64 → DD → Prop} {a5 : Int32} {a6 : Int32} {a7 : Int32} {a8 : Int32} {a9 : Int32} {a10 : Int32} (k31 : ∀ (σ : DD) (a6 : Int32) (a7 : Int32), K31 σ a6 a7 → gW X w (lim0 w) 19 (QL X w post) σ 31 [(0, .ref (wAd w o)), (3, .ref (wAd w a3)), (4, .ref (wAd w a4)), (5, .int a5), (6, .int a6), (7, .int a7)] []) {σ : DD} (h : w_Text_valueOf_j102 T o m1 m2 a3 n3 a4 n4 K31 post σ a5 a6 a7 a8 a9 a10) : gW X w (lim0 w) 19 (QL X w post) σ 102 [(0, .ref (wAd w o)), (3, .ref (wAd w a3)), (4, .ref (wAd w a4)), (5, .int a5), (6, .int a6), (7, .int a7), (8, .int a8), (9, .int a9), (10, .int a10)] [] := by
  unfold w_Text_valueOf_j102 at h
  refine r_iconst C 1 (dk_at dk_Text_valueOf_1 20 rfl) ?_
  refine r_goto C 107 rfl (dk_at dk_Text_valueOf_1 21 rfl) ?_
  refine r_lv [0, 1, 2, 3, 4, 5, 6, 7, 8] rfl ?_
  exact t_Text_valueOf_j107 C hL hT hy3 hy4 k31 h
set_option maxRecDepth 20000 in
theorem t_Text_valueOf_j87 {X : CT} {w : WO} (C : CF X w (lim0 w) 19 cX8_valueOf RX8 (some .long) (.code yX8_valueOf cX8_valueOf 19 (some .long)) (rmK 0 0)) {T : TXT} {z : EXa} (hL : LyX w T z) {o : Nat} {m1 : Nat} {m2 : Nat} {a3 : Nat} {n3 : Nat} {a4 : Nat} {n4 : Nat} (hT : isT w o m1 m2) (hy3 : wLy w a3 = some (lI 0 n3)) (hy4 : wLy w a4 = some (lJ n4)) {K31 : DD → Int32 → Int32 → Prop} {post : Int64 → DD → Prop} {a5 : Int32} {a6 : Int32} {a7 : Int32} {a8 : Int32} {a9 : Int32} {t0 : Int32} (k31 : ∀ (σ : DD) (a6 : Int32) (a7 : Int32), K31 σ a6 a7 → gW X w (lim0 w) 19 (QL X w post) σ 31 [(0, .ref (wAd w o)), (3, .ref (wAd w a3)), (4, .ref (wAd w a4)), (5, .int a5), (6, .int a6), (7, .int a7)] []) {σ : DD} (h : w_Text_valueOf_j87 T o m1 m2 a3 n3 a4 n4 K31 post σ a5 a6 a7 a8 a9 t0) : gW X w (lim0 w) 19 (QL X w post) σ 87 [(0, .ref (wAd w o)), (3, .ref (wAd w a3)), (4, .ref (wAd w a4)), (5, .int a5), (6, .int a6), (7, .int a7), (8, .int a8), (9, .int a9)] [.int t0] := by
  unfold w_Text_valueOf_j87 at h
  refine r_istore C [(10, .int t0), (0, .ref (wAd w o)), (3, .ref (wAd w a3)), (4, .ref (wAd w a4)), (5, .int a5), (6, .int a6), (7, .int a7), (8, .int a8), (9, .int a9)] rfl rfl (dk_at dk_Text_valueOf_1 12 rfl) ?_
  refine r_iload C 7 rfl (dk_at dk_Text_valueOf_1 13 rfl) ?_
  refine r_iconst C 1 (dk_at dk_Text_valueOf_1 14 rfl) ?_
  refine r_icmp_ne C 102 rfl (dk_at dk_Text_valueOf_1 15 rfl) (fun c58 => ?_) (fun c58 => ?_)
  · replace h := h.1 c58
    refine r_lv [1, 2, 3, 4, 5, 6, 7, 8, 0] rfl ?_
    exact t_Text_valueOf_j102 C hL hT hy3 hy4 k31 h
  · replace h := h.2 c58
    refine r_iload C 8 rfl (dk_at dk_Text_valueOf_1 16 rfl) ?_
    refine r_aload_n C 2 rfl (dk_at dk_Text_valueOf_1 17 rfl) ?_
    refine r_alenI C a3 hy3 (by decide) _ rfl (dk_at dk_Text_valueOf_1 18 rfl) ?_
    refine r_icmp_ge C 106 rfl (dk_at dk_Text_valueOf_1 19 rfl) (fun c59 => ?_) (fun c59 => ?_)
    · replace h := h.1 c59
      refine r_iconst C 0 (dk_at dk_Text_valueOf_1 22 rfl) ?_
      refine r_lv [1, 2, 3, 4, 5, 6, 7, 8, 0] rfl ?_
      exact t_Text_valueOf_j107 C hL hT hy3 hy4 k31 h
    · replace h := h.2 c59
      refine r_lv [1, 2, 3, 4, 5, 6, 7, 8, 0] rfl ?_
      exact t_Text_valueOf_j102 C hL hT hy3 hy4 k31 h
set_option maxRecDepth 20000 in
theorem t_Text_valueOf_j72 {X : CT} {w : WO} (C : CF X w (lim0 w) 19 cX8_valueOf RX8 (some .long) (.code yX8_valueOf cX8_valueOf 19 (some .long)) (rmK 0 0)) {T : TXT} {z : EXa} (hL : LyX w T z) {o : Nat} {m1 : Nat} {m2 : Nat} {a3 : Nat} {n3 : Nat} {a4 : Nat} {n4 : Nat} (hT : isT w o m1 m2) (hy3 : wLy w a3 = some (lI 0 n3)) (hy4 : wLy w a4 = some (lJ n4)) {K31 : DD → Int32 → Int32 → Prop} {post : Int64 → DD → Prop} {a5 : Int32} {a6 : Int32} {a7 : Int32} {a8 : Int32} {a9 : Int32} (k31 : ∀ (σ : DD) (a6 : Int32) (a7 : Int32), K31 σ a6 a7 → gW X w (lim0 w) 19 (QL X w post) σ 31 [(0, .ref (wAd w o)), (3, .ref (wAd w a3)), (4, .ref (wAd w a4)), (5, .int a5), (6, .int a6), (7, .int a7)] []) {σ : DD} (h : w_Text_valueOf_j72 T o m1 m2 a3 n3 a4 n4 K31 post σ a5 a6 a7 a8 a9) : gW X w (lim0 w) 19 (QL X w post) σ 72 [(0, .ref (wAd w o)), (3, .ref (wAd w a3)), (4, .ref (wAd w a4)), (5, .int a5), (6, .int a6), (7, .int a7), (8, .int a8), (9, .int a9)] [] := by
  unfold w_Text_valueOf_j72 at h
  refine r_iconst C 0 (dk_at dk_Text_valueOf_1 4 rfl) ?_
  refine r_goto C 87 rfl (dk_at dk_Text_valueOf_1 5 rfl) ?_
  refine r_lv [0, 1, 2, 3, 4, 5, 6, 7] rfl ?_
  exact t_Text_valueOf_j87 C hL hT hy3 hy4 k31 h
set_option maxRecDepth 20000 in
theorem t_Text_valueOf_b31 {X : CT} {w : WO} (C : CF X w (lim0 w) 19 cX8_valueOf RX8 (some .long) (.code yX8_valueOf cX8_valueOf 19 (some .long)) (rmK 0 0)) {T : TXT} {z : EXa} (hL : LyX w T z) {o : Nat} {m1 : Nat} {m2 : Nat} {a3 : Nat} {n3 : Nat} {a4 : Nat} {n4 : Nat} (hT : isT w o m1 m2) (hy3 : wLy w a3 = some (lI 0 n3)) (hy4 : wLy w a4 = some (lJ n4)) {a5 : Int32} {K31 : DD → Int32 → Int32 → Prop} {post : Int64 → DD → Prop} (k31 : ∀ (σ : DD) (a6 : Int32) (a7 : Int32), K31 σ a6 a7 → gW X w (lim0 w) 19 (QL X w post) σ 31 [(0, .ref (wAd w o)), (3, .ref (wAd w a3)), (4, .ref (wAd w a4)), (5, .int a5), (6, .int a6), (7, .int a7)] []) {σ : DD} {a6 : Int32} {a7 : Int32} (h : w_Text_valueOf_b31 T o m1 m2 a3 n3 a4 n4 a5 K31 post σ a6 a7) : gW X w (lim0 w) 19 (QL X w post) σ 31 [(0, .ref (wAd w o)), (3, .ref (wAd w a3)), (4, .ref (wAd w a4)), (5, .int a5), (6, .int a6), (7, .int a7)] [] := by
  unfold w_Text_valueOf_b31 at h
  refine r_iload C 5 rfl (dk_at dk_Text_valueOf_0 22 rfl) ?_
  refine r_iload C 3 rfl (dk_at dk_Text_valueOf_0 23 rfl) ?_
  refine r_icmp_ge C 494 rfl (dk_at dk_Text_valueOf_0 24 rfl) (fun c60 => ?_) (fun c60 => ?_)
  · replace h := h.1 c60
    refine r_iload C 4 rfl (dk_at dk_Text_valueOf_6 2 rfl) ?_
    refine r_if_ne C 503 rfl (dk_at dk_Text_valueOf_6 3 rfl) (fun c61 => ?_) (fun c61 => ?_)
    · replace h := h.1 c61
      refine r_aload C 2 rfl (dk_at dk_Text_valueOf_6 6 rfl) ?_
      refine r_iconst C 0 (dk_at dk_Text_valueOf_6 7 rfl) ?_
      obtain ⟨q62, h⟩ := h
      refine r_laldK C a4 hy4 lk_0 q62 (dk_at dk_Text_valueOf_6 8 rfl) ?_
      exact r_lret C h (dk_at dk_Text_valueOf_6 9 rfl)
    · replace h := h.2 c61
      refine r_lconst C 1 (dk_at dk_Text_valueOf_6 4 rfl) ?_
      refine r_goto C 507 rfl (dk_at dk_Text_valueOf_6 5 rfl) ?_
      exact r_lret C h (dk_at dk_Text_valueOf_6 9 rfl)
  · replace h := h.2 c60
    refine r_aload_n C 0 rfl (dk_at dk_Text_valueOf_0 25 rfl) ?_
    refine r_getR C fl_Text_7 o hT.1 rfl (dk_at dk_Text_valueOf_0 26 rfl) ?_
    refine r_iload C 5 rfl (dk_at dk_Text_valueOf_0 27 rfl) ?_
    obtain ⟨q63, h⟩ := h
    refine r_iald C (o + 3) hT.2.1 q63 (dk_at dk_Text_valueOf_0 28 rfl) ?_
    refine r_bipush C 15 (dk_at dk_Text_valueOf_0 29 rfl) ?_
    refine r_iand C (dk_at dk_Text_valueOf_0 30 rfl) ?_
    refine r_topi (fun v64 e65 => ?_)
    replace h := h v64 e65
    refine r_istore C [(8, .int v64), (0, .ref (wAd w o)), (3, .ref (wAd w a3)), (4, .ref (wAd w a4)), (5, .int a5), (6, .int a6), (7, .int a7)] rfl rfl (dk_at dk_Text_valueOf_0 31 rfl) ?_
    refine r_aload_n C 1 rfl (dk_at dk_Text_valueOf_0 32 rfl) ?_
    refine r_getR C fl_Text_7 o hT.1 rfl (dk_at dk_Text_valueOf_0 33 rfl) ?_
    refine r_iload C 6 rfl (dk_at dk_Text_valueOf_0 34 rfl) ?_
    obtain ⟨q66, h⟩ := h
    refine r_iald C (o + 3) hT.2.1 q66 (dk_at dk_Text_valueOf_0 35 rfl) ?_
    refine r_iconst C 4 (dk_at dk_Text_valueOf_0 36 rfl) ?_
    refine r_ishr C (dk_at dk_Text_valueOf_0 37 rfl) ?_
    refine r_topi (fun v67 e68 => ?_)
    replace h := h v67 e68
    refine r_istore C [(9, .int v67), (8, .int v64), (0, .ref (wAd w o)), (3, .ref (wAd w a3)), (4, .ref (wAd w a4)), (5, .int a5), (6, .int a6), (7, .int a7)] rfl rfl (dk_at dk_Text_valueOf_0 38 rfl) ?_
    refine r_iload C 1 rfl (dk_at dk_Text_valueOf_0 39 rfl) ?_
    refine r_if_eq C 72 rfl (dk_at dk_Text_valueOf_1 0 rfl) (fun c69 => ?_) (fun c69 => ?_)
    · replace h := h.1 c69
      refine r_lv [2, 3, 4, 5, 6, 7, 1, 0] rfl ?_
      exact t_Text_valueOf_j72 C hL hT hy3 hy4 k31 h
    · replace h := h.2 c69
      refine r_iload C 1 rfl (dk_at dk_Text_valueOf_1 1 rfl) ?_
      refine r_iconst C 1 (dk_at dk_Text_valueOf_1 2 rfl) ?_
      refine r_icmp_ne C 76 rfl (dk_at dk_Text_valueOf_1 3 rfl) (fun c70 => ?_) (fun c70 => ?_)
      · replace h := h.1 c70
        refine r_iload C 1 rfl (dk_at dk_Text_valueOf_1 6 rfl) ?_
        refine r_iconst C 4 (dk_at dk_Text_valueOf_1 7 rfl) ?_
        refine r_icmp_gt C 86 rfl (dk_at dk_Text_valueOf_1 8 rfl) (fun c71 => ?_) (fun c71 => ?_)
        · replace h := h.1 c71
          refine r_iconst C 2 (dk_at dk_Text_valueOf_1 11 rfl) ?_
          refine r_lv [2, 3, 4, 5, 6, 7, 1, 0] rfl ?_
          exact t_Text_valueOf_j87 C hL hT hy3 hy4 k31 h
        · replace h := h.2 c71
          refine r_iconst C 1 (dk_at dk_Text_valueOf_1 9 rfl) ?_
          refine r_goto C 87 rfl (dk_at dk_Text_valueOf_1 10 rfl) ?_
          refine r_lv [2, 3, 4, 5, 6, 7, 1, 0] rfl ?_
          exact t_Text_valueOf_j87 C hL hT hy3 hy4 k31 h
      · replace h := h.2 c70
        refine r_lv [2, 3, 4, 5, 6, 7, 1, 0] rfl ?_
        exact t_Text_valueOf_j72 C hL hT hy3 hy4 k31 h
set_option maxRecDepth 20000 in
theorem t_Text_valueOf_l31 {X : CT} {w : WO} (C : CF X w (lim0 w) 19 cX8_valueOf RX8 (some .long) (.code yX8_valueOf cX8_valueOf 19 (some .long)) (rmK 0 0)) {T : TXT} {z : EXa} (hL : LyX w T z) {o : Nat} {m1 : Nat} {m2 : Nat} {a3 : Nat} {n3 : Nat} {a4 : Nat} {n4 : Nat} (hT : isT w o m1 m2) (hy3 : wLy w a3 = some (lI 0 n3)) (hy4 : wLy w a4 = some (lJ n4)) {a5 : Int32} {post : Int64 → DD → Prop} {σ : DD} {a6 : Int32} {a7 : Int32} (h : w_Text_valueOf_l31 T o m1 m2 a3 n3 a4 n4 post σ a5 a6 a7) : gW X w (lim0 w) 19 (QL X w post) σ 31 [(0, .ref (wAd w o)), (3, .ref (wAd w a3)), (4, .ref (wAd w a4)), (5, .int a5), (6, .int a6), (7, .int a7)] [] :=
  LoopW (G := fun x : DD × Int32 × Int32 => gW X w (lim0 w) 19 (QL X w post) x.1 31 [(0, .ref (wAd w o)), (3, .ref (wAd w a3)), (4, .ref (wAd w a4)), (5, .int a5), (6, .int x.2.1), (7, .int x.2.2)] []) (fun K x hK hF => t_Text_valueOf_b31 C hL hT hy3 hy4 (fun σ a6 a7 q => hK (σ, a6, a7) q) hF) h
set_option maxRecDepth 20000 in
theorem m_Text_valueOf {l : Launch} {w : WO} {T : TXT} {z : EXa} (hL : LyX w T z) {o : Nat} {m1 : Nat} {m2 : Nat} {a3 : Nat} {n3 : Nat} {a4 : Nat} {n4 : Nat} (hT : isT w o m1 m2) (hy3 : wLy w a3 = some (lI 0 n3)) (hy4 : wLy w a4 = some (lJ n4)) {σ : DD} {a1 : Int32} {a2 : Int32} {post : Int64 → DD → Prop} (h : w_Text_valueOf T o m1 m2 a3 n3 a4 n4 σ a1 a2 post) : ML l w yX8_valueOf cX8_valueOf 19 (rmK 0 0) σ [.ref (wAd w o), .int a1, .int a2, .ref (wAd w a3), .ref (wAd w a4)] post :=
  met_head (rt := (some .long)) (by decide) rfl (fun X hX C => by
  subst hX
  unfold w_Text_valueOf at h
  show gW X w (lim0 w) 19 (QL X w post) σ 0 [(0, .ref (wAd w o)), (1, .int a1), (2, .int a2), (3, .ref (wAd w a3)), (4, .ref (wAd w a4))] []
  refine r_aload_n C 0 rfl (dk_at dk_Text_valueOf_0 0 rfl) ?_
  refine r_getR C fl_Text_13 o hT.1 rfl (dk_at dk_Text_valueOf_0 1 rfl) ?_
  refine r_iload_n C 1 rfl (dk_at dk_Text_valueOf_0 2 rfl) ?_
  refine r_bipush C 6 (dk_at dk_Text_valueOf_0 3 rfl) ?_
  refine r_imul C (dk_at dk_Text_valueOf_0 4 rfl) ?_
  refine r_iload_n C 2 rfl (dk_at dk_Text_valueOf_0 5 rfl) ?_
  refine r_iadd C (dk_at dk_Text_valueOf_0 6 rfl) ?_
  refine r_iconst C 1 (dk_at dk_Text_valueOf_0 7 rfl) ?_
  refine r_iadd C (dk_at dk_Text_valueOf_0 8 rfl) ?_
  obtain ⟨q72, h⟩ := h
  refine r_iald C (o + 4) hT.2.2 q72 (dk_at dk_Text_valueOf_0 9 rfl) ?_
  refine r_topi (fun v73 e74 => ?_)
  replace h := h v73 e74
  refine r_istore C [(5, .int v73), (0, .ref (wAd w o)), (1, .int a1), (2, .int a2), (3, .ref (wAd w a3)), (4, .ref (wAd w a4))] rfl rfl (dk_at dk_Text_valueOf_0 10 rfl) ?_
  refine r_iconst C 0 (dk_at dk_Text_valueOf_0 11 rfl) ?_
  refine r_istore C [(6, .int 0), (5, .int v73), (0, .ref (wAd w o)), (1, .int a1), (2, .int a2), (3, .ref (wAd w a3)), (4, .ref (wAd w a4))] rfl rfl (dk_at dk_Text_valueOf_0 12 rfl) ?_
  refine r_aload_n C 2 rfl (dk_at dk_Text_valueOf_0 13 rfl) ?_
  refine r_getR C fl_Text_13 o hT.1 rfl (dk_at dk_Text_valueOf_0 14 rfl) ?_
  refine r_iload_n C 3 rfl (dk_at dk_Text_valueOf_0 15 rfl) ?_
  refine r_bipush C 6 (dk_at dk_Text_valueOf_0 16 rfl) ?_
  refine r_imul C (dk_at dk_Text_valueOf_0 17 rfl) ?_
  refine r_iload_n C 4 rfl (dk_at dk_Text_valueOf_0 18 rfl) ?_
  refine r_iadd C (dk_at dk_Text_valueOf_0 19 rfl) ?_
  obtain ⟨q75, h⟩ := h
  refine r_iald C (o + 4) hT.2.2 q75 (dk_at dk_Text_valueOf_0 20 rfl) ?_
  refine r_topi (fun v76 e77 => ?_)
  replace h := h v76 e77
  refine r_istore C [(7, .int v76), (6, .int 0), (5, .int v73), (0, .ref (wAd w o)), (1, .int a1), (2, .int a2), (3, .ref (wAd w a3)), (4, .ref (wAd w a4))] rfl rfl (dk_at dk_Text_valueOf_0 21 rfl) ?_
  refine r_lv [3, 6, 7, 2, 1, 0] rfl ?_
  exact t_Text_valueOf_l31 C hL hT hy3 hy4 h
  )
set_option maxRecDepth 20000 in
theorem t_Court_answerOf_j318 {X : CT} {w : WO} (C : CF X w (lim0 w) 16 cX0_answerOf RX0 (some .int) (.code yX0_answerOf cX0_answerOf 16 (some .int)) (rmK 1 38)) {T : TXT} {z : EXa} (hL : LyX w T z) {K169 : DD → Int32 → Int32 → Int32 → Int32 → Prop} {post : Int32 → DD → Prop} {a4 : Int32} {a5 : Int32} {a6 : Int32} {a8 : Nat} {a9 : Int32} {t0 : Int32} (k169 : ∀ (σ : DD) (a5 : Int32) (a6 : Int32) (a7 : Int32) (a9 : Int32), K169 σ a5 a6 a7 a9 → gW X w (lim0 w) 16 (QI X w post) σ 169 [(0, .ref (wAd w 50)), (4, .int a4), (5, .int a5), (6, .int a6), (7, .int a7), (8, .ref (wAd w a8)), (9, .int a9)] []) {σ : DD} (h : w_Court_answerOf_j318 T K169 post σ a4 a5 a6 a8 a9 t0) : gW X w (lim0 w) 16 (QI X w post) σ 318 [(0, .ref (wAd w 50)), (4, .int a4), (5, .int a5), (6, .int a6), (8, .ref (wAd w a8)), (9, .int a9)] [.int t0] := by
  unfold w_Court_answerOf_j318 at h
  refine r_istore C [(7, .int t0), (0, .ref (wAd w 50)), (4, .int a4), (5, .int a5), (6, .int a6), (8, .ref (wAd w a8)), (9, .int a9)] rfl rfl (dk_at dk_Court_answerOf_4 12 rfl) ?_
  refine r_iinc C 6 rfl rfl [(9, .int (a9 + 1)), (7, .int t0), (0, .ref (wAd w 50)), (4, .int a4), (5, .int a5), (6, .int a6), (8, .ref (wAd w a8))] rfl rfl (dk_at dk_Court_answerOf_4 13 rfl) ?_
  refine r_goto C 169 rfl (dk_at dk_Court_answerOf_4 14 rfl) ?_
  refine r_lv [2, 3, 4, 5, 1, 6, 0] rfl ?_
  exact k169 _ _ _ _ _ h
set_option maxRecDepth 20000 in
theorem t_Court_answerOf_j304 {X : CT} {w : WO} (C : CF X w (lim0 w) 16 cX0_answerOf RX0 (some .int) (.code yX0_answerOf cX0_answerOf 16 (some .int)) (rmK 1 38)) {T : TXT} {z : EXa} (hL : LyX w T z) {K169 : DD → Int32 → Int32 → Int32 → Int32 → Prop} {post : Int32 → DD → Prop} {a4 : Int32} {a5 : Int32} {a7 : Int32} {a8 : Nat} {a9 : Int32} {a10 : Int32} {t0 : Int32} (k169 : ∀ (σ : DD) (a5 : Int32) (a6 : Int32) (a7 : Int32) (a9 : Int32), K169 σ a5 a6 a7 a9 → gW X w (lim0 w) 16 (QI X w post) σ 169 [(0, .ref (wAd w 50)), (4, .int a4), (5, .int a5), (6, .int a6), (7, .int a7), (8, .ref (wAd w a8)), (9, .int a9)] []) {σ : DD} (h : w_Court_answerOf_j304 T K169 post σ a4 a5 a7 a8 a9 a10 t0) : gW X w (lim0 w) 16 (QI X w post) σ 304 [(0, .ref (wAd w 50)), (4, .int a4), (5, .int a5), (7, .int a7), (8, .ref (wAd w a8)), (9, .int a9), (10, .int a10)] [.int t0] := by
  unfold w_Court_answerOf_j304 at h
  refine r_istore C [(6, .int t0), (0, .ref (wAd w 50)), (4, .int a4), (5, .int a5), (7, .int a7), (8, .ref (wAd w a8)), (9, .int a9), (10, .int a10)] rfl rfl (dk_at dk_Court_answerOf_4 5 rfl) ?_
  refine r_iload C 7 rfl (dk_at dk_Court_answerOf_4 6 rfl) ?_
  refine r_iconst C 2 (dk_at dk_Court_answerOf_4 7 rfl) ?_
  refine r_icmp_ne C 316 rfl (dk_at dk_Court_answerOf_4 8 rfl) (fun c1 => ?_) (fun c1 => ?_)
  · replace h := h.1 c1
    refine r_iload C 4 rfl (dk_at dk_Court_answerOf_4 11 rfl) ?_
    refine r_lv [1, 2, 3, 0, 5, 6] rfl ?_
    exact t_Court_answerOf_j318 C hL k169 h
  · replace h := h.2 c1
    refine r_iconst C 1 (dk_at dk_Court_answerOf_4 9 rfl) ?_
    refine r_goto C 318 rfl (dk_at dk_Court_answerOf_4 10 rfl) ?_
    refine r_lv [1, 2, 3, 0, 5, 6] rfl ?_
    exact t_Court_answerOf_j318 C hL k169 h
set_option maxRecDepth 20000 in
theorem t_Court_answerOf_j289 {X : CT} {w : WO} (C : CF X w (lim0 w) 16 cX0_answerOf RX0 (some .int) (.code yX0_answerOf cX0_answerOf 16 (some .int)) (rmK 1 38)) {T : TXT} {z : EXa} (hL : LyX w T z) {K169 : DD → Int32 → Int32 → Int32 → Int32 → Prop} {post : Int32 → DD → Prop} {a4 : Int32} {a6 : Int32} {a7 : Int32} {a8 : Nat} {a9 : Int32} {a10 : Int32} {a15 : Int32} {t0 : Int32} (k169 : ∀ (σ : DD) (a5 : Int32) (a6 : Int32) (a7 : Int32) (a9 : Int32), K169 σ a5 a6 a7 a9 → gW X w (lim0 w) 16 (QI X w post) σ 169 [(0, .ref (wAd w 50)), (4, .int a4), (5, .int a5), (6, .int a6), (7, .int a7), (8, .ref (wAd w a8)), (9, .int a9)] []) {σ : DD} (h : w_Court_answerOf_j289 T K169 post σ a4 a6 a7 a8 a9 a10 a15 t0) : gW X w (lim0 w) 16 (QI X w post) σ 289 [(0, .ref (wAd w 50)), (4, .int a4), (6, .int a6), (7, .int a7), (8, .ref (wAd w a8)), (9, .int a9), (10, .int a10), (15, .int a15)] [.int t0] := by
  unfold w_Court_answerOf_j289 at h
  refine r_istore C [(5, .int t0), (0, .ref (wAd w 50)), (4, .int a4), (6, .int a6), (7, .int a7), (8, .ref (wAd w a8)), (9, .int a9), (10, .int a10), (15, .int a15)] rfl rfl (dk_at dk_Court_answerOf_3 38 rfl) ?_
  refine r_iload C 7 rfl (dk_at dk_Court_answerOf_3 39 rfl) ?_
  refine r_iconst C 1 (dk_at dk_Court_answerOf_4 0 rfl) ?_
  refine r_icmp_ne C 302 rfl (dk_at dk_Court_answerOf_4 1 rfl) (fun c2 => ?_) (fun c2 => ?_)
  · replace h := h.1 c2
    refine r_iload C 3 rfl (dk_at dk_Court_answerOf_4 4 rfl) ?_
    refine r_lv [1, 2, 0, 4, 5, 6, 7] rfl ?_
    exact t_Court_answerOf_j304 C hL k169 h
  · replace h := h.2 c2
    refine r_iload C 8 rfl (dk_at dk_Court_answerOf_4 2 rfl) ?_
    refine r_goto C 304 rfl (dk_at dk_Court_answerOf_4 3 rfl) ?_
    refine r_lv [1, 2, 0, 4, 5, 6, 7] rfl ?_
    exact t_Court_answerOf_j304 C hL k169 h
set_option maxRecDepth 20000 in
theorem t_Court_answerOf_j241 {X : CT} {w : WO} (C : CF X w (lim0 w) 16 cX0_answerOf RX0 (some .int) (.code yX0_answerOf cX0_answerOf 16 (some .int)) (rmK 1 38)) {T : TXT} {z : EXa} (hL : LyX w T z) {K169 : DD → Int32 → Int32 → Int32 → Int32 → Prop} {post : Int32 → DD → Prop} {a4 : Int32} {a5 : Int32} {a6 : Int32} {a7 : Int32} {a8 : Nat} {a9 : Int32} {a10 : Int32} {a11 : Int64} {t0 : Int64} (k169 : ∀ (σ : DD) (a5 : Int32) (a6 : Int32) (a7 : Int32) (a9 : Int32), K169 σ a5 a6 a7 a9 → gW X w (lim0 w) 16 (QI X w post) σ 169 [(0, .ref (wAd w 50)), (4, .int a4), (5, .int a5), (6, .int a6), (7, .int a7), (8, .ref (wAd w a8)), (9, .int a9)] []) {σ : DD} (h : w_Court_answerOf_j241 T K169 post σ a4 a5 a6 a7 a8 a9 a10 a11 t0) : gW X w (lim0 w) 16 (QI X w post) σ 241 [(0, .ref (wAd w 50)), (4, .int a4), (5, .int a5), (6, .int a6), (7, .int a7), (8, .ref (wAd w a8)), (9, .int a9), (10, .int a10), (11, .long a11)] [.long t0] := by
  unfold w_Court_answerOf_j241 at h
  refine r_lstore C [(13, .long t0), (0, .ref (wAd w 50)), (4, .int a4), (5, .int a5), (6, .int a6), (7, .int a7), (8, .ref (wAd w a8)), (9, .int a9), (10, .int a10), (11, .long a11)] rfl rfl (dk_at dk_Court_answerOf_3 16 rfl) ?_
  refine r_lload C 9 rfl (dk_at dk_Court_answerOf_3 17 rfl) ?_
  refine r_lconst C 1 (dk_at dk_Court_answerOf_3 18 rfl) ?_
  refine r_lcmp C (dk_at dk_Court_answerOf_3 19 rfl) ?_
  refine r_if_ne C 320 rfl (dk_at dk_Court_answerOf_3 20 rfl) (fun c3 => ?_) (fun c3 => ?_)
  · replace h := h.1 c3
    refine r_iinc C 7 rfl rfl [(9, .int (a9 + 1)), (13, .long t0), (0, .ref (wAd w 50)), (4, .int a4), (5, .int a5), (6, .int a6), (7, .int a7), (8, .ref (wAd w a8)), (10, .int a10), (11, .long a11)] rfl rfl (dk_at dk_Court_answerOf_4 13 rfl) ?_
    refine r_goto C 169 rfl (dk_at dk_Court_answerOf_4 14 rfl) ?_
    refine r_lv [2, 3, 4, 5, 6, 7, 0] rfl ?_
    exact k169 _ _ _ _ _ h
  · replace h := h.2 c3
    refine r_lload C 0 rfl (dk_at dk_Court_answerOf_3 21 rfl) ?_
    refine r_ldc2 C tw_533 (dk_at dk_Court_answerOf_3 22 rfl) ?_
    refine r_lcmp C (dk_at dk_Court_answerOf_3 23 rfl) ?_
    refine r_if_ne C 262 rfl (dk_at dk_Court_answerOf_3 24 rfl) (fun c4 => ?_) (fun c4 => ?_)
    · replace h := h.1 c4
      refine r_lconst C 0 (dk_at dk_Court_answerOf_3 26 rfl) ?_
      refine r_ldc2 C tw_534 (dk_at dk_Court_answerOf_3 27 rfl) ?_
      refine r_lload C 0 rfl (dk_at dk_Court_answerOf_3 28 rfl) ?_
      refine r_lmin C tw_535 tw_536 tw_14 tw_537 (Nat.le_of_ble_eq_true rfl) (Nat.le_of_ble_eq_true rfl) (dk_at dk_Court_answerOf_3 29 rfl) ?_
      refine r_lmax C tw_538 tw_539 tw_14 tw_540 (Nat.le_of_ble_eq_true rfl) (Nat.le_of_ble_eq_true rfl) (dk_at dk_Court_answerOf_3 30 rfl) ?_
      refine r_l2i C (dk_at dk_Court_answerOf_3 31 rfl) ?_
      refine r_topi (fun v5 e6 => ?_)
      replace h := h v5 e6
      refine r_istore C [(15, .int v5), (13, .long t0), (0, .ref (wAd w 50)), (4, .int a4), (5, .int a5), (6, .int a6), (7, .int a7), (8, .ref (wAd w a8)), (9, .int a9), (10, .int a10), (11, .long a11)] rfl rfl (dk_at dk_Court_answerOf_3 32 rfl) ?_
      refine r_iload C 9 rfl (dk_at dk_Court_answerOf_3 33 rfl) ?_
      refine r_if_ne C 287 rfl (dk_at dk_Court_answerOf_3 34 rfl) (fun c7 => ?_) (fun c7 => ?_)
      · replace h := h.1 c7
        refine r_iload C 4 rfl (dk_at dk_Court_answerOf_3 37 rfl) ?_
        refine r_lv [2, 3, 5, 6, 7, 8, 9, 0] rfl ?_
        exact t_Court_answerOf_j289 C hL k169 h
      · replace h := h.2 c7
        refine r_iload C 0 rfl (dk_at dk_Court_answerOf_3 35 rfl) ?_
        refine r_goto C 289 rfl (dk_at dk_Court_answerOf_3 36 rfl) ?_
        refine r_lv [2, 3, 5, 6, 7, 8, 9, 0] rfl ?_
        exact t_Court_answerOf_j289 C hL k169 h
    · replace h := h.2 c4
      refine r_goto C 320 rfl (dk_at dk_Court_answerOf_3 25 rfl) ?_
      refine r_iinc C 7 rfl rfl [(9, .int (a9 + 1)), (13, .long t0), (0, .ref (wAd w 50)), (4, .int a4), (5, .int a5), (6, .int a6), (7, .int a7), (8, .ref (wAd w a8)), (10, .int a10), (11, .long a11)] rfl rfl (dk_at dk_Court_answerOf_4 13 rfl) ?_
      refine r_goto C 169 rfl (dk_at dk_Court_answerOf_4 14 rfl) ?_
      refine r_lv [2, 3, 4, 5, 6, 7, 0] rfl ?_
      exact k169 _ _ _ _ _ h
set_option maxRecDepth 20000 in
theorem t_Court_answerOf_j239 {X : CT} {w : WO} (C : CF X w (lim0 w) 16 cX0_answerOf RX0 (some .int) (.code yX0_answerOf cX0_answerOf 16 (some .int)) (rmK 1 38)) {T : TXT} {z : EXa} (hL : LyX w T z) {K169 : DD → Int32 → Int32 → Int32 → Int32 → Prop} {post : Int32 → DD → Prop} {a4 : Int32} {a5 : Int32} {a6 : Int32} {a7 : Int32} {a8 : Nat} {a9 : Int32} {a10 : Int32} {a11 : Int64} (k169 : ∀ (σ : DD) (a5 : Int32) (a6 : Int32) (a7 : Int32) (a9 : Int32), K169 σ a5 a6 a7 a9 → gW X w (lim0 w) 16 (QI X w post) σ 169 [(0, .ref (wAd w 50)), (4, .int a4), (5, .int a5), (6, .int a6), (7, .int a7), (8, .ref (wAd w a8)), (9, .int a9)] []) {σ : DD} (h : w_Court_answerOf_j239 T K169 post σ a4 a5 a6 a7 a8 a9 a10 a11) : gW X w (lim0 w) 16 (QI X w post) σ 239 [(0, .ref (wAd w 50)), (4, .int a4), (5, .int a5), (6, .int a6), (7, .int a7), (8, .ref (wAd w a8)), (9, .int a9), (10, .int a10), (11, .long a11)] [] := by
  unfold w_Court_answerOf_j239 at h
  refine r_lload C 8 rfl (dk_at dk_Court_answerOf_3 15 rfl) ?_
  refine r_lv [0, 1, 2, 3, 4, 5, 6, 7, 8] rfl ?_
  exact t_Court_answerOf_j241 C hL k169 h
set_option maxRecDepth 20000 in
theorem t_Court_answerOf_j326 {X : CT} {w : WO} (C : CF X w (lim0 w) 16 cX0_answerOf RX0 (some .int) (.code yX0_answerOf cX0_answerOf 16 (some .int)) (rmK 1 38)) {T : TXT} {z : EXa} (hL : LyX w T z) {post : Int32 → DD → Prop} {a4 : Int32} {a5 : Int32} {a6 : Int32} {a7 : Int32} {σ : DD} (h : w_Court_answerOf_j326 T post σ a4 a5 a6 a7) : gW X w (lim0 w) 16 (QI X w post) σ 326 [(0, .ref (wAd w 50)), (4, .int a4), (5, .int a5), (6, .int a6), (7, .int a7)] [] := by
  unfold w_Court_answerOf_j326 at h
  refine r_aload_n C 0 rfl (dk_at dk_Court_answerOf_4 15 rfl) ?_
  refine r_getR C fl_Court_24 50 (hL.1 50 _ rfl) rfl (dk_at dk_Court_answerOf_4 16 rfl) ?_
  refine r_iload C 1 rfl (dk_at dk_Court_answerOf_4 17 rfl) ?_
  refine r_aload_n C 0 rfl (dk_at dk_Court_answerOf_4 18 rfl) ?_
  refine r_getI C fl_Court_27 50 (hL.1 50 _ rfl) rfl (dk_at dk_Court_answerOf_4 19 rfl) ?_
  obtain ⟨q10, h⟩ := h
  refine r_iast C 55 (hL.1 55 _ rfl) q10 (dk_at dk_Court_answerOf_4 20 rfl) (r_sg (fun σ8 e9 => ?_))
  replace h := h σ8 e9
  refine r_aload_n C 0 rfl (dk_at dk_Court_answerOf_4 21 rfl) ?_
  refine r_getR C fl_Court_21 50 (hL.1 50 _ rfl) rfl (dk_at dk_Court_answerOf_4 22 rfl) ?_
  refine r_iload C 1 rfl (dk_at dk_Court_answerOf_4 23 rfl) ?_
  refine r_iload C 2 rfl (dk_at dk_Court_answerOf_4 24 rfl) ?_
  refine r_iload C 3 rfl (dk_at dk_Court_answerOf_4 25 rfl) ?_
  refine r_bipush C 7 (dk_at dk_Court_answerOf_4 26 rfl) ?_
  refine r_ishl C (dk_at dk_Court_answerOf_4 27 rfl) ?_
  refine r_ior C (dk_at dk_Court_answerOf_4 28 rfl) ?_
  refine r_iload C 4 rfl (dk_at dk_Court_answerOf_4 29 rfl) ?_
  refine r_bipush C 14 (dk_at dk_Court_answerOf_4 30 rfl) ?_
  refine r_ishl C (dk_at dk_Court_answerOf_4 31 rfl) ?_
  refine r_ior C (dk_at dk_Court_answerOf_4 32 rfl) ?_
  obtain ⟨q13, h⟩ := h
  refine r_iast C 54 (hL.1 54 _ rfl) q13 (dk_at dk_Court_answerOf_4 33 rfl) (r_sg (fun σ11 e12 => ?_))
  replace h := h σ11 e12
  refine r_aload_n C 0 rfl (dk_at dk_Court_answerOf_4 34 rfl) ?_
  refine r_getR C fl_Court_21 50 (hL.1 50 _ rfl) rfl (dk_at dk_Court_answerOf_4 35 rfl) ?_
  refine r_iload C 1 rfl (dk_at dk_Court_answerOf_4 36 rfl) ?_
  obtain ⟨q14, h⟩ := h
  refine r_iald C 54 (hL.1 54 _ rfl) q14 (dk_at dk_Court_answerOf_4 37 rfl) ?_
  exact r_iret C h (dk_at dk_Court_answerOf_4 38 rfl)
set_option maxRecDepth 20000 in
theorem t_Court_answerOf_b169 {X : CT} {w : WO} (C : CF X w (lim0 w) 16 cX0_answerOf RX0 (some .int) (.code yX0_answerOf cX0_answerOf 16 (some .int)) (rmK 1 38)) {T : TXT} {z : EXa} (hL : LyX w T z) {a4 : Int32} {a8 : Nat} {K169 : DD → Int32 → Int32 → Int32 → Int32 → Prop} {post : Int32 → DD → Prop} (k169 : ∀ (σ : DD) (a5 : Int32) (a6 : Int32) (a7 : Int32) (a9 : Int32), K169 σ a5 a6 a7 a9 → gW X w (lim0 w) 16 (QI X w post) σ 169 [(0, .ref (wAd w 50)), (4, .int a4), (5, .int a5), (6, .int a6), (7, .int a7), (8, .ref (wAd w a8)), (9, .int a9)] []) {σ : DD} {a5 : Int32} {a6 : Int32} {a7 : Int32} {a9 : Int32} (h : w_Court_answerOf_b169 T a4 a8 K169 post σ a5 a6 a7 a9) : gW X w (lim0 w) 16 (QI X w post) σ 169 [(0, .ref (wAd w 50)), (4, .int a4), (5, .int a5), (6, .int a6), (7, .int a7), (8, .ref (wAd w a8)), (9, .int a9)] [] := by
  unfold w_Court_answerOf_b169 at h
  refine r_iload C 6 rfl (dk_at dk_Court_answerOf_2 21 rfl) ?_
  refine r_aload C 5 rfl (dk_at dk_Court_answerOf_2 22 rfl) ?_
  obtain ⟨m15, m16, x17, h⟩ := h
  have hT18 := hL.2.1 a8 _ _ x17
  refine r_getI C fl_Court_61 a8 hT18.1 rfl (dk_at dk_Court_answerOf_2 23 rfl) ?_
  refine r_icmp_ge C 326 rfl (dk_at dk_Court_answerOf_2 24 rfl) (fun c19 => ?_) (fun c19 => ?_)
  · replace h := h.1 c19
    refine r_lv [0, 1, 2, 3, 4] rfl ?_
    exact t_Court_answerOf_j326 C hL h
  · replace h := h.2 c19
    refine r_aload C 5 rfl (dk_at dk_Court_answerOf_2 25 rfl) ?_
    refine r_iload C 6 rfl (dk_at dk_Court_answerOf_2 26 rfl) ?_
    refine r_iconst C 4 (dk_at dk_Court_answerOf_2 27 rfl) ?_
    refine r_cvI C cl_Court_64 a8 hT18.1 [.int a9, .int 4] (m_Text_headOf hL hT18 h) (rmK_ok rfl rfl) rfl rfl (Nat.le_of_ble_eq_true rfl) (dk_at dk_Court_answerOf_2 28 rfl) (fun r20 σ21 h => ?_)
    refine r_istore C [(10, .int r20), (0, .ref (wAd w 50)), (4, .int a4), (5, .int a5), (6, .int a6), (7, .int a7), (8, .ref (wAd w a8)), (9, .int a9)] rfl rfl (dk_at dk_Court_answerOf_2 29 rfl) ?_
    refine r_aload C 6 rfl (dk_at dk_Court_answerOf_2 30 rfl) ?_
    refine r_iload C 7 rfl (dk_at dk_Court_answerOf_2 31 rfl) ?_
    refine r_iconst C 2 (dk_at dk_Court_answerOf_2 32 rfl) ?_
    refine r_aload_n C 1 rfl (dk_at dk_Court_answerOf_2 33 rfl) ?_
    refine r_getR C fl_Court_9 50 (hL.1 50 _ rfl) rfl (dk_at dk_Court_answerOf_2 34 rfl) ?_
    refine r_aload_n C 1 rfl (dk_at dk_Court_answerOf_2 35 rfl) ?_
    refine r_getR C fl_Court_17 50 (hL.1 50 _ rfl) rfl (dk_at dk_Court_answerOf_2 36 rfl) ?_
    refine r_cvL C cl_Court_67 a8 hT18.1 [.int a9, .int 2, .ref (wAd w 52), .ref (wAd w 53)] (m_Text_valueOf hL hT18 (hL.1 52 _ rfl) (hL.1 53 _ rfl) h) (rmK_ok rfl rfl) rfl rfl (Nat.le_of_ble_eq_true rfl) (dk_at dk_Court_answerOf_2 37 rfl) (fun r22 σ23 h => ?_)
    refine r_lstore C [(11, .long r22), (10, .int r20), (0, .ref (wAd w 50)), (4, .int a4), (5, .int a5), (6, .int a6), (7, .int a7), (8, .ref (wAd w a8)), (9, .int a9)] rfl rfl (dk_at dk_Court_answerOf_2 38 rfl) ?_
    refine r_lload C 0 rfl (dk_at dk_Court_answerOf_2 39 rfl) ?_
    refine r_lconst C 1 (dk_at dk_Court_answerOf_3 0 rfl) ?_
    refine r_lcmp C (dk_at dk_Court_answerOf_3 1 rfl) ?_
    refine r_if_ne C 239 rfl (dk_at dk_Court_answerOf_3 2 rfl) (fun c24 => ?_) (fun c24 => ?_)
    · replace h := h.1 c24
      refine r_lv [2, 3, 4, 5, 6, 7, 8, 1, 0] rfl ?_
      exact t_Court_answerOf_j239 C hL k169 h
    · replace h := h.2 c24
      refine r_iload C 1 rfl (dk_at dk_Court_answerOf_3 3 rfl) ?_
      refine r_iconst C 2 (dk_at dk_Court_answerOf_3 4 rfl) ?_
      refine r_icmp_eq C 239 rfl (dk_at dk_Court_answerOf_3 5 rfl) (fun c25 => ?_) (fun c25 => ?_)
      · replace h := h.1 c25
        refine r_lv [2, 3, 4, 5, 6, 7, 8, 1, 0] rfl ?_
        exact t_Court_answerOf_j239 C hL k169 h
      · replace h := h.2 c25
        refine r_aload C 7 rfl (dk_at dk_Court_answerOf_3 6 rfl) ?_
        refine r_iload C 8 rfl (dk_at dk_Court_answerOf_3 7 rfl) ?_
        refine r_iconst C 0 (dk_at dk_Court_answerOf_3 8 rfl) ?_
        refine r_aload_n C 2 rfl (dk_at dk_Court_answerOf_3 9 rfl) ?_
        refine r_getR C fl_Court_9 50 (hL.1 50 _ rfl) rfl (dk_at dk_Court_answerOf_3 10 rfl) ?_
        refine r_aload_n C 2 rfl (dk_at dk_Court_answerOf_3 11 rfl) ?_
        refine r_getR C fl_Court_17 50 (hL.1 50 _ rfl) rfl (dk_at dk_Court_answerOf_3 12 rfl) ?_
        refine r_cvL C cl_Court_67 a8 hT18.1 [.int a9, .int 0, .ref (wAd w 52), .ref (wAd w 53)] (m_Text_valueOf hL hT18 (hL.1 52 _ rfl) (hL.1 53 _ rfl) h) (rmK_ok rfl rfl) rfl rfl (Nat.le_of_ble_eq_true rfl) (dk_at dk_Court_answerOf_3 13 rfl) (fun r26 σ27 h => ?_)
        refine r_goto C 241 rfl (dk_at dk_Court_answerOf_3 14 rfl) ?_
        refine r_lv [2, 3, 4, 5, 6, 7, 8, 1, 0] rfl ?_
        exact t_Court_answerOf_j241 C hL k169 h
set_option maxRecDepth 20000 in
theorem t_Court_answerOf_l169 {X : CT} {w : WO} (C : CF X w (lim0 w) 16 cX0_answerOf RX0 (some .int) (.code yX0_answerOf cX0_answerOf 16 (some .int)) (rmK 1 38)) {T : TXT} {z : EXa} (hL : LyX w T z) {a4 : Int32} {a8 : Nat} {post : Int32 → DD → Prop} {σ : DD} {a5 : Int32} {a6 : Int32} {a7 : Int32} {a9 : Int32} (h : w_Court_answerOf_l169 T post σ a4 a5 a6 a7 a8 a9) : gW X w (lim0 w) 16 (QI X w post) σ 169 [(0, .ref (wAd w 50)), (4, .int a4), (5, .int a5), (6, .int a6), (7, .int a7), (8, .ref (wAd w a8)), (9, .int a9)] [] :=
  LoopW (G := fun x : DD × Int32 × Int32 × Int32 × Int32 => gW X w (lim0 w) 16 (QI X w post) x.1 169 [(0, .ref (wAd w 50)), (4, .int a4), (5, .int x.2.1), (6, .int x.2.2.1), (7, .int x.2.2.2.1), (8, .ref (wAd w a8)), (9, .int x.2.2.2.2)] []) (fun K x hK hF => t_Court_answerOf_b169 C hL (fun σ a5 a6 a7 a9 q => hK (σ, a5, a6, a7, a9) q) hF) h
set_option maxRecDepth 20000 in
theorem m_Court_answerOf {l : Launch} {w : WO} {T : TXT} {z : EXa} (hL : LyX w T z) {σ : DD} {a1 : Int32} {a2 : Int32} {a3 : Int32} {post : Int32 → DD → Prop} (h : w_Court_answerOf T σ a1 a2 a3 post) : MI l w yX0_answerOf cX0_answerOf 16 .int (rmK 1 38) σ [.ref (wAd w 50), .int a1, .int a2, .int a3] post :=
  met_head (rt := (some .int)) (by decide) rfl (fun X hX C => by
  subst hX
  unfold w_Court_answerOf at h
  show gW X w (lim0 w) 16 (QI X w post) σ 0 [(0, .ref (wAd w 50)), (1, .int a1), (2, .int a2), (3, .int a3)] []
  refine r_iload_n C 1 rfl (dk_at dk_Court_answerOf_0 0 rfl) ?_
  refine r_iconst C 4 (dk_at dk_Court_answerOf_0 1 rfl) ?_
  refine r_imul C (dk_at dk_Court_answerOf_0 2 rfl) ?_
  refine r_iload_n C 2 rfl (dk_at dk_Court_answerOf_0 3 rfl) ?_
  refine r_iadd C (dk_at dk_Court_answerOf_0 4 rfl) ?_
  refine r_bipush C 7 (dk_at dk_Court_answerOf_0 5 rfl) ?_
  refine r_imul C (dk_at dk_Court_answerOf_0 6 rfl) ?_
  refine r_iload_n C 3 rfl (dk_at dk_Court_answerOf_0 7 rfl) ?_
  refine r_bipush C 7 (dk_at dk_Court_answerOf_0 8 rfl) ?_
  refine r_irem C (by decide) (dk_at dk_Court_answerOf_0 9 rfl) ?_
  refine r_iadd C (dk_at dk_Court_answerOf_0 10 rfl) ?_
  refine r_topi (fun v28 e29 => ?_)
  replace h := h v28 e29
  refine r_istore C [(4, .int v28), (0, .ref (wAd w 50)), (1, .int a1), (2, .int a2), (3, .int a3)] rfl rfl (dk_at dk_Court_answerOf_0 11 rfl) ?_
  refine r_aload_n C 1 rfl (dk_at dk_Court_answerOf_0 12 rfl) ?_
  refine r_getR C fl_Court_24 50 (hL.1 50 _ rfl) rfl (dk_at dk_Court_answerOf_0 13 rfl) ?_
  refine r_iload C 0 rfl (dk_at dk_Court_answerOf_0 14 rfl) ?_
  obtain ⟨q30, h⟩ := h
  refine r_iald C 55 (hL.1 55 _ rfl) q30 (dk_at dk_Court_answerOf_0 15 rfl) ?_
  refine r_aload_n C 1 rfl (dk_at dk_Court_answerOf_0 16 rfl) ?_
  refine r_getI C fl_Court_27 50 (hL.1 50 _ rfl) rfl (dk_at dk_Court_answerOf_0 17 rfl) ?_
  refine r_icmp_ne C 37 rfl (dk_at dk_Court_answerOf_0 18 rfl) (fun c31 => ?_) (fun c31 => ?_)
  · replace h := h.1 c31
    refine r_aload_n C 1 rfl (dk_at dk_Court_answerOf_0 24 rfl) ?_
    refine r_getR C fl_Court_31 50 (hL.1 50 _ rfl) rfl (dk_at dk_Court_answerOf_0 25 rfl) ?_
    refine r_iload_n C 2 rfl (dk_at dk_Court_answerOf_0 26 rfl) ?_
    refine r_iconst C 1 (dk_at dk_Court_answerOf_0 27 rfl) ?_
    refine r_cvI C cl_Court_39 200 (hL.1 200 _ rfl) [.int a1, .int 1] (m_Real_trait hL h) (rmK_ok rfl rfl) rfl rfl (Nat.le_of_ble_eq_true rfl) (dk_at dk_Court_answerOf_0 28 rfl) (fun r32 σ33 h => ?_)
    refine r_istore C [(5, .int r32), (4, .int v28), (0, .ref (wAd w 50)), (1, .int a1), (2, .int a2), (3, .int a3)] rfl rfl (dk_at dk_Court_answerOf_0 29 rfl) ?_
    refine r_aload_n C 2 rfl (dk_at dk_Court_answerOf_0 30 rfl) ?_
    refine r_getR C fl_Court_31 50 (hL.1 50 _ rfl) rfl (dk_at dk_Court_answerOf_0 31 rfl) ?_
    refine r_iload_n C 3 rfl (dk_at dk_Court_answerOf_0 32 rfl) ?_
    refine r_iconst C 0 (dk_at dk_Court_answerOf_0 33 rfl) ?_
    refine r_cvI C cl_Court_39 200 (hL.1 200 _ rfl) [.int a1, .int 0] (m_Real_trait hL h) (rmK_ok rfl rfl) rfl rfl (Nat.le_of_ble_eq_true rfl) (dk_at dk_Court_answerOf_0 34 rfl) (fun r34 σ35 h => ?_)
    refine r_istore C [(6, .int r34), (5, .int r32), (4, .int v28), (0, .ref (wAd w 50)), (1, .int a1), (2, .int a2), (3, .int a3)] rfl rfl (dk_at dk_Court_answerOf_0 35 rfl) ?_
    refine r_iconst C 0 (dk_at dk_Court_answerOf_0 36 rfl) ?_
    refine r_istore C [(7, .int 0), (6, .int r34), (5, .int r32), (4, .int v28), (0, .ref (wAd w 50)), (1, .int a1), (2, .int a2), (3, .int a3)] rfl rfl (dk_at dk_Court_answerOf_0 37 rfl) ?_
    refine r_aload_n C 4 rfl (dk_at dk_Court_answerOf_0 38 rfl) ?_
    refine r_getR C fl_Court_31 50 (hL.1 50 _ rfl) rfl (dk_at dk_Court_answerOf_0 39 rfl) ?_
    refine r_cvO C cl_Court_45 200 (hL.1 200 _ rfl) [] (m_Real_textInForce hL h) (rmK_ok rfl rfl) rfl rfl (Nat.le_of_ble_eq_true rfl) (dk_at dk_Court_answerOf_1 0 rfl) (fun r36 σ37 h => ?_)
    refine r_astoreO C [(8, oV w r36), (7, .int 0), (6, .int r34), (5, .int r32), (4, .int v28), (0, .ref (wAd w 50)), (1, .int a1), (2, .int a2), (3, .int a3)] rfl rfl (dk_at dk_Court_answerOf_1 1 rfl) ?_
    rcases r36 with _ | t38
    · replace h := h.1 rfl
      refine r_aloadN C 0 rfl (dk_at dk_Court_answerOf_1 2 rfl) ?_
      refine r_ifnullN C 326 rfl (dk_at dk_Court_answerOf_1 3 rfl) ?_
      refine r_lv [5, 4, 3, 2, 1] rfl ?_
      exact t_Court_answerOf_j326 C hL h
    · replace h := h.2 t38 rfl
      refine r_aload C 0 rfl (dk_at dk_Court_answerOf_1 2 rfl) ?_
      refine r_ifnull C (dk_at dk_Court_answerOf_1 3 rfl) ?_
      refine r_aload_n C 5 rfl (dk_at dk_Court_answerOf_1 4 rfl) ?_
      refine r_getR C fl_Court_9 50 (hL.1 50 _ rfl) rfl (dk_at dk_Court_answerOf_1 5 rfl) ?_
      refine r_iconst C 0 (dk_at dk_Court_answerOf_1 6 rfl) ?_
      refine r_iload_n C 6 rfl (dk_at dk_Court_answerOf_1 7 rfl) ?_
      refine r_iastK C 52 (hL.1 52 _ rfl) lk_0 vk_0_8 (dk_at dk_Court_answerOf_1 8 rfl) (r_sg (fun σ39 e40 => ?_))
      replace h := h σ39 e40
      refine r_aload_n C 5 rfl (dk_at dk_Court_answerOf_1 9 rfl) ?_
      refine r_getR C fl_Court_9 50 (hL.1 50 _ rfl) rfl (dk_at dk_Court_answerOf_1 10 rfl) ?_
      refine r_iconst C 1 (dk_at dk_Court_answerOf_1 11 rfl) ?_
      refine r_iload C 2 rfl (dk_at dk_Court_answerOf_1 12 rfl) ?_
      refine r_iastK C 52 (hL.1 52 _ rfl) lk_1 vk_1_8 (dk_at dk_Court_answerOf_1 13 rfl) (r_sg (fun σ41 e42 => ?_))
      replace h := h σ41 e42
      refine r_aload_n C 5 rfl (dk_at dk_Court_answerOf_1 14 rfl) ?_
      refine r_getR C fl_Court_9 50 (hL.1 50 _ rfl) rfl (dk_at dk_Court_answerOf_1 15 rfl) ?_
      refine r_iconst C 2 (dk_at dk_Court_answerOf_1 16 rfl) ?_
      refine r_iload C 3 rfl (dk_at dk_Court_answerOf_1 17 rfl) ?_
      refine r_iastK C 52 (hL.1 52 _ rfl) lk_2 vk_2_8 (dk_at dk_Court_answerOf_1 18 rfl) (r_sg (fun σ43 e44 => ?_))
      replace h := h σ43 e44
      refine r_aload_n C 5 rfl (dk_at dk_Court_answerOf_1 19 rfl) ?_
      refine r_getR C fl_Court_9 50 (hL.1 50 _ rfl) rfl (dk_at dk_Court_answerOf_1 20 rfl) ?_
      refine r_iconst C 3 (dk_at dk_Court_answerOf_1 21 rfl) ?_
      refine r_aload_n C 5 rfl (dk_at dk_Court_answerOf_1 22 rfl) ?_
      refine r_getR C fl_Court_31 50 (hL.1 50 _ rfl) rfl (dk_at dk_Court_answerOf_1 23 rfl) ?_
      refine r_iload_n C 6 rfl (dk_at dk_Court_answerOf_1 24 rfl) ?_
      refine r_iconst C 2 (dk_at dk_Court_answerOf_1 25 rfl) ?_
      refine r_cvI C cl_Court_39 200 (hL.1 200 _ rfl) [.int a1, .int 2] (m_Real_trait hL h) (rmK_ok rfl rfl) rfl rfl (Nat.le_of_ble_eq_true rfl) (dk_at dk_Court_answerOf_1 26 rfl) (fun r45 σ46 h => ?_)
      refine r_csI C cs_Court_49 [.int r45] (m_J6_bitCount_0f7a4 hL h) (rmK_ok rfl rfl) rfl rfl (Nat.le_of_ble_eq_true rfl) (dk_at dk_Court_answerOf_1 27 rfl) (fun r47 σ48 h => ?_)
      refine r_iastK C 52 (hL.1 52 _ rfl) lk_3 vk_3_8 (dk_at dk_Court_answerOf_1 28 rfl) (r_sg (fun σ49 e50 => ?_))
      replace h := h σ49 e50
      refine r_aload_n C 5 rfl (dk_at dk_Court_answerOf_1 29 rfl) ?_
      refine r_getR C fl_Court_9 50 (hL.1 50 _ rfl) rfl (dk_at dk_Court_answerOf_1 30 rfl) ?_
      refine r_iconst C 4 (dk_at dk_Court_answerOf_1 31 rfl) ?_
      refine r_iload_n C 7 rfl (dk_at dk_Court_answerOf_1 32 rfl) ?_
      refine r_iastK C 52 (hL.1 52 _ rfl) lk_4 vk_4_8 (dk_at dk_Court_answerOf_1 33 rfl) (r_sg (fun σ51 e52 => ?_))
      replace h := h σ51 e52
      refine r_aload_n C 5 rfl (dk_at dk_Court_answerOf_1 34 rfl) ?_
      refine r_getR C fl_Court_9 50 (hL.1 50 _ rfl) rfl (dk_at dk_Court_answerOf_1 35 rfl) ?_
      refine r_iconst C 5 (dk_at dk_Court_answerOf_1 36 rfl) ?_
      refine r_aload_n C 5 rfl (dk_at dk_Court_answerOf_1 37 rfl) ?_
      refine r_getR C fl_Court_31 50 (hL.1 50 _ rfl) rfl (dk_at dk_Court_answerOf_1 38 rfl) ?_
      refine r_getR C fl_Court_55 200 (hL.1 200 _ rfl) rfl (dk_at dk_Court_answerOf_1 39 rfl) ?_
      refine r_iload_n C 7 rfl (dk_at dk_Court_answerOf_2 0 rfl) ?_
      obtain ⟨q53, h⟩ := h
      refine r_iald C 206 (hL.1 206 _ rfl) q53 (dk_at dk_Court_answerOf_2 1 rfl) ?_
      refine r_iastK C 52 (hL.1 52 _ rfl) lk_5 vk_5_8 (dk_at dk_Court_answerOf_2 2 rfl) (r_sg (fun σ54 e55 => ?_))
      replace h := h σ54 e55
      refine r_aload_n C 5 rfl (dk_at dk_Court_answerOf_2 3 rfl) ?_
      refine r_getR C fl_Court_9 50 (hL.1 50 _ rfl) rfl (dk_at dk_Court_answerOf_2 4 rfl) ?_
      refine r_bipush C 6 (dk_at dk_Court_answerOf_2 5 rfl) ?_
      refine r_iload_n C 8 rfl (dk_at dk_Court_answerOf_2 6 rfl) ?_
      refine r_bipush C 7 (dk_at dk_Court_answerOf_2 7 rfl) ?_
      refine r_irem C (by decide) (dk_at dk_Court_answerOf_2 8 rfl) ?_
      refine r_iastK C 52 (hL.1 52 _ rfl) lk_6 vk_6_8 (dk_at dk_Court_answerOf_2 9 rfl) (r_sg (fun σ56 e57 => ?_))
      replace h := h σ56 e57
      refine r_aload_n C 5 rfl (dk_at dk_Court_answerOf_2 10 rfl) ?_
      refine r_getR C fl_Court_9 50 (hL.1 50 _ rfl) rfl (dk_at dk_Court_answerOf_2 11 rfl) ?_
      refine r_bipush C 7 (dk_at dk_Court_answerOf_2 12 rfl) ?_
      refine r_aload_n C 5 rfl (dk_at dk_Court_answerOf_2 13 rfl) ?_
      refine r_getR C fl_Court_31 50 (hL.1 50 _ rfl) rfl (dk_at dk_Court_answerOf_2 14 rfl) ?_
      refine r_getR C fl_Court_58 200 (hL.1 200 _ rfl) rfl (dk_at dk_Court_answerOf_2 15 rfl) ?_
      refine r_iconst C 3 (dk_at dk_Court_answerOf_2 16 rfl) ?_
      refine r_ialdK C 208 (hL.1 208 _ rfl) lk_3 (vk_3_4) (dk_at dk_Court_answerOf_2 17 rfl) ?_
      refine r_iastK C 52 (hL.1 52 _ rfl) lk_7 vk_7_8 (dk_at dk_Court_answerOf_2 18 rfl) (r_sg (fun σ58 e59 => ?_))
      replace h := h σ58 e59
      refine r_iconst C 0 (dk_at dk_Court_answerOf_2 19 rfl) ?_
      refine r_istore C [(9, .int 0), (8, .ref (wAd w t38)), (7, .int 0), (6, .int r34), (5, .int r32), (4, .int v28), (0, .ref (wAd w 50)), (1, .int a1), (2, .int a2), (3, .int a3)] rfl rfl (dk_at dk_Court_answerOf_2 20 rfl) ?_
      refine r_lv [6, 5, 4, 3, 2, 1, 0] rfl ?_
      exact t_Court_answerOf_l169 C hL h
  · replace h := h.2 c31
    refine r_aload_n C 1 rfl (dk_at dk_Court_answerOf_0 19 rfl) ?_
    refine r_getR C fl_Court_21 50 (hL.1 50 _ rfl) rfl (dk_at dk_Court_answerOf_0 20 rfl) ?_
    refine r_iload C 0 rfl (dk_at dk_Court_answerOf_0 21 rfl) ?_
    obtain ⟨q60, h⟩ := h
    refine r_iald C 54 (hL.1 54 _ rfl) q60 (dk_at dk_Court_answerOf_0 22 rfl) ?_
    exact r_iret C h (dk_at dk_Court_answerOf_0 23 rfl)
  )
set_option maxRecDepth 20000 in
theorem m_Court_lasts {l : Launch} {w : WO} {T : TXT} {z : EXa} (hL : LyX w T z) {σ : DD} {a1 : Int32} {a2 : Int32} {a3 : Int32} {post : Int32 → DD → Prop} (h : w_Court_lasts T σ a1 a2 a3 post) : MI l w yX0_lasts cX0_lasts 4 .int (rmK 2 73) σ [.ref (wAd w 50), .int a1, .int a2, .int a3] post :=
  met_head (rt := (some .int)) (by decide) rfl (fun X hX C => by
  subst hX
  unfold w_Court_lasts at h
  show gW X w (lim0 w) 4 (QI X w post) σ 0 [(0, .ref (wAd w 50)), (1, .int a1), (2, .int a2), (3, .int a3)] []
  refine r_aload_n C 0 rfl (dk_at dk_Court_lasts_0 0 rfl) ?_
  refine r_iload_n C 1 rfl (dk_at dk_Court_lasts_0 1 rfl) ?_
  refine r_iload_n C 2 rfl (dk_at dk_Court_lasts_0 2 rfl) ?_
  refine r_iload_n C 3 rfl (dk_at dk_Court_lasts_0 3 rfl) ?_
  refine r_cvI C cl_Court_35 50 (hL.1 50 _ rfl) [.int a1, .int a2, .int a3] (m_Court_answerOf hL h) (rmK_ok rfl rfl) rfl rfl (Nat.le_of_ble_eq_true rfl) (dk_at dk_Court_lasts_0 4 rfl) (fun r1 σ2 h => ?_)
  refine r_bipush C 127 (dk_at dk_Court_lasts_0 5 rfl) ?_
  refine r_iand C (dk_at dk_Court_lasts_0 6 rfl) ?_
  exact r_iret C h (dk_at dk_Court_lasts_0 7 rfl)
  )
set_option maxRecDepth 20000 in
theorem m_Court_takes {l : Launch} {w : WO} {T : TXT} {z : EXa} (hL : LyX w T z) {σ : DD} {a1 : Int32} {a2 : Int32} {a3 : Int32} {post : Int32 → DD → Prop} (h : w_Court_takes T σ a1 a2 a3 post) : MI l w yX0_takes cX0_takes 4 .int (rmK 2 73) σ [.ref (wAd w 50), .int a1, .int a2, .int a3] post :=
  met_head (rt := (some .int)) (by decide) rfl (fun X hX C => by
  subst hX
  unfold w_Court_takes at h
  show gW X w (lim0 w) 4 (QI X w post) σ 0 [(0, .ref (wAd w 50)), (1, .int a1), (2, .int a2), (3, .int a3)] []
  refine r_aload_n C 0 rfl (dk_at dk_Court_takes_0 0 rfl) ?_
  refine r_iload_n C 1 rfl (dk_at dk_Court_takes_0 1 rfl) ?_
  refine r_iload_n C 2 rfl (dk_at dk_Court_takes_0 2 rfl) ?_
  refine r_iload_n C 3 rfl (dk_at dk_Court_takes_0 3 rfl) ?_
  refine r_cvI C cl_Court_35 50 (hL.1 50 _ rfl) [.int a1, .int a2, .int a3] (m_Court_answerOf hL h) (rmK_ok rfl rfl) rfl rfl (Nat.le_of_ble_eq_true rfl) (dk_at dk_Court_takes_0 4 rfl) (fun r1 σ2 h => ?_)
  refine r_bipush C 7 (dk_at dk_Court_takes_0 5 rfl) ?_
  refine r_ishr C (dk_at dk_Court_takes_0 6 rfl) ?_
  refine r_bipush C 127 (dk_at dk_Court_takes_0 7 rfl) ?_
  refine r_iand C (dk_at dk_Court_takes_0 8 rfl) ?_
  exact r_iret C h (dk_at dk_Court_takes_0 9 rfl)
  )
set_option maxRecDepth 20000 in
theorem m_Court_bars {l : Launch} {w : WO} {T : TXT} {z : EXa} (hL : LyX w T z) {σ : DD} {a1 : Int32} {a2 : Int32} {a3 : Int32} {post : Int32 → DD → Prop} (h : w_Court_bars T σ a1 a2 a3 post) : MI l w yX0_bars cX0_bars 4 .boolean (rmK 2 73) σ [.ref (wAd w 50), .int a1, .int a2, .int a3] post :=
  met_head (rt := (some .boolean)) (by decide) rfl (fun X hX C => by
  subst hX
  unfold w_Court_bars at h
  show gW X w (lim0 w) 4 (QI X w post) σ 0 [(0, .ref (wAd w 50)), (1, .int a1), (2, .int a2), (3, .int a3)] []
  refine r_aload_n C 0 rfl (dk_at dk_Court_bars_0 0 rfl) ?_
  refine r_iload_n C 1 rfl (dk_at dk_Court_bars_0 1 rfl) ?_
  refine r_iload_n C 2 rfl (dk_at dk_Court_bars_0 2 rfl) ?_
  refine r_iload_n C 3 rfl (dk_at dk_Court_bars_0 3 rfl) ?_
  refine r_cvI C cl_Court_35 50 (hL.1 50 _ rfl) [.int a1, .int a2, .int a3] (m_Court_answerOf hL h) (rmK_ok rfl rfl) rfl rfl (Nat.le_of_ble_eq_true rfl) (dk_at dk_Court_bars_0 4 rfl) (fun r1 σ2 h => ?_)
  refine r_bipush C 14 (dk_at dk_Court_bars_0 5 rfl) ?_
  refine r_ishr C (dk_at dk_Court_bars_0 6 rfl) ?_
  refine r_if_eq C 17 rfl (dk_at dk_Court_bars_0 7 rfl) (fun c3 => ?_) (fun c3 => ?_)
  · replace h := h.1 c3
    refine r_iconst C 0 (dk_at dk_Court_bars_0 10 rfl) ?_
    exact r_zret C (Or.inl rfl) h (dk_at dk_Court_bars_0 11 rfl)
  · replace h := h.2 c3
    refine r_iconst C 1 (dk_at dk_Court_bars_0 8 rfl) ?_
    refine r_goto C 18 rfl (dk_at dk_Court_bars_0 9 rfl) ?_
    exact r_zret C (Or.inr rfl) h (dk_at dk_Court_bars_0 11 rfl)
  )
set_option maxRecDepth 20000 in
theorem t_Real_latestTold_b7 {X : CT} {w : WO} (C : CF X w (lim0 w) 4 cX5_latestTold RX5 (some .int) (.code yX5_latestTold cX5_latestTold 4 (some .int)) (rmK 0 0)) {T : TXT} {z : EXa} (hL : LyX w T z) {a1 : Int32} {a2 : Int32} {K7 : DD → Int32 → Prop} {post : Int32 → DD → Prop} (k7 : ∀ (σ : DD) (a3 : Int32), K7 σ a3 → gW X w (lim0 w) 4 (QI X w post) σ 7 [(0, .ref (wAd w 200)), (1, .int a1), (2, .int a2), (3, .int a3)] []) {σ : DD} {a3 : Int32} (h : w_Real_latestTold_b7 T a1 a2 K7 post σ a3) : gW X w (lim0 w) 4 (QI X w post) σ 7 [(0, .ref (wAd w 200)), (1, .int a1), (2, .int a2), (3, .int a3)] [] := by
  unfold w_Real_latestTold_b7 at h
  refine r_iload_n C 3 rfl (dk_at dk_Real_latestTold_0 5 rfl) ?_
  refine r_if_lt C 39 rfl (dk_at dk_Real_latestTold_0 6 rfl) (fun c1 => ?_) (fun c1 => ?_)
  · replace h := h.1 c1
    refine r_iconst C (-1) (dk_at dk_Real_latestTold_0 23 rfl) ?_
    exact r_iret C h (dk_at dk_Real_latestTold_0 24 rfl)
  · replace h := h.2 c1
    refine r_aload_n C 0 rfl (dk_at dk_Real_latestTold_0 7 rfl) ?_
    refine r_getR C fl_Real_30 200 (hL.1 200 _ rfl) rfl (dk_at dk_Real_latestTold_0 8 rfl) ?_
    refine r_iload_n C 3 rfl (dk_at dk_Real_latestTold_0 9 rfl) ?_
    obtain ⟨q2, h⟩ := h
    refine r_iald C 210 (hL.1 210 _ rfl) q2 (dk_at dk_Real_latestTold_0 10 rfl) ?_
    refine r_iload_n C 1 rfl (dk_at dk_Real_latestTold_0 11 rfl) ?_
    refine r_icmp_ne C 33 rfl (dk_at dk_Real_latestTold_0 12 rfl) (fun c3 => ?_) (fun c3 => ?_)
    · replace h := h.1 c3
      refine r_iinc C 3 rfl (iincM (m := (-1)) (by decide)) [(3, .int (a3 + (-1))), (0, .ref (wAd w 200)), (1, .int a1), (2, .int a2)] rfl rfl (dk_at dk_Real_latestTold_0 21 rfl) ?_
      refine r_goto C 7 rfl (dk_at dk_Real_latestTold_0 22 rfl) ?_
      refine r_lv [1, 2, 3, 0] rfl ?_
      exact k7 _ _ h
    · replace h := h.2 c3
      refine r_aload_n C 0 rfl (dk_at dk_Real_latestTold_0 13 rfl) ?_
      refine r_getR C fl_Real_36 200 (hL.1 200 _ rfl) rfl (dk_at dk_Real_latestTold_0 14 rfl) ?_
      refine r_iload_n C 3 rfl (dk_at dk_Real_latestTold_0 15 rfl) ?_
      obtain ⟨q4, h⟩ := h
      refine r_iald C 212 (hL.1 212 _ rfl) q4 (dk_at dk_Real_latestTold_0 16 rfl) ?_
      refine r_iload_n C 2 rfl (dk_at dk_Real_latestTold_0 17 rfl) ?_
      refine r_icmp_gt C 33 rfl (dk_at dk_Real_latestTold_0 18 rfl) (fun c5 => ?_) (fun c5 => ?_)
      · replace h := h.1 c5
        refine r_iinc C 3 rfl (iincM (m := (-1)) (by decide)) [(3, .int (a3 + (-1))), (0, .ref (wAd w 200)), (1, .int a1), (2, .int a2)] rfl rfl (dk_at dk_Real_latestTold_0 21 rfl) ?_
        refine r_goto C 7 rfl (dk_at dk_Real_latestTold_0 22 rfl) ?_
        refine r_lv [1, 2, 3, 0] rfl ?_
        exact k7 _ _ h
      · replace h := h.2 c5
        refine r_iload_n C 3 rfl (dk_at dk_Real_latestTold_0 19 rfl) ?_
        exact r_iret C h (dk_at dk_Real_latestTold_0 20 rfl)
set_option maxRecDepth 20000 in
theorem t_Real_latestTold_l7 {X : CT} {w : WO} (C : CF X w (lim0 w) 4 cX5_latestTold RX5 (some .int) (.code yX5_latestTold cX5_latestTold 4 (some .int)) (rmK 0 0)) {T : TXT} {z : EXa} (hL : LyX w T z) {a1 : Int32} {a2 : Int32} {post : Int32 → DD → Prop} {σ : DD} {a3 : Int32} (h : w_Real_latestTold_l7 T post σ a1 a2 a3) : gW X w (lim0 w) 4 (QI X w post) σ 7 [(0, .ref (wAd w 200)), (1, .int a1), (2, .int a2), (3, .int a3)] [] :=
  LoopW (G := fun x : DD × Int32 => gW X w (lim0 w) 4 (QI X w post) x.1 7 [(0, .ref (wAd w 200)), (1, .int a1), (2, .int a2), (3, .int x.2)] []) (fun K x hK hF => t_Real_latestTold_b7 C hL (fun σ a3 q => hK (σ, a3) q) hF) h
set_option maxRecDepth 20000 in
theorem m_Real_latestTold {l : Launch} {w : WO} {T : TXT} {z : EXa} (hL : LyX w T z) {σ : DD} {a1 : Int32} {a2 : Int32} {post : Int32 → DD → Prop} (h : w_Real_latestTold T σ a1 a2 post) : MI l w yX5_latestTold cX5_latestTold 4 .int (rmK 0 0) σ [.ref (wAd w 200), .int a1, .int a2] post :=
  met_head (rt := (some .int)) (by decide) rfl (fun X hX C => by
  subst hX
  unfold w_Real_latestTold at h
  show gW X w (lim0 w) 4 (QI X w post) σ 0 [(0, .ref (wAd w 200)), (1, .int a1), (2, .int a2)] []
  refine r_aload_n C 0 rfl (dk_at dk_Real_latestTold_0 0 rfl) ?_
  refine r_getI C fl_Real_93 200 (hL.1 200 _ rfl) rfl (dk_at dk_Real_latestTold_0 1 rfl) ?_
  refine r_iconst C 1 (dk_at dk_Real_latestTold_0 2 rfl) ?_
  refine r_isub C (dk_at dk_Real_latestTold_0 3 rfl) ?_
  refine r_topi (fun v6 e7 => ?_)
  replace h := h v6 e7
  refine r_istore_n C [(3, .int v6), (0, .ref (wAd w 200)), (1, .int a1), (2, .int a2)] rfl rfl (dk_at dk_Real_latestTold_0 4 rfl) ?_
  refine r_lv [1, 2, 3, 0] rfl ?_
  exact t_Real_latestTold_l7 C hL h
  )
set_option maxRecDepth 20000 in
theorem m_Court_holdsUntil {l : Launch} {w : WO} {T : TXT} {z : EXa} (hL : LyX w T z) {σ : DD} {a1 : Int32} {a2 : Int32} {post : Int32 → DD → Prop} (h : w_Court_holdsUntil T σ a1 a2 post) : MI l w yX0_holdsUntil cX0_holdsUntil 5 .int (rmK 2 73) σ [.ref (wAd w 50), .int a1, .int a2] post :=
  met_head (rt := (some .int)) (by decide) rfl (fun X hX C => by
  subst hX
  unfold w_Court_holdsUntil at h
  show gW X w (lim0 w) 5 (QI X w post) σ 0 [(0, .ref (wAd w 50)), (1, .int a1), (2, .int a2)] []
  refine r_aload_n C 0 rfl (dk_at dk_Court_holdsUntil_0 0 rfl) ?_
  refine r_getR C fl_Court_31 50 (hL.1 50 _ rfl) rfl (dk_at dk_Court_holdsUntil_0 1 rfl) ?_
  refine r_iload_n C 1 rfl (dk_at dk_Court_holdsUntil_0 2 rfl) ?_
  refine r_iload_n C 2 rfl (dk_at dk_Court_holdsUntil_0 3 rfl) ?_
  refine r_cvI C cl_Court_84 200 (hL.1 200 _ rfl) [.int a1, .int a2] (m_Real_latestTold hL h) (rmK_ok rfl rfl) rfl rfl (Nat.le_of_ble_eq_true rfl) (dk_at dk_Court_holdsUntil_0 4 rfl) (fun r1 σ2 h => ?_)
  refine r_istore_n C [(3, .int r1), (0, .ref (wAd w 50)), (1, .int a1), (2, .int a2)] rfl rfl (dk_at dk_Court_holdsUntil_0 5 rfl) ?_
  refine r_iload_n C 0 rfl (dk_at dk_Court_holdsUntil_0 6 rfl) ?_
  refine r_iconst C (-1) (dk_at dk_Court_holdsUntil_0 7 rfl) ?_
  refine r_icmp_ne C 17 rfl (dk_at dk_Court_holdsUntil_0 8 rfl) (fun c3 => ?_) (fun c3 => ?_)
  · replace h := h.1 c3
    refine r_aload_n C 1 rfl (dk_at dk_Court_holdsUntil_0 11 rfl) ?_
    refine r_getR C fl_Court_31 50 (hL.1 50 _ rfl) rfl (dk_at dk_Court_holdsUntil_0 12 rfl) ?_
    refine r_getR C fl_Court_87 200 (hL.1 200 _ rfl) rfl (dk_at dk_Court_holdsUntil_0 13 rfl) ?_
    refine r_iload_n C 0 rfl (dk_at dk_Court_holdsUntil_0 14 rfl) ?_
    obtain ⟨q4, h⟩ := h
    refine r_iald C 212 (hL.1 212 _ rfl) q4 (dk_at dk_Court_holdsUntil_0 15 rfl) ?_
    refine r_topi (fun v5 e6 => ?_)
    replace h := h v5 e6
    refine r_istore C [(4, .int v5), (3, .int r1), (0, .ref (wAd w 50)), (1, .int a1), (2, .int a2)] rfl rfl (dk_at dk_Court_holdsUntil_0 16 rfl) ?_
    refine r_iload C 0 rfl (dk_at dk_Court_holdsUntil_0 17 rfl) ?_
    refine r_aload_n C 2 rfl (dk_at dk_Court_holdsUntil_0 18 rfl) ?_
    refine r_iload_n C 3 rfl (dk_at dk_Court_holdsUntil_0 19 rfl) ?_
    refine r_aload_n C 2 rfl (dk_at dk_Court_holdsUntil_0 20 rfl) ?_
    refine r_getR C fl_Court_31 50 (hL.1 50 _ rfl) rfl (dk_at dk_Court_holdsUntil_0 21 rfl) ?_
    refine r_getR C fl_Court_90 200 (hL.1 200 _ rfl) rfl (dk_at dk_Court_holdsUntil_0 22 rfl) ?_
    refine r_iload_n C 1 rfl (dk_at dk_Court_holdsUntil_0 23 rfl) ?_
    obtain ⟨q7, h⟩ := h
    refine r_iald C 211 (hL.1 211 _ rfl) q7 (dk_at dk_Court_holdsUntil_0 24 rfl) ?_
    refine r_iload C 0 rfl (dk_at dk_Court_holdsUntil_0 25 rfl) ?_
    refine r_cvI C cl_Court_35 50 (hL.1 50 _ rfl) [.int a1, .int (gI σ2 211 r1.toNatClampNeg), .int v5] (m_Court_answerOf hL h) (rmK_ok rfl rfl) rfl rfl (Nat.le_of_ble_eq_true rfl) (dk_at dk_Court_holdsUntil_0 26 rfl) (fun r8 σ9 h => ?_)
    refine r_bipush C 127 (dk_at dk_Court_holdsUntil_0 27 rfl) ?_
    refine r_iand C (dk_at dk_Court_holdsUntil_0 28 rfl) ?_
    refine r_iadd C (dk_at dk_Court_holdsUntil_0 29 rfl) ?_
    exact r_iret C h (dk_at dk_Court_holdsUntil_0 30 rfl)
  · replace h := h.2 c3
    refine r_iconst C 0 (dk_at dk_Court_holdsUntil_0 9 rfl) ?_
    exact r_iret C h (dk_at dk_Court_holdsUntil_0 10 rfl)
  )
set_option maxRecDepth 20000 in
theorem m_Court_holds {l : Launch} {w : WO} {T : TXT} {z : EXa} (hL : LyX w T z) {σ : DD} {a1 : Int32} {a2 : Int32} {post : Int32 → DD → Prop} (h : w_Court_holds T σ a1 a2 post) : MI l w yX0_holds cX0_holds 3 .boolean (rmK 3 97) σ [.ref (wAd w 50), .int a1, .int a2] post :=
  met_head (rt := (some .boolean)) (by decide) rfl (fun X hX C => by
  subst hX
  unfold w_Court_holds at h
  show gW X w (lim0 w) 3 (QI X w post) σ 0 [(0, .ref (wAd w 50)), (1, .int a1), (2, .int a2)] []
  refine r_iload_n C 2 rfl (dk_at dk_Court_holds_0 0 rfl) ?_
  refine r_aload_n C 0 rfl (dk_at dk_Court_holds_0 1 rfl) ?_
  refine r_iload_n C 1 rfl (dk_at dk_Court_holds_0 2 rfl) ?_
  refine r_iload_n C 2 rfl (dk_at dk_Court_holds_0 3 rfl) ?_
  refine r_cvI C cl_Court_93 50 (hL.1 50 _ rfl) [.int a1, .int a2] (m_Court_holdsUntil hL h) (rmK_ok rfl rfl) rfl rfl (Nat.le_of_ble_eq_true rfl) (dk_at dk_Court_holds_0 4 rfl) (fun r1 σ2 h => ?_)
  refine r_icmp_ge C 14 rfl (dk_at dk_Court_holds_0 5 rfl) (fun c3 => ?_) (fun c3 => ?_)
  · replace h := h.1 c3
    refine r_iconst C 0 (dk_at dk_Court_holds_0 8 rfl) ?_
    exact r_zret C (Or.inl rfl) h (dk_at dk_Court_holds_0 9 rfl)
  · replace h := h.2 c3
    refine r_iconst C 1 (dk_at dk_Court_holds_0 6 rfl) ?_
    refine r_goto C 15 rfl (dk_at dk_Court_holds_0 7 rfl) ?_
    exact r_zret C (Or.inr rfl) h (dk_at dk_Court_holds_0 9 rfl)
  )
set_option maxRecDepth 20000 in
theorem t_Court_heldBits_b4 {X : CT} {w : WO} (C : CF X w (lim0 w) 4 cX0_heldBits RX0 (some .int) (.code yX0_heldBits cX0_heldBits 4 (some .int)) (rmK 3 97)) {T : TXT} {z : EXa} (hL : LyX w T z) {a1 : Int32} {K4 : DD → Int32 → Int32 → Prop} {post : Int32 → DD → Prop} (k4 : ∀ (σ : DD) (a2 : Int32) (a3 : Int32), K4 σ a2 a3 → gW X w (lim0 w) 4 (QI X w post) σ 4 [(0, .ref (wAd w 50)), (1, .int a1), (2, .int a2), (3, .int a3)] []) {σ : DD} {a2 : Int32} {a3 : Int32} (h : w_Court_heldBits_b4 T a1 K4 post σ a2 a3) : gW X w (lim0 w) 4 (QI X w post) σ 4 [(0, .ref (wAd w 50)), (1, .int a1), (2, .int a2), (3, .int a3)] [] := by
  unfold w_Court_heldBits_b4 at h
  refine r_iload_n C 3 rfl (dk_at dk_Court_heldBits_0 4 rfl) ?_
  refine r_aload_n C 0 rfl (dk_at dk_Court_heldBits_0 5 rfl) ?_
  refine r_getR C fl_Court_31 50 (hL.1 50 _ rfl) rfl (dk_at dk_Court_heldBits_0 6 rfl) ?_
  refine r_getI C fl_Court_96 200 (hL.1 200 _ rfl) rfl (dk_at dk_Court_heldBits_0 7 rfl) ?_
  refine r_icmp_ge C 37 rfl (dk_at dk_Court_heldBits_0 8 rfl) (fun c1 => ?_) (fun c1 => ?_)
  · replace h := h.1 c1
    refine r_iload_n C 2 rfl (dk_at dk_Court_heldBits_0 23 rfl) ?_
    exact r_iret C h (dk_at dk_Court_heldBits_0 24 rfl)
  · replace h := h.2 c1
    refine r_iload_n C 1 rfl (dk_at dk_Court_heldBits_0 9 rfl) ?_
    refine r_aload_n C 0 rfl (dk_at dk_Court_heldBits_0 10 rfl) ?_
    refine r_iload_n C 3 rfl (dk_at dk_Court_heldBits_0 11 rfl) ?_
    refine r_iload_n C 1 rfl (dk_at dk_Court_heldBits_0 12 rfl) ?_
    refine r_cvI C cl_Court_93 50 (hL.1 50 _ rfl) [.int a3, .int a1] (m_Court_holdsUntil hL h) (rmK_ok rfl rfl) rfl rfl (Nat.le_of_ble_eq_true rfl) (dk_at dk_Court_heldBits_0 13 rfl) (fun r2 σ3 h => ?_)
    refine r_icmp_ge C 31 rfl (dk_at dk_Court_heldBits_0 14 rfl) (fun c4 => ?_) (fun c4 => ?_)
    · replace h := h.1 c4
      refine r_iinc C 3 rfl rfl [(3, .int (a3 + 1)), (0, .ref (wAd w 50)), (1, .int a1), (2, .int a2)] rfl rfl (dk_at dk_Court_heldBits_0 21 rfl) ?_
      refine r_goto C 4 rfl (dk_at dk_Court_heldBits_0 22 rfl) ?_
      refine r_lv [1, 2, 3, 0] rfl ?_
      exact k4 _ _ _ h
    · replace h := h.2 c4
      refine r_iload_n C 2 rfl (dk_at dk_Court_heldBits_0 15 rfl) ?_
      refine r_iconst C 1 (dk_at dk_Court_heldBits_0 16 rfl) ?_
      refine r_iload_n C 3 rfl (dk_at dk_Court_heldBits_0 17 rfl) ?_
      refine r_ishl C (dk_at dk_Court_heldBits_0 18 rfl) ?_
      refine r_ior C (dk_at dk_Court_heldBits_0 19 rfl) ?_
      refine r_topi (fun v5 e6 => ?_)
      replace h := h v5 e6
      refine r_istore_n C [(2, .int v5), (0, .ref (wAd w 50)), (1, .int a1), (3, .int a3)] rfl rfl (dk_at dk_Court_heldBits_0 20 rfl) ?_
      refine r_iinc C 3 rfl rfl [(3, .int (a3 + 1)), (2, .int v5), (0, .ref (wAd w 50)), (1, .int a1)] rfl rfl (dk_at dk_Court_heldBits_0 21 rfl) ?_
      refine r_goto C 4 rfl (dk_at dk_Court_heldBits_0 22 rfl) ?_
      refine r_lv [2, 3, 1, 0] rfl ?_
      exact k4 _ _ _ h
set_option maxRecDepth 20000 in
theorem t_Court_heldBits_l4 {X : CT} {w : WO} (C : CF X w (lim0 w) 4 cX0_heldBits RX0 (some .int) (.code yX0_heldBits cX0_heldBits 4 (some .int)) (rmK 3 97)) {T : TXT} {z : EXa} (hL : LyX w T z) {a1 : Int32} {post : Int32 → DD → Prop} {σ : DD} {a2 : Int32} {a3 : Int32} (h : w_Court_heldBits_l4 T post σ a1 a2 a3) : gW X w (lim0 w) 4 (QI X w post) σ 4 [(0, .ref (wAd w 50)), (1, .int a1), (2, .int a2), (3, .int a3)] [] :=
  LoopW (G := fun x : DD × Int32 × Int32 => gW X w (lim0 w) 4 (QI X w post) x.1 4 [(0, .ref (wAd w 50)), (1, .int a1), (2, .int x.2.1), (3, .int x.2.2)] []) (fun K x hK hF => t_Court_heldBits_b4 C hL (fun σ a2 a3 q => hK (σ, a2, a3) q) hF) h
set_option maxRecDepth 20000 in
theorem m_Court_heldBits {l : Launch} {w : WO} {T : TXT} {z : EXa} (hL : LyX w T z) {σ : DD} {a1 : Int32} {post : Int32 → DD → Prop} (h : w_Court_heldBits T σ a1 post) : MI l w yX0_heldBits cX0_heldBits 4 .int (rmK 3 97) σ [.ref (wAd w 50), .int a1] post :=
  met_head (rt := (some .int)) (by decide) rfl (fun X hX C => by
  subst hX
  unfold w_Court_heldBits at h
  show gW X w (lim0 w) 4 (QI X w post) σ 0 [(0, .ref (wAd w 50)), (1, .int a1)] []
  refine r_iconst C 0 (dk_at dk_Court_heldBits_0 0 rfl) ?_
  refine r_istore_n C [(2, .int 0), (0, .ref (wAd w 50)), (1, .int a1)] rfl rfl (dk_at dk_Court_heldBits_0 1 rfl) ?_
  refine r_iconst C 0 (dk_at dk_Court_heldBits_0 2 rfl) ?_
  refine r_istore_n C [(3, .int 0), (2, .int 0), (0, .ref (wAd w 50)), (1, .int a1)] rfl rfl (dk_at dk_Court_heldBits_0 3 rfl) ?_
  refine r_lv [2, 3, 1, 0] rfl ?_
  exact t_Court_heldBits_l4 C hL h
  )
set_option maxRecDepth 20000 in
theorem t_Court_voiceLeft_b21 {X : CT} {w : WO} (C : CF X w (lim0 w) 5 cX0_voiceLeft RX0 (some .int) (.code yX0_voiceLeft cX0_voiceLeft 5 (some .int)) (rmK 2 73)) {T : TXT} {z : EXa} (hL : LyX w T z) {a1 : Int32} {a2 : Int32} {K21 : DD → Int32 → Int32 → Prop} {post : Int32 → DD → Prop} (k21 : ∀ (σ : DD) (a3 : Int32) (a4 : Int32), K21 σ a3 a4 → gW X w (lim0 w) 5 (QI X w post) σ 21 [(0, .ref (wAd w 50)), (1, .int a1), (2, .int a2), (3, .int a3), (4, .int a4)] []) {σ : DD} {a3 : Int32} {a4 : Int32} (h : w_Court_voiceLeft_b21 T a1 a2 K21 post σ a3 a4) : gW X w (lim0 w) 5 (QI X w post) σ 21 [(0, .ref (wAd w 50)), (1, .int a1), (2, .int a2), (3, .int a3), (4, .int a4)] [] := by
  unfold w_Court_voiceLeft_b21 at h
  refine r_iload C 4 rfl (dk_at dk_Court_voiceLeft_0 12 rfl) ?_
  refine r_if_lt C 85 rfl (dk_at dk_Court_voiceLeft_0 13 rfl) (fun c1 => ?_) (fun c1 => ?_)
  · replace h := h.1 c1
    refine r_iload_n C 3 rfl (dk_at dk_Court_voiceLeft_1 6 rfl) ?_
    exact r_iret C h (dk_at dk_Court_voiceLeft_1 7 rfl)
  · replace h := h.2 c1
    refine r_aload_n C 0 rfl (dk_at dk_Court_voiceLeft_0 14 rfl) ?_
    refine r_getR C fl_Court_31 50 (hL.1 50 _ rfl) rfl (dk_at dk_Court_voiceLeft_0 15 rfl) ?_
    refine r_getR C fl_Court_87 200 (hL.1 200 _ rfl) rfl (dk_at dk_Court_voiceLeft_0 16 rfl) ?_
    refine r_iload C 4 rfl (dk_at dk_Court_voiceLeft_0 17 rfl) ?_
    obtain ⟨q2, h⟩ := h
    refine r_iald C 212 (hL.1 212 _ rfl) q2 (dk_at dk_Court_voiceLeft_0 18 rfl) ?_
    refine r_iload_n C 2 rfl (dk_at dk_Court_voiceLeft_0 19 rfl) ?_
    refine r_icmp_ne C 79 rfl (dk_at dk_Court_voiceLeft_0 20 rfl) (fun c3 => ?_) (fun c3 => ?_)
    · replace h := h.1 c3
      refine r_iinc C 4 rfl (iincM (m := (-1)) (by decide)) [(4, .int (a4 + (-1))), (0, .ref (wAd w 50)), (1, .int a1), (2, .int a2), (3, .int a3)] rfl rfl (dk_at dk_Court_voiceLeft_1 4 rfl) ?_
      refine r_goto C 21 rfl (dk_at dk_Court_voiceLeft_1 5 rfl) ?_
      refine r_lv [1, 2, 3, 4, 0] rfl ?_
      exact k21 _ _ _ h
    · replace h := h.2 c3
      refine r_aload_n C 0 rfl (dk_at dk_Court_voiceLeft_0 21 rfl) ?_
      refine r_getR C fl_Court_31 50 (hL.1 50 _ rfl) rfl (dk_at dk_Court_voiceLeft_0 22 rfl) ?_
      refine r_getR C fl_Court_90 200 (hL.1 200 _ rfl) rfl (dk_at dk_Court_voiceLeft_0 23 rfl) ?_
      refine r_iload C 4 rfl (dk_at dk_Court_voiceLeft_0 24 rfl) ?_
      obtain ⟨q4, h⟩ := h
      refine r_iald C 211 (hL.1 211 _ rfl) q4 (dk_at dk_Court_voiceLeft_0 25 rfl) ?_
      refine r_iload_n C 1 rfl (dk_at dk_Court_voiceLeft_0 26 rfl) ?_
      refine r_icmp_ne C 79 rfl (dk_at dk_Court_voiceLeft_0 27 rfl) (fun c5 => ?_) (fun c5 => ?_)
      · replace h := h.1 c5
        refine r_iinc C 4 rfl (iincM (m := (-1)) (by decide)) [(4, .int (a4 + (-1))), (0, .ref (wAd w 50)), (1, .int a1), (2, .int a2), (3, .int a3)] rfl rfl (dk_at dk_Court_voiceLeft_1 4 rfl) ?_
        refine r_goto C 21 rfl (dk_at dk_Court_voiceLeft_1 5 rfl) ?_
        refine r_lv [1, 2, 3, 4, 0] rfl ?_
        exact k21 _ _ _ h
      · replace h := h.2 c5
        refine r_iload_n C 3 rfl (dk_at dk_Court_voiceLeft_0 28 rfl) ?_
        refine r_aload_n C 0 rfl (dk_at dk_Court_voiceLeft_0 29 rfl) ?_
        refine r_aload_n C 0 rfl (dk_at dk_Court_voiceLeft_0 30 rfl) ?_
        refine r_getR C fl_Court_31 50 (hL.1 50 _ rfl) rfl (dk_at dk_Court_voiceLeft_0 31 rfl) ?_
        refine r_getR C fl_Court_105 200 (hL.1 200 _ rfl) rfl (dk_at dk_Court_voiceLeft_0 32 rfl) ?_
        refine r_iload C 4 rfl (dk_at dk_Court_voiceLeft_0 33 rfl) ?_
        obtain ⟨q6, h⟩ := h
        refine r_iald C 210 (hL.1 210 _ rfl) q6 (dk_at dk_Court_voiceLeft_0 34 rfl) ?_
        refine r_iload_n C 1 rfl (dk_at dk_Court_voiceLeft_0 35 rfl) ?_
        refine r_iload_n C 2 rfl (dk_at dk_Court_voiceLeft_0 36 rfl) ?_
        refine r_cvI C cl_Court_35 50 (hL.1 50 _ rfl) [.int (gI σ 210 a4.toNatClampNeg), .int a1, .int a2] (m_Court_answerOf hL h) (rmK_ok rfl rfl) rfl rfl (Nat.le_of_ble_eq_true rfl) (dk_at dk_Court_voiceLeft_0 37 rfl) (fun r7 σ8 h => ?_)
        refine r_bipush C 7 (dk_at dk_Court_voiceLeft_0 38 rfl) ?_
        refine r_ishr C (dk_at dk_Court_voiceLeft_0 39 rfl) ?_
        refine r_bipush C 127 (dk_at dk_Court_voiceLeft_1 0 rfl) ?_
        refine r_iand C (dk_at dk_Court_voiceLeft_1 1 rfl) ?_
        refine r_isub C (dk_at dk_Court_voiceLeft_1 2 rfl) ?_
        refine r_topi (fun v9 e10 => ?_)
        replace h := h v9 e10
        refine r_istore_n C [(3, .int v9), (0, .ref (wAd w 50)), (1, .int a1), (2, .int a2), (4, .int a4)] rfl rfl (dk_at dk_Court_voiceLeft_1 3 rfl) ?_
        refine r_iinc C 4 rfl (iincM (m := (-1)) (by decide)) [(4, .int (a4 + (-1))), (3, .int v9), (0, .ref (wAd w 50)), (1, .int a1), (2, .int a2)] rfl rfl (dk_at dk_Court_voiceLeft_1 4 rfl) ?_
        refine r_goto C 21 rfl (dk_at dk_Court_voiceLeft_1 5 rfl) ?_
        refine r_lv [2, 3, 4, 1, 0] rfl ?_
        exact k21 _ _ _ h
set_option maxRecDepth 20000 in
theorem t_Court_voiceLeft_l21 {X : CT} {w : WO} (C : CF X w (lim0 w) 5 cX0_voiceLeft RX0 (some .int) (.code yX0_voiceLeft cX0_voiceLeft 5 (some .int)) (rmK 2 73)) {T : TXT} {z : EXa} (hL : LyX w T z) {a1 : Int32} {a2 : Int32} {post : Int32 → DD → Prop} {σ : DD} {a3 : Int32} {a4 : Int32} (h : w_Court_voiceLeft_l21 T post σ a1 a2 a3 a4) : gW X w (lim0 w) 5 (QI X w post) σ 21 [(0, .ref (wAd w 50)), (1, .int a1), (2, .int a2), (3, .int a3), (4, .int a4)] [] :=
  LoopW (G := fun x : DD × Int32 × Int32 => gW X w (lim0 w) 5 (QI X w post) x.1 21 [(0, .ref (wAd w 50)), (1, .int a1), (2, .int a2), (3, .int x.2.1), (4, .int x.2.2)] []) (fun K x hK hF => t_Court_voiceLeft_b21 C hL (fun σ a3 a4 q => hK (σ, a3, a4) q) hF) h
set_option maxRecDepth 20000 in
theorem m_Court_voiceLeft {l : Launch} {w : WO} {T : TXT} {z : EXa} (hL : LyX w T z) {σ : DD} {a1 : Int32} {a2 : Int32} {post : Int32 → DD → Prop} (h : w_Court_voiceLeft T σ a1 a2 post) : MI l w yX0_voiceLeft cX0_voiceLeft 5 .int (rmK 2 73) σ [.ref (wAd w 50), .int a1, .int a2] post :=
  met_head (rt := (some .int)) (by decide) rfl (fun X hX C => by
  subst hX
  unfold w_Court_voiceLeft at h
  show gW X w (lim0 w) 5 (QI X w post) σ 0 [(0, .ref (wAd w 50)), (1, .int a1), (2, .int a2)] []
  refine r_aload_n C 0 rfl (dk_at dk_Court_voiceLeft_0 0 rfl) ?_
  refine r_getR C fl_Court_31 50 (hL.1 50 _ rfl) rfl (dk_at dk_Court_voiceLeft_0 1 rfl) ?_
  refine r_getR C fl_Court_99 200 (hL.1 200 _ rfl) rfl (dk_at dk_Court_voiceLeft_0 2 rfl) ?_
  refine r_iload_n C 1 rfl (dk_at dk_Court_voiceLeft_0 3 rfl) ?_
  obtain ⟨q11, h⟩ := h
  refine r_iald C 205 (hL.1 205 _ rfl) q11 (dk_at dk_Court_voiceLeft_0 4 rfl) ?_
  refine r_topi (fun v12 e13 => ?_)
  replace h := h v12 e13
  refine r_istore_n C [(3, .int v12), (0, .ref (wAd w 50)), (1, .int a1), (2, .int a2)] rfl rfl (dk_at dk_Court_voiceLeft_0 5 rfl) ?_
  refine r_aload_n C 1 rfl (dk_at dk_Court_voiceLeft_0 6 rfl) ?_
  refine r_getR C fl_Court_31 50 (hL.1 50 _ rfl) rfl (dk_at dk_Court_voiceLeft_0 7 rfl) ?_
  refine r_getI C fl_Court_102 200 (hL.1 200 _ rfl) rfl (dk_at dk_Court_voiceLeft_0 8 rfl) ?_
  refine r_iconst C 1 (dk_at dk_Court_voiceLeft_0 9 rfl) ?_
  refine r_isub C (dk_at dk_Court_voiceLeft_0 10 rfl) ?_
  refine r_topi (fun v14 e15 => ?_)
  replace h := h v14 e15
  refine r_istore C [(4, .int v14), (3, .int v12), (0, .ref (wAd w 50)), (1, .int a1), (2, .int a2)] rfl rfl (dk_at dk_Court_voiceLeft_0 11 rfl) ?_
  refine r_lv [2, 3, 4, 1, 0] rfl ?_
  exact t_Court_voiceLeft_l21 C hL h
  )
set_option maxRecDepth 20000 in
theorem m_Real_isHeardOn {l : Launch} {w : WO} {T : TXT} {z : EXa} (hL : LyX w T z) {σ : DD} {a1 : Int32} {a2 : Int32} {post : Int32 → DD → Prop} (h : w_Real_isHeardOn T σ a1 a2 post) : MI l w yX5_isHeardOn cX5_isHeardOn 3 .boolean (rmK 1 22) σ [.ref (wAd w 200), .int a1, .int a2] post :=
  met_head (rt := (some .boolean)) (by decide) rfl (fun X hX C => by
  subst hX
  unfold w_Real_isHeardOn at h
  show gW X w (lim0 w) 3 (QI X w post) σ 0 [(0, .ref (wAd w 200)), (1, .int a1), (2, .int a2)] []
  refine r_aload_n C 0 rfl (dk_at dk_Real_isHeardOn_0 0 rfl) ?_
  refine r_iload_n C 1 rfl (dk_at dk_Real_isHeardOn_0 1 rfl) ?_
  refine r_iconst C 2 (dk_at dk_Real_isHeardOn_0 2 rfl) ?_
  refine r_cvI C cl_Real_89 200 (hL.1 200 _ rfl) [.int a1, .int 2] (m_Real_trait hL h) (rmK_ok rfl rfl) rfl rfl (Nat.le_of_ble_eq_true rfl) (dk_at dk_Real_isHeardOn_0 3 rfl) (fun r1 σ2 h => ?_)
  refine r_aload_n C 0 rfl (dk_at dk_Real_isHeardOn_0 4 rfl) ?_
  refine r_getR C fl_Real_24 200 (hL.1 200 _ rfl) rfl (dk_at dk_Real_isHeardOn_0 5 rfl) ?_
  refine r_iload_n C 2 rfl (dk_at dk_Real_isHeardOn_0 6 rfl) ?_
  refine r_bipush C 7 (dk_at dk_Real_isHeardOn_0 7 rfl) ?_
  refine r_irem C (by decide) (dk_at dk_Real_isHeardOn_0 8 rfl) ?_
  obtain ⟨q3, h⟩ := h
  refine r_iald C 207 (hL.1 207 _ rfl) q3 (dk_at dk_Real_isHeardOn_0 9 rfl) ?_
  refine r_iand C (dk_at dk_Real_isHeardOn_0 10 rfl) ?_
  refine r_if_eq C 23 rfl (dk_at dk_Real_isHeardOn_0 11 rfl) (fun c4 => ?_) (fun c4 => ?_)
  · replace h := h.1 c4
    refine r_iconst C 0 (dk_at dk_Real_isHeardOn_0 14 rfl) ?_
    exact r_zret C (Or.inl rfl) h (dk_at dk_Real_isHeardOn_0 15 rfl)
  · replace h := h.2 c4
    refine r_iconst C 1 (dk_at dk_Real_isHeardOn_0 12 rfl) ?_
    refine r_goto C 24 rfl (dk_at dk_Real_isHeardOn_0 13 rfl) ?_
    exact r_zret C (Or.inr rfl) h (dk_at dk_Real_isHeardOn_0 15 rfl)
  )
set_option maxRecDepth 20000 in
theorem m_Court_canAlone {l : Launch} {w : WO} {T : TXT} {z : EXa} (hL : LyX w T z) {σ : DD} {a1 : Int32} {a2 : Int32} {a3 : Int32} {post : Int32 → DD → Prop} (h : w_Court_canAlone T σ a1 a2 a3 post) : MI l w yX0_canAlone cX0_canAlone 5 .boolean (rmK 2 73) σ [.ref (wAd w 50), .int a1, .int a2, .int a3] post :=
  met_head (rt := (some .boolean)) (by decide) rfl (fun X hX C => by
  subst hX
  unfold w_Court_canAlone at h
  show gW X w (lim0 w) 5 (QI X w post) σ 0 [(0, .ref (wAd w 50)), (1, .int a1), (2, .int a2), (3, .int a3)] []
  refine r_aload_n C 0 rfl (dk_at dk_Court_canAlone_0 0 rfl) ?_
  refine r_iload_n C 1 rfl (dk_at dk_Court_canAlone_0 1 rfl) ?_
  refine r_iload_n C 2 rfl (dk_at dk_Court_canAlone_0 2 rfl) ?_
  refine r_iload_n C 3 rfl (dk_at dk_Court_canAlone_0 3 rfl) ?_
  refine r_cvI C cl_Court_35 50 (hL.1 50 _ rfl) [.int a1, .int a2, .int a3] (m_Court_answerOf hL h) (rmK_ok rfl rfl) rfl rfl (Nat.le_of_ble_eq_true rfl) (dk_at dk_Court_canAlone_0 4 rfl) (fun r1 σ2 h => ?_)
  refine r_istore C [(4, .int r1), (0, .ref (wAd w 50)), (1, .int a1), (2, .int a2), (3, .int a3)] rfl rfl (dk_at dk_Court_canAlone_0 5 rfl) ?_
  refine r_iload C 0 rfl (dk_at dk_Court_canAlone_0 6 rfl) ?_
  refine r_bipush C 14 (dk_at dk_Court_canAlone_0 7 rfl) ?_
  refine r_ishr C (dk_at dk_Court_canAlone_0 8 rfl) ?_
  refine r_if_ne C 29 rfl (dk_at dk_Court_canAlone_0 9 rfl) (fun c3 => ?_) (fun c3 => ?_)
  · replace h := h.1 c3
    refine r_iconst C 0 (dk_at dk_Court_canAlone_0 16 rfl) ?_
    exact r_zret C (Or.inl rfl) h (dk_at dk_Court_canAlone_0 17 rfl)
  · replace h := h.2 c3
    refine r_aload_n C 1 rfl (dk_at dk_Court_canAlone_0 10 rfl) ?_
    refine r_getR C fl_Court_31 50 (hL.1 50 _ rfl) rfl (dk_at dk_Court_canAlone_0 11 rfl) ?_
    refine r_iload_n C 2 rfl (dk_at dk_Court_canAlone_0 12 rfl) ?_
    refine r_iload_n C 4 rfl (dk_at dk_Court_canAlone_0 13 rfl) ?_
    refine r_cvI C cl_Court_108 200 (hL.1 200 _ rfl) [.int a1, .int a3] (m_Real_isHeardOn hL h) (rmK_ok rfl rfl) rfl rfl (Nat.le_of_ble_eq_true rfl) (dk_at dk_Court_canAlone_0 14 rfl) (fun r4 σ5 h => ?_)
    refine r_if_ne C 31 rfl (dk_at dk_Court_canAlone_0 15 rfl) (fun c6 => ?_) (fun c6 => ?_)
    · replace h := h.1 c6
      refine r_aload_n C 1 rfl (dk_at dk_Court_canAlone_0 18 rfl) ?_
      refine r_getR C fl_Court_31 50 (hL.1 50 _ rfl) rfl (dk_at dk_Court_canAlone_0 19 rfl) ?_
      refine r_getR C fl_Court_99 200 (hL.1 200 _ rfl) rfl (dk_at dk_Court_canAlone_0 20 rfl) ?_
      refine r_iload_n C 3 rfl (dk_at dk_Court_canAlone_0 21 rfl) ?_
      obtain ⟨q7, h⟩ := h
      refine r_iald C 205 (hL.1 205 _ rfl) q7 (dk_at dk_Court_canAlone_0 22 rfl) ?_
      refine r_iload C 0 rfl (dk_at dk_Court_canAlone_0 23 rfl) ?_
      refine r_bipush C 7 (dk_at dk_Court_canAlone_0 24 rfl) ?_
      refine r_ishr C (dk_at dk_Court_canAlone_0 25 rfl) ?_
      refine r_bipush C 127 (dk_at dk_Court_canAlone_0 26 rfl) ?_
      refine r_iand C (dk_at dk_Court_canAlone_0 27 rfl) ?_
      refine r_icmp_lt C 55 rfl (dk_at dk_Court_canAlone_0 28 rfl) (fun c8 => ?_) (fun c8 => ?_)
      · replace h := h.1 c8
        refine r_iconst C 0 (dk_at dk_Court_canAlone_0 31 rfl) ?_
        exact r_zret C (Or.inl rfl) h (dk_at dk_Court_canAlone_0 32 rfl)
      · replace h := h.2 c8
        refine r_iconst C 1 (dk_at dk_Court_canAlone_0 29 rfl) ?_
        refine r_goto C 56 rfl (dk_at dk_Court_canAlone_0 30 rfl) ?_
        exact r_zret C (Or.inr rfl) h (dk_at dk_Court_canAlone_0 32 rfl)
    · replace h := h.2 c6
      refine r_iconst C 0 (dk_at dk_Court_canAlone_0 16 rfl) ?_
      exact r_zret C (Or.inl rfl) h (dk_at dk_Court_canAlone_0 17 rfl)
  )
set_option maxRecDepth 20000 in
theorem t_Real_actsToldOn_b9 {X : CT} {w : WO} (C : CF X w (lim0 w) 4 cX5_actsToldOn RX5 (some .int) (.code yX5_actsToldOn cX5_actsToldOn 4 (some .int)) (rmK 0 0)) {T : TXT} {z : EXa} (hL : LyX w T z) {a1 : Int32} {K9 : DD → Int32 → Int32 → Prop} {post : Int32 → DD → Prop} (k9 : ∀ (σ : DD) (a2 : Int32) (a3 : Int32), K9 σ a2 a3 → gW X w (lim0 w) 4 (QI X w post) σ 9 [(0, .ref (wAd w 200)), (1, .int a1), (2, .int a2), (3, .int a3)] []) {σ : DD} {a2 : Int32} {a3 : Int32} (h : w_Real_actsToldOn_b9 T a1 K9 post σ a2 a3) : gW X w (lim0 w) 4 (QI X w post) σ 9 [(0, .ref (wAd w 200)), (1, .int a1), (2, .int a2), (3, .int a3)] [] := by
  unfold w_Real_actsToldOn_b9 at h
  refine r_iload_n C 3 rfl (dk_at dk_Real_actsToldOn_0 7 rfl) ?_
  refine r_if_lt C 40 rfl (dk_at dk_Real_actsToldOn_0 8 rfl) (fun c1 => ?_) (fun c1 => ?_)
  · replace h := h.1 c1
    refine r_iload_n C 2 rfl (dk_at dk_Real_actsToldOn_0 26 rfl) ?_
    exact r_iret C h (dk_at dk_Real_actsToldOn_0 27 rfl)
  · replace h := h.2 c1
    refine r_aload_n C 0 rfl (dk_at dk_Real_actsToldOn_0 9 rfl) ?_
    refine r_getR C fl_Real_36 200 (hL.1 200 _ rfl) rfl (dk_at dk_Real_actsToldOn_0 10 rfl) ?_
    refine r_iload_n C 3 rfl (dk_at dk_Real_actsToldOn_0 11 rfl) ?_
    obtain ⟨q2, h⟩ := h
    refine r_iald C 212 (hL.1 212 _ rfl) q2 (dk_at dk_Real_actsToldOn_0 12 rfl) ?_
    refine r_iload_n C 1 rfl (dk_at dk_Real_actsToldOn_0 13 rfl) ?_
    refine r_icmp_ne C 34 rfl (dk_at dk_Real_actsToldOn_0 14 rfl) (fun c3 => ?_) (fun c3 => ?_)
    · replace h := h.1 c3
      refine r_iinc C 3 rfl (iincM (m := (-1)) (by decide)) [(3, .int (a3 + (-1))), (0, .ref (wAd w 200)), (1, .int a1), (2, .int a2)] rfl rfl (dk_at dk_Real_actsToldOn_0 24 rfl) ?_
      refine r_goto C 9 rfl (dk_at dk_Real_actsToldOn_0 25 rfl) ?_
      refine r_lv [1, 2, 3, 0] rfl ?_
      exact k9 _ _ _ h
    · replace h := h.2 c3
      refine r_iload_n C 2 rfl (dk_at dk_Real_actsToldOn_0 15 rfl) ?_
      refine r_iconst C 1 (dk_at dk_Real_actsToldOn_0 16 rfl) ?_
      refine r_aload_n C 0 rfl (dk_at dk_Real_actsToldOn_0 17 rfl) ?_
      refine r_getR C fl_Real_30 200 (hL.1 200 _ rfl) rfl (dk_at dk_Real_actsToldOn_0 18 rfl) ?_
      refine r_iload_n C 3 rfl (dk_at dk_Real_actsToldOn_0 19 rfl) ?_
      obtain ⟨q4, h⟩ := h
      refine r_iald C 210 (hL.1 210 _ rfl) q4 (dk_at dk_Real_actsToldOn_0 20 rfl) ?_
      refine r_ishl C (dk_at dk_Real_actsToldOn_0 21 rfl) ?_
      refine r_ior C (dk_at dk_Real_actsToldOn_0 22 rfl) ?_
      refine r_topi (fun v5 e6 => ?_)
      replace h := h v5 e6
      refine r_istore_n C [(2, .int v5), (0, .ref (wAd w 200)), (1, .int a1), (3, .int a3)] rfl rfl (dk_at dk_Real_actsToldOn_0 23 rfl) ?_
      refine r_iinc C 3 rfl (iincM (m := (-1)) (by decide)) [(3, .int (a3 + (-1))), (2, .int v5), (0, .ref (wAd w 200)), (1, .int a1)] rfl rfl (dk_at dk_Real_actsToldOn_0 24 rfl) ?_
      refine r_goto C 9 rfl (dk_at dk_Real_actsToldOn_0 25 rfl) ?_
      refine r_lv [2, 3, 1, 0] rfl ?_
      exact k9 _ _ _ h
set_option maxRecDepth 20000 in
theorem t_Real_actsToldOn_l9 {X : CT} {w : WO} (C : CF X w (lim0 w) 4 cX5_actsToldOn RX5 (some .int) (.code yX5_actsToldOn cX5_actsToldOn 4 (some .int)) (rmK 0 0)) {T : TXT} {z : EXa} (hL : LyX w T z) {a1 : Int32} {post : Int32 → DD → Prop} {σ : DD} {a2 : Int32} {a3 : Int32} (h : w_Real_actsToldOn_l9 T post σ a1 a2 a3) : gW X w (lim0 w) 4 (QI X w post) σ 9 [(0, .ref (wAd w 200)), (1, .int a1), (2, .int a2), (3, .int a3)] [] :=
  LoopW (G := fun x : DD × Int32 × Int32 => gW X w (lim0 w) 4 (QI X w post) x.1 9 [(0, .ref (wAd w 200)), (1, .int a1), (2, .int x.2.1), (3, .int x.2.2)] []) (fun K x hK hF => t_Real_actsToldOn_b9 C hL (fun σ a2 a3 q => hK (σ, a2, a3) q) hF) h
set_option maxRecDepth 20000 in
theorem m_Real_actsToldOn {l : Launch} {w : WO} {T : TXT} {z : EXa} (hL : LyX w T z) {σ : DD} {a1 : Int32} {post : Int32 → DD → Prop} (h : w_Real_actsToldOn T σ a1 post) : MI l w yX5_actsToldOn cX5_actsToldOn 4 .int (rmK 0 0) σ [.ref (wAd w 200), .int a1] post :=
  met_head (rt := (some .int)) (by decide) rfl (fun X hX C => by
  subst hX
  unfold w_Real_actsToldOn at h
  show gW X w (lim0 w) 4 (QI X w post) σ 0 [(0, .ref (wAd w 200)), (1, .int a1)] []
  refine r_iconst C 0 (dk_at dk_Real_actsToldOn_0 0 rfl) ?_
  refine r_istore_n C [(2, .int 0), (0, .ref (wAd w 200)), (1, .int a1)] rfl rfl (dk_at dk_Real_actsToldOn_0 1 rfl) ?_
  refine r_aload_n C 1 rfl (dk_at dk_Real_actsToldOn_0 2 rfl) ?_
  refine r_getI C fl_Real_93 200 (hL.1 200 _ rfl) rfl (dk_at dk_Real_actsToldOn_0 3 rfl) ?_
  refine r_iconst C 1 (dk_at dk_Real_actsToldOn_0 4 rfl) ?_
  refine r_isub C (dk_at dk_Real_actsToldOn_0 5 rfl) ?_
  refine r_topi (fun v7 e8 => ?_)
  replace h := h v7 e8
  refine r_istore_n C [(3, .int v7), (2, .int 0), (0, .ref (wAd w 200)), (1, .int a1)] rfl rfl (dk_at dk_Real_actsToldOn_0 6 rfl) ?_
  refine r_lv [2, 3, 1, 0] rfl ?_
  exact t_Real_actsToldOn_l9 C hL h
  )
set_option maxRecDepth 20000 in
theorem m_Court_canButForNeed {l : Launch} {w : WO} {T : TXT} {z : EXa} (hL : LyX w T z) {σ : DD} {a1 : Int32} {a2 : Int32} {a3 : Int32} {post : Int32 → DD → Prop} (h : w_Court_canButForNeed T σ a1 a2 a3 post) : MI l w yX0_canButForNeed cX0_canButForNeed 6 .boolean (rmK 3 97) σ [.ref (wAd w 50), .int a1, .int a2, .int a3] post :=
  met_head (rt := (some .boolean)) (by decide) rfl (fun X hX C => by
  subst hX
  unfold w_Court_canButForNeed at h
  show gW X w (lim0 w) 6 (QI X w post) σ 0 [(0, .ref (wAd w 50)), (1, .int a1), (2, .int a2), (3, .int a3)] []
  refine r_aload_n C 0 rfl (dk_at dk_Court_canButForNeed_0 0 rfl) ?_
  refine r_iload_n C 1 rfl (dk_at dk_Court_canButForNeed_0 1 rfl) ?_
  refine r_iload_n C 2 rfl (dk_at dk_Court_canButForNeed_0 2 rfl) ?_
  refine r_iload_n C 3 rfl (dk_at dk_Court_canButForNeed_0 3 rfl) ?_
  refine r_cvI C cl_Court_35 50 (hL.1 50 _ rfl) [.int a1, .int a2, .int a3] (m_Court_answerOf hL h) (rmK_ok rfl rfl) rfl rfl (Nat.le_of_ble_eq_true rfl) (dk_at dk_Court_canButForNeed_0 4 rfl) (fun r1 σ2 h => ?_)
  refine r_istore C [(4, .int r1), (0, .ref (wAd w 50)), (1, .int a1), (2, .int a2), (3, .int a3)] rfl rfl (dk_at dk_Court_canButForNeed_0 5 rfl) ?_
  refine r_iload C 0 rfl (dk_at dk_Court_canButForNeed_0 6 rfl) ?_
  refine r_bipush C 14 (dk_at dk_Court_canButForNeed_0 7 rfl) ?_
  refine r_ishr C (dk_at dk_Court_canButForNeed_0 8 rfl) ?_
  refine r_if_ne C 29 rfl (dk_at dk_Court_canButForNeed_0 9 rfl) (fun c3 => ?_) (fun c3 => ?_)
  · replace h := h.1 c3
    refine r_iconst C 0 (dk_at dk_Court_canButForNeed_0 16 rfl) ?_
    exact r_zret C (Or.inl rfl) h (dk_at dk_Court_canButForNeed_0 17 rfl)
  · replace h := h.2 c3
    refine r_aload_n C 1 rfl (dk_at dk_Court_canButForNeed_0 10 rfl) ?_
    refine r_getR C fl_Court_31 50 (hL.1 50 _ rfl) rfl (dk_at dk_Court_canButForNeed_0 11 rfl) ?_
    refine r_iload_n C 2 rfl (dk_at dk_Court_canButForNeed_0 12 rfl) ?_
    refine r_iload_n C 4 rfl (dk_at dk_Court_canButForNeed_0 13 rfl) ?_
    refine r_cvI C cl_Court_108 200 (hL.1 200 _ rfl) [.int a1, .int a3] (m_Real_isHeardOn hL h) (rmK_ok rfl rfl) rfl rfl (Nat.le_of_ble_eq_true rfl) (dk_at dk_Court_canButForNeed_0 14 rfl) (fun r4 σ5 h => ?_)
    refine r_if_ne C 31 rfl (dk_at dk_Court_canButForNeed_0 15 rfl) (fun c6 => ?_) (fun c6 => ?_)
    · replace h := h.1 c6
      refine r_aload_n C 1 rfl (dk_at dk_Court_canButForNeed_0 18 rfl) ?_
      refine r_getR C fl_Court_31 50 (hL.1 50 _ rfl) rfl (dk_at dk_Court_canButForNeed_0 19 rfl) ?_
      refine r_getR C fl_Court_112 200 (hL.1 200 _ rfl) rfl (dk_at dk_Court_canButForNeed_0 20 rfl) ?_
      refine r_iload_n C 2 rfl (dk_at dk_Court_canButForNeed_0 21 rfl) ?_
      obtain ⟨q7, h⟩ := h
      refine r_iald C 203 (hL.1 203 _ rfl) q7 (dk_at dk_Court_canButForNeed_0 22 rfl) ?_
      refine r_iconst C 1 (dk_at dk_Court_canButForNeed_0 23 rfl) ?_
      refine r_iload_n C 2 rfl (dk_at dk_Court_canButForNeed_0 24 rfl) ?_
      refine r_ishl C (dk_at dk_Court_canButForNeed_0 25 rfl) ?_
      refine r_ior C (dk_at dk_Court_canButForNeed_0 26 rfl) ?_
      refine r_topi (fun v8 e9 => ?_)
      replace h := h v8 e9
      refine r_istore C [(5, .int v8), (4, .int r1), (0, .ref (wAd w 50)), (1, .int a1), (2, .int a2), (3, .int a3)] rfl rfl (dk_at dk_Court_canButForNeed_0 27 rfl) ?_
      refine r_aload_n C 2 rfl (dk_at dk_Court_canButForNeed_0 28 rfl) ?_
      refine r_getR C fl_Court_31 50 (hL.1 50 _ rfl) rfl (dk_at dk_Court_canButForNeed_0 29 rfl) ?_
      refine r_iload_n C 5 rfl (dk_at dk_Court_canButForNeed_0 30 rfl) ?_
      refine r_cvI C cl_Court_115 200 (hL.1 200 _ rfl) [.int a3] (m_Real_actsToldOn hL h) (rmK_ok rfl rfl) rfl rfl (Nat.le_of_ble_eq_true rfl) (dk_at dk_Court_canButForNeed_0 31 rfl) (fun r10 σ11 h => ?_)
      refine r_iload C 0 rfl (dk_at dk_Court_canButForNeed_0 32 rfl) ?_
      refine r_iand C (dk_at dk_Court_canButForNeed_0 33 rfl) ?_
      refine r_if_eq C 62 rfl (dk_at dk_Court_canButForNeed_0 34 rfl) (fun c12 => ?_) (fun c12 => ?_)
      · replace h := h.1 c12
        refine r_aload_n C 2 rfl (dk_at dk_Court_canButForNeed_0 37 rfl) ?_
        refine r_iload_n C 4 rfl (dk_at dk_Court_canButForNeed_0 38 rfl) ?_
        refine r_iload_n C 5 rfl (dk_at dk_Court_canButForNeed_0 39 rfl) ?_
        refine r_cvI C cl_Court_118 50 (hL.1 50 _ rfl) [.int a2, .int a3] (m_Court_voiceLeft hL h) (rmK_ok rfl rfl) rfl rfl (Nat.le_of_ble_eq_true rfl) (dk_at dk_Court_canButForNeed_1 0 rfl) (fun r13 σ14 h => ?_)
        refine r_iload C 1 rfl (dk_at dk_Court_canButForNeed_1 1 rfl) ?_
        refine r_bipush C 7 (dk_at dk_Court_canButForNeed_1 2 rfl) ?_
        refine r_ishr C (dk_at dk_Court_canButForNeed_1 3 rfl) ?_
        refine r_bipush C 127 (dk_at dk_Court_canButForNeed_1 4 rfl) ?_
        refine r_iand C (dk_at dk_Court_canButForNeed_1 5 rfl) ?_
        refine r_icmp_lt C 83 rfl (dk_at dk_Court_canButForNeed_1 6 rfl) (fun c15 => ?_) (fun c15 => ?_)
        · replace h := h.1 c15
          refine r_iconst C 0 (dk_at dk_Court_canButForNeed_1 9 rfl) ?_
          exact r_zret C (Or.inl rfl) h (dk_at dk_Court_canButForNeed_1 10 rfl)
        · replace h := h.2 c15
          refine r_iconst C 1 (dk_at dk_Court_canButForNeed_1 7 rfl) ?_
          refine r_goto C 84 rfl (dk_at dk_Court_canButForNeed_1 8 rfl) ?_
          exact r_zret C (Or.inr rfl) h (dk_at dk_Court_canButForNeed_1 10 rfl)
      · replace h := h.2 c12
        refine r_iconst C 0 (dk_at dk_Court_canButForNeed_0 35 rfl) ?_
        exact r_zret C (Or.inl rfl) h (dk_at dk_Court_canButForNeed_0 36 rfl)
    · replace h := h.2 c6
      refine r_iconst C 0 (dk_at dk_Court_canButForNeed_0 16 rfl) ?_
      exact r_zret C (Or.inl rfl) h (dk_at dk_Court_canButForNeed_0 17 rfl)
  )
set_option maxRecDepth 20000 in
theorem m_Court_isNeedHeld {l : Launch} {w : WO} {T : TXT} {z : EXa} (hL : LyX w T z) {σ : DD} {a1 : Int32} {a2 : Int32} {post : Int32 → DD → Prop} (h : w_Court_isNeedHeld T σ a1 a2 post) : MI l w yX0_isNeedHeld cX0_isNeedHeld 4 .boolean (rmK 3 97) σ [.ref (wAd w 50), .int a1, .int a2] post :=
  met_head (rt := (some .boolean)) (by decide) rfl (fun X hX C => by
  subst hX
  unfold w_Court_isNeedHeld at h
  show gW X w (lim0 w) 4 (QI X w post) σ 0 [(0, .ref (wAd w 50)), (1, .int a1), (2, .int a2)] []
  refine r_aload_n C 0 rfl (dk_at dk_Court_isNeedHeld_0 0 rfl) ?_
  refine r_getR C fl_Court_31 50 (hL.1 50 _ rfl) rfl (dk_at dk_Court_isNeedHeld_0 1 rfl) ?_
  refine r_iload_n C 1 rfl (dk_at dk_Court_isNeedHeld_0 2 rfl) ?_
  refine r_iconst C 3 (dk_at dk_Court_isNeedHeld_0 3 rfl) ?_
  refine r_cvI C cl_Court_39 200 (hL.1 200 _ rfl) [.int a1, .int 3] (m_Real_trait hL h) (rmK_ok rfl rfl) rfl rfl (Nat.le_of_ble_eq_true rfl) (dk_at dk_Court_isNeedHeld_0 4 rfl) (fun r1 σ2 h => ?_)
  refine r_istore_n C [(3, .int r1), (0, .ref (wAd w 50)), (1, .int a1), (2, .int a2)] rfl rfl (dk_at dk_Court_isNeedHeld_0 5 rfl) ?_
  refine r_iload_n C 0 rfl (dk_at dk_Court_isNeedHeld_0 6 rfl) ?_
  refine r_iconst C (-1) (dk_at dk_Court_isNeedHeld_0 7 rfl) ?_
  refine r_icmp_eq C 25 rfl (dk_at dk_Court_isNeedHeld_0 8 rfl) (fun c3 => ?_) (fun c3 => ?_)
  · replace h := h.1 c3
    refine r_iconst C 1 (dk_at dk_Court_isNeedHeld_0 15 rfl) ?_
    refine r_goto C 30 rfl (dk_at dk_Court_isNeedHeld_0 16 rfl) ?_
    exact r_zret C (Or.inr rfl) h (dk_at dk_Court_isNeedHeld_0 18 rfl)
  · replace h := h.2 c3
    refine r_iload_n C 3 rfl (dk_at dk_Court_isNeedHeld_0 9 rfl) ?_
    refine r_aload_n C 1 rfl (dk_at dk_Court_isNeedHeld_0 10 rfl) ?_
    refine r_iload_n C 0 rfl (dk_at dk_Court_isNeedHeld_0 11 rfl) ?_
    refine r_iload_n C 3 rfl (dk_at dk_Court_isNeedHeld_0 12 rfl) ?_
    refine r_cvI C cl_Court_93 50 (hL.1 50 _ rfl) [.int r1, .int a2] (m_Court_holdsUntil hL h) (rmK_ok rfl rfl) rfl rfl (Nat.le_of_ble_eq_true rfl) (dk_at dk_Court_isNeedHeld_0 13 rfl) (fun r4 σ5 h => ?_)
    refine r_icmp_ge C 29 rfl (dk_at dk_Court_isNeedHeld_0 14 rfl) (fun c6 => ?_) (fun c6 => ?_)
    · replace h := h.1 c6
      refine r_iconst C 0 (dk_at dk_Court_isNeedHeld_0 17 rfl) ?_
      exact r_zret C (Or.inl rfl) h (dk_at dk_Court_isNeedHeld_0 18 rfl)
    · replace h := h.2 c6
      refine r_iconst C 1 (dk_at dk_Court_isNeedHeld_0 15 rfl) ?_
      refine r_goto C 30 rfl (dk_at dk_Court_isNeedHeld_0 16 rfl) ?_
      exact r_zret C (Or.inr rfl) h (dk_at dk_Court_isNeedHeld_0 18 rfl)
  )
set_option maxRecDepth 20000 in
theorem m_Court_can {l : Launch} {w : WO} {T : TXT} {z : EXa} (hL : LyX w T z) {σ : DD} {a1 : Int32} {a2 : Int32} {a3 : Int32} {post : Int32 → DD → Prop} (h : w_Court_can T σ a1 a2 a3 post) : MI l w yX0_can cX0_can 4 .boolean (rmK 4 122) σ [.ref (wAd w 50), .int a1, .int a2, .int a3] post :=
  met_head (rt := (some .boolean)) (by decide) rfl (fun X hX C => by
  subst hX
  unfold w_Court_can at h
  show gW X w (lim0 w) 4 (QI X w post) σ 0 [(0, .ref (wAd w 50)), (1, .int a1), (2, .int a2), (3, .int a3)] []
  refine r_aload_n C 0 rfl (dk_at dk_Court_can_0 0 rfl) ?_
  refine r_iload_n C 1 rfl (dk_at dk_Court_can_0 1 rfl) ?_
  refine r_iload_n C 2 rfl (dk_at dk_Court_can_0 2 rfl) ?_
  refine r_iload_n C 3 rfl (dk_at dk_Court_can_0 3 rfl) ?_
  refine r_cvI C cl_Court_121 50 (hL.1 50 _ rfl) [.int a1, .int a2, .int a3] (m_Court_canButForNeed hL h) (rmK_ok rfl rfl) rfl rfl (Nat.le_of_ble_eq_true rfl) (dk_at dk_Court_can_0 4 rfl) (fun r1 σ2 h => ?_)
  refine r_if_eq C 23 rfl (dk_at dk_Court_can_0 5 rfl) (fun c3 => ?_) (fun c3 => ?_)
  · replace h := h.1 c3
    refine r_iconst C 0 (dk_at dk_Court_can_0 13 rfl) ?_
    exact r_zret C (Or.inl rfl) h (dk_at dk_Court_can_0 14 rfl)
  · replace h := h.2 c3
    refine r_aload_n C 0 rfl (dk_at dk_Court_can_0 6 rfl) ?_
    refine r_iload_n C 1 rfl (dk_at dk_Court_can_0 7 rfl) ?_
    refine r_iload_n C 3 rfl (dk_at dk_Court_can_0 8 rfl) ?_
    refine r_cvI C cl_Court_125 50 (hL.1 50 _ rfl) [.int a1, .int a3] (m_Court_isNeedHeld hL h) (rmK_ok rfl rfl) rfl rfl (Nat.le_of_ble_eq_true rfl) (dk_at dk_Court_can_0 9 rfl) (fun r4 σ5 h => ?_)
    refine r_if_eq C 23 rfl (dk_at dk_Court_can_0 10 rfl) (fun c6 => ?_) (fun c6 => ?_)
    · replace h := h.1 c6
      refine r_iconst C 0 (dk_at dk_Court_can_0 13 rfl) ?_
      exact r_zret C (Or.inl rfl) h (dk_at dk_Court_can_0 14 rfl)
    · replace h := h.2 c6
      refine r_iconst C 1 (dk_at dk_Court_can_0 11 rfl) ?_
      refine r_goto C 24 rfl (dk_at dk_Court_can_0 12 rfl) ?_
      exact r_zret C (Or.inr rfl) h (dk_at dk_Court_can_0 14 rfl)
  )
set_option maxRecDepth 20000 in
theorem m_Real_isAct {l : Launch} {w : WO} {T : TXT} {z : EXa} (hL : LyX w T z) {σ : DD} {a1 : Int32} {post : Int32 → DD → Prop} (h : w_Real_isAct T σ a1 post) : MI l w yX5_isAct cX5_isAct 2 .boolean (rmK 0 0) σ [.ref (wAd w 200), .int a1] post :=
  met_head (rt := (some .boolean)) (by decide) rfl (fun X hX C => by
  subst hX
  unfold w_Real_isAct at h
  show gW X w (lim0 w) 2 (QI X w post) σ 0 [(0, .ref (wAd w 200)), (1, .int a1)] []
  refine r_iload_n C 1 rfl (dk_at dk_Real_isAct_0 0 rfl) ?_
  refine r_if_lt C 16 rfl (dk_at dk_Real_isAct_0 1 rfl) (fun c1 => ?_) (fun c1 => ?_)
  · replace h := h.1 c1
    refine r_iconst C 0 (dk_at dk_Real_isAct_0 8 rfl) ?_
    exact r_zret C (Or.inl rfl) h (dk_at dk_Real_isAct_0 9 rfl)
  · replace h := h.2 c1
    refine r_iload_n C 1 rfl (dk_at dk_Real_isAct_0 2 rfl) ?_
    refine r_aload_n C 0 rfl (dk_at dk_Real_isAct_0 3 rfl) ?_
    refine r_getI C fl_Real_83 200 (hL.1 200 _ rfl) rfl (dk_at dk_Real_isAct_0 4 rfl) ?_
    refine r_icmp_ge C 16 rfl (dk_at dk_Real_isAct_0 5 rfl) (fun c2 => ?_) (fun c2 => ?_)
    · replace h := h.1 c2
      refine r_iconst C 0 (dk_at dk_Real_isAct_0 8 rfl) ?_
      exact r_zret C (Or.inl rfl) h (dk_at dk_Real_isAct_0 9 rfl)
    · replace h := h.2 c2
      refine r_iconst C 1 (dk_at dk_Real_isAct_0 6 rfl) ?_
      refine r_goto C 17 rfl (dk_at dk_Real_isAct_0 7 rfl) ?_
      exact r_zret C (Or.inr rfl) h (dk_at dk_Real_isAct_0 9 rfl)
  )
set_option maxRecDepth 20000 in
theorem m_Real_isReader {l : Launch} {w : WO} {T : TXT} {z : EXa} (hL : LyX w T z) {σ : DD} {a1 : Int32} {post : Int32 → DD → Prop} (h : w_Real_isReader T σ a1 post) : MI l w yX5_isReader cX5_isReader 2 .boolean (rmK 0 0) σ [.ref (wAd w 200), .int a1] post :=
  met_head (rt := (some .boolean)) (by decide) rfl (fun X hX C => by
  subst hX
  unfold w_Real_isReader at h
  show gW X w (lim0 w) 2 (QI X w post) σ 0 [(0, .ref (wAd w 200)), (1, .int a1)] []
  refine r_iload_n C 1 rfl (dk_at dk_Real_isReader_0 0 rfl) ?_
  refine r_if_lt C 16 rfl (dk_at dk_Real_isReader_0 1 rfl) (fun c1 => ?_) (fun c1 => ?_)
  · replace h := h.1 c1
    refine r_iconst C 0 (dk_at dk_Real_isReader_0 8 rfl) ?_
    exact r_zret C (Or.inl rfl) h (dk_at dk_Real_isReader_0 9 rfl)
  · replace h := h.2 c1
    refine r_iload_n C 1 rfl (dk_at dk_Real_isReader_0 2 rfl) ?_
    refine r_aload_n C 0 rfl (dk_at dk_Real_isReader_0 3 rfl) ?_
    refine r_getI C fl_Real_86 200 (hL.1 200 _ rfl) rfl (dk_at dk_Real_isReader_0 4 rfl) ?_
    refine r_icmp_ge C 16 rfl (dk_at dk_Real_isReader_0 5 rfl) (fun c2 => ?_) (fun c2 => ?_)
    · replace h := h.1 c2
      refine r_iconst C 0 (dk_at dk_Real_isReader_0 8 rfl) ?_
      exact r_zret C (Or.inl rfl) h (dk_at dk_Real_isReader_0 9 rfl)
    · replace h := h.2 c2
      refine r_iconst C 1 (dk_at dk_Real_isReader_0 6 rfl) ?_
      refine r_goto C 17 rfl (dk_at dk_Real_isReader_0 7 rfl) ?_
      exact r_zret C (Or.inr rfl) h (dk_at dk_Real_isReader_0 9 rfl)
  )
set_option maxRecDepth 20000 in
theorem m_Real_write {l : Launch} {w : WO} {T : TXT} {z : EXa} (hL : LyX w T z) {σ : DD} {a1 : Int32} {a2 : Int32} {a3 : Int32} {post : DD → Prop} (h : w_Real_write T σ a1 a2 a3 post) : MV l w yX5_write cX5_write 4 (rmK 0 0) σ [.ref (wAd w 200), .int a1, .int a2, .int a3] post :=
  met_head (rt := none) (by decide) rfl (fun X hX C => by
  subst hX
  unfold w_Real_write at h
  show gW X w (lim0 w) 4 (QV X w post) σ 0 [(0, .ref (wAd w 200)), (1, .int a1), (2, .int a2), (3, .int a3)] []
  refine r_aload_n C 0 rfl (dk_at dk_Real_write_0 0 rfl) ?_
  refine r_getI C fl_Real_93 200 (hL.1 200 _ rfl) rfl (dk_at dk_Real_write_0 1 rfl) ?_
  refine r_aload_n C 0 rfl (dk_at dk_Real_write_0 2 rfl) ?_
  refine r_getR C fl_Real_30 200 (hL.1 200 _ rfl) rfl (dk_at dk_Real_write_0 3 rfl) ?_
  refine r_alenI C 210 (hL.1 210 _ rfl) (by decide) 84 (by decide) (dk_at dk_Real_write_0 4 rfl) ?_
  refine r_icmp_lt C 13 rfl (dk_at dk_Real_write_0 5 rfl) (fun c1 => ?_) (fun c1 => ?_)
  · replace h := h.1 c1
    refine r_aload_n C 0 rfl (dk_at dk_Real_write_0 7 rfl) ?_
    refine r_getR C fl_Real_30 200 (hL.1 200 _ rfl) rfl (dk_at dk_Real_write_0 8 rfl) ?_
    refine r_aload_n C 0 rfl (dk_at dk_Real_write_0 9 rfl) ?_
    refine r_getI C fl_Real_93 200 (hL.1 200 _ rfl) rfl (dk_at dk_Real_write_0 10 rfl) ?_
    refine r_iload_n C 1 rfl (dk_at dk_Real_write_0 11 rfl) ?_
    obtain ⟨q4, h⟩ := h
    refine r_iast C 210 (hL.1 210 _ rfl) q4 (dk_at dk_Real_write_0 12 rfl) (r_sg (fun σ2 e3 => ?_))
    replace h := h σ2 e3
    refine r_aload_n C 0 rfl (dk_at dk_Real_write_0 13 rfl) ?_
    refine r_getR C fl_Real_33 200 (hL.1 200 _ rfl) rfl (dk_at dk_Real_write_0 14 rfl) ?_
    refine r_aload_n C 0 rfl (dk_at dk_Real_write_0 15 rfl) ?_
    refine r_getI C fl_Real_93 200 (hL.1 200 _ rfl) rfl (dk_at dk_Real_write_0 16 rfl) ?_
    refine r_iload_n C 2 rfl (dk_at dk_Real_write_0 17 rfl) ?_
    obtain ⟨q7, h⟩ := h
    refine r_iast C 211 (hL.1 211 _ rfl) q7 (dk_at dk_Real_write_0 18 rfl) (r_sg (fun σ5 e6 => ?_))
    replace h := h σ5 e6
    refine r_aload_n C 0 rfl (dk_at dk_Real_write_0 19 rfl) ?_
    refine r_getR C fl_Real_36 200 (hL.1 200 _ rfl) rfl (dk_at dk_Real_write_0 20 rfl) ?_
    refine r_aload_n C 0 rfl (dk_at dk_Real_write_0 21 rfl) ?_
    refine r_getI C fl_Real_93 200 (hL.1 200 _ rfl) rfl (dk_at dk_Real_write_0 22 rfl) ?_
    refine r_iload_n C 3 rfl (dk_at dk_Real_write_0 23 rfl) ?_
    obtain ⟨q10, h⟩ := h
    refine r_iast C 212 (hL.1 212 _ rfl) q10 (dk_at dk_Real_write_0 24 rfl) (r_sg (fun σ8 e9 => ?_))
    replace h := h σ8 e9
    refine r_aload_n C 0 rfl (dk_at dk_Real_write_0 25 rfl) ?_
    refine r_dup C rfl (dk_at dk_Real_write_0 26 rfl) ?_
    refine r_getI C fl_Real_93 200 (hL.1 200 _ rfl) rfl (dk_at dk_Real_write_0 27 rfl) ?_
    refine r_iconst C 1 (dk_at dk_Real_write_0 28 rfl) ?_
    refine r_iadd C (dk_at dk_Real_write_0 29 rfl) ?_
    refine r_putI C fl_Real_93 200 (hL.1 200 _ rfl) rfl (dk_at dk_Real_write_0 30 rfl) (r_sg (fun σ11 e12 => ?_))
    replace h := h σ11 e12
    exact r_vret C h (dk_at dk_Real_write_0 31 rfl)
  · replace h := h.2 c1
    exact r_vret C h (dk_at dk_Real_write_0 6 rfl)
  )
set_option maxRecDepth 20000 in
theorem m_Court_tell {l : Launch} {w : WO} {T : TXT} {z : EXa} (hL : LyX w T z) {σ : DD} {a1 : Int32} {a2 : Int32} {post : Int32 → DD → Prop} (h : w_Court_tell T σ a1 a2 post) : MI l w yX0_tell cX0_tell 4 .int (rmK 4 122) σ [.ref (wAd w 50), .int a1, .int a2] post :=
  met_head (rt := (some .int)) (by decide) rfl (fun X hX C => by
  subst hX
  unfold w_Court_tell at h
  show gW X w (lim0 w) 4 (QI X w post) σ 0 [(0, .ref (wAd w 50)), (1, .int a1), (2, .int a2)] []
  refine r_aload_n C 0 rfl (dk_at dk_Court_tell_0 0 rfl) ?_
  refine r_getR C fl_Court_31 50 (hL.1 50 _ rfl) rfl (dk_at dk_Court_tell_0 1 rfl) ?_
  refine r_iload_n C 1 rfl (dk_at dk_Court_tell_0 2 rfl) ?_
  refine r_cvI C cl_Court_128 200 (hL.1 200 _ rfl) [.int a1] (m_Real_isAct hL h) (rmK_ok rfl rfl) rfl rfl (Nat.le_of_ble_eq_true rfl) (dk_at dk_Court_tell_0 3 rfl) (fun r1 σ2 h => ?_)
  refine r_if_eq C 22 rfl (dk_at dk_Court_tell_0 4 rfl) (fun c3 => ?_) (fun c3 => ?_)
  · replace h := h.1 c3
    refine r_bipush C (-2) (dk_at dk_Court_tell_0 10 rfl) ?_
    exact r_iret C h (dk_at dk_Court_tell_0 11 rfl)
  · replace h := h.2 c3
    refine r_aload_n C 0 rfl (dk_at dk_Court_tell_0 5 rfl) ?_
    refine r_getR C fl_Court_31 50 (hL.1 50 _ rfl) rfl (dk_at dk_Court_tell_0 6 rfl) ?_
    refine r_iload_n C 2 rfl (dk_at dk_Court_tell_0 7 rfl) ?_
    refine r_cvI C cl_Court_132 200 (hL.1 200 _ rfl) [.int a2] (m_Real_isReader hL h) (rmK_ok rfl rfl) rfl rfl (Nat.le_of_ble_eq_true rfl) (dk_at dk_Court_tell_0 8 rfl) (fun r4 σ5 h => ?_)
    refine r_if_ne C 25 rfl (dk_at dk_Court_tell_0 9 rfl) (fun c6 => ?_) (fun c6 => ?_)
    · replace h := h.1 c6
      refine r_aload_n C 0 rfl (dk_at dk_Court_tell_0 12 rfl) ?_
      refine r_getR C fl_Court_31 50 (hL.1 50 _ rfl) rfl (dk_at dk_Court_tell_0 13 rfl) ?_
      refine r_getR C fl_Court_58 200 (hL.1 200 _ rfl) rfl (dk_at dk_Court_tell_0 14 rfl) ?_
      refine r_iconst C 0 (dk_at dk_Court_tell_0 15 rfl) ?_
      refine r_ialdK C 208 (hL.1 208 _ rfl) lk_0 (vk_0_4) (dk_at dk_Court_tell_0 16 rfl) ?_
      refine r_topi (fun v7 e8 => ?_)
      replace h := h v7 e8
      refine r_istore_n C [(3, .int v7), (0, .ref (wAd w 50)), (1, .int a1), (2, .int a2)] rfl rfl (dk_at dk_Court_tell_0 17 rfl) ?_
      refine r_aload_n C 1 rfl (dk_at dk_Court_tell_0 18 rfl) ?_
      refine r_iload_n C 2 rfl (dk_at dk_Court_tell_0 19 rfl) ?_
      refine r_iload_n C 3 rfl (dk_at dk_Court_tell_0 20 rfl) ?_
      refine r_iload_n C 0 rfl (dk_at dk_Court_tell_0 21 rfl) ?_
      refine r_cvI C cl_Court_121 50 (hL.1 50 _ rfl) [.int a1, .int a2, .int v7] (m_Court_canButForNeed hL h) (rmK_ok rfl rfl) rfl rfl (Nat.le_of_ble_eq_true rfl) (dk_at dk_Court_tell_0 22 rfl) (fun r9 σ10 h => ?_)
      refine r_if_eq C 54 rfl (dk_at dk_Court_tell_0 23 rfl) (fun c11 => ?_) (fun c11 => ?_)
      · replace h := h.1 c11
        refine r_bipush C (-3) (dk_at dk_Court_tell_0 29 rfl) ?_
        exact r_iret C h (dk_at dk_Court_tell_0 30 rfl)
      · replace h := h.2 c11
        refine r_aload_n C 1 rfl (dk_at dk_Court_tell_0 24 rfl) ?_
        refine r_iload_n C 2 rfl (dk_at dk_Court_tell_0 25 rfl) ?_
        refine r_iload_n C 0 rfl (dk_at dk_Court_tell_0 26 rfl) ?_
        refine r_cvI C cl_Court_125 50 (hL.1 50 _ rfl) [.int a1, .int v7] (m_Court_isNeedHeld hL h) (rmK_ok rfl rfl) rfl rfl (Nat.le_of_ble_eq_true rfl) (dk_at dk_Court_tell_0 27 rfl) (fun r12 σ13 h => ?_)
        refine r_if_ne C 57 rfl (dk_at dk_Court_tell_0 28 rfl) (fun c14 => ?_) (fun c14 => ?_)
        · replace h := h.1 c14
          refine r_aload_n C 1 rfl (dk_at dk_Court_tell_0 31 rfl) ?_
          refine r_getR C fl_Court_31 50 (hL.1 50 _ rfl) rfl (dk_at dk_Court_tell_0 32 rfl) ?_
          refine r_getI C fl_Court_102 200 (hL.1 200 _ rfl) rfl (dk_at dk_Court_tell_0 33 rfl) ?_
          refine r_bipush C 24 (dk_at dk_Court_tell_0 34 rfl) ?_
          refine r_icmp_lt C 72 rfl (dk_at dk_Court_tell_0 35 rfl) (fun c15 => ?_) (fun c15 => ?_)
          · replace h := h.1 c15
            refine r_aload_n C 1 rfl (dk_at dk_Court_tell_0 38 rfl) ?_
            refine r_getR C fl_Court_31 50 (hL.1 50 _ rfl) rfl (dk_at dk_Court_tell_0 39 rfl) ?_
            refine r_iload_n C 2 rfl (dk_at dk_Court_tell_1 0 rfl) ?_
            refine r_iload_n C 3 rfl (dk_at dk_Court_tell_1 1 rfl) ?_
            refine r_iload_n C 0 rfl (dk_at dk_Court_tell_1 2 rfl) ?_
            refine r_cvV C cl_Court_135 200 (hL.1 200 _ rfl) [.int a1, .int a2, .int v7] (m_Real_write hL h) (rmK_ok rfl rfl) rfl rfl (Nat.le_of_ble_eq_true rfl) (dk_at dk_Court_tell_1 3 rfl) (fun σ17 h => ?_)
            refine r_aload_n C 1 rfl (dk_at dk_Court_tell_1 4 rfl) ?_
            refine r_iload_n C 3 rfl (dk_at dk_Court_tell_1 5 rfl) ?_
            refine r_iload_n C 0 rfl (dk_at dk_Court_tell_1 6 rfl) ?_
            refine r_cvI C cl_Court_118 50 (hL.1 50 _ rfl) [.int a2, .int v7] (m_Court_voiceLeft hL h) (rmK_ok rfl rfl) rfl rfl (Nat.le_of_ble_eq_true rfl) (dk_at dk_Court_tell_1 7 rfl) (fun r18 σ19 h => ?_)
            exact r_iret C h (dk_at dk_Court_tell_1 8 rfl)
          · replace h := h.2 c15
            refine r_bipush C (-5) (dk_at dk_Court_tell_0 36 rfl) ?_
            exact r_iret C h (dk_at dk_Court_tell_0 37 rfl)
        · replace h := h.2 c14
          refine r_bipush C (-3) (dk_at dk_Court_tell_0 29 rfl) ?_
          exact r_iret C h (dk_at dk_Court_tell_0 30 rfl)
    · replace h := h.2 c6
      refine r_bipush C (-2) (dk_at dk_Court_tell_0 10 rfl) ?_
      exact r_iret C h (dk_at dk_Court_tell_0 11 rfl)
  )
set_option maxRecDepth 20000 in
theorem m_Court_nextDay {l : Launch} {w : WO} {T : TXT} {z : EXa} (hL : LyX w T z) {σ : DD} {post : Int32 → DD → Prop} (h : w_Court_nextDay T σ post) : MI l w yX0_nextDay cX0_nextDay 2 .int (rmK 4 120) σ [.ref (wAd w 50)] post :=
  met_head (rt := (some .int)) (by decide) rfl (fun X hX C => by
  subst hX
  unfold w_Court_nextDay at h
  show gW X w (lim0 w) 2 (QI X w post) σ 0 [(0, .ref (wAd w 50))] []
  refine r_aload_n C 0 rfl (dk_at dk_Court_nextDay_0 0 rfl) ?_
  refine r_getR C fl_Court_31 50 (hL.1 50 _ rfl) rfl (dk_at dk_Court_nextDay_0 1 rfl) ?_
  refine r_getR C fl_Court_58 200 (hL.1 200 _ rfl) rfl (dk_at dk_Court_nextDay_0 2 rfl) ?_
  refine r_iconst C 0 (dk_at dk_Court_nextDay_0 3 rfl) ?_
  refine r_ialdK C 208 (hL.1 208 _ rfl) lk_0 (vk_0_4) (dk_at dk_Court_nextDay_0 4 rfl) ?_
  refine r_topi (fun v1 e2 => ?_)
  replace h := h v1 e2
  refine r_istore_n C [(1, .int v1), (0, .ref (wAd w 50))] rfl rfl (dk_at dk_Court_nextDay_0 5 rfl) ?_
  refine r_iload_n C 0 rfl (dk_at dk_Court_nextDay_0 6 rfl) ?_
  refine r_sipush C 999 (dk_at dk_Court_nextDay_0 7 rfl) ?_
  refine r_icmp_lt C 20 rfl (dk_at dk_Court_nextDay_0 8 rfl) (fun c3 => ?_) (fun c3 => ?_)
  · replace h := h.1 c3
    refine r_aload_n C 1 rfl (dk_at dk_Court_nextDay_0 11 rfl) ?_
    refine r_getR C fl_Court_31 50 (hL.1 50 _ rfl) rfl (dk_at dk_Court_nextDay_0 12 rfl) ?_
    refine r_getR C fl_Court_58 200 (hL.1 200 _ rfl) rfl (dk_at dk_Court_nextDay_0 13 rfl) ?_
    refine r_iconst C 0 (dk_at dk_Court_nextDay_0 14 rfl) ?_
    refine r_iload_n C 0 rfl (dk_at dk_Court_nextDay_0 15 rfl) ?_
    refine r_iconst C 1 (dk_at dk_Court_nextDay_0 16 rfl) ?_
    refine r_iadd C (dk_at dk_Court_nextDay_0 17 rfl) ?_
    refine r_iastK C 208 (hL.1 208 _ rfl) lk_0 vk_0_4 (dk_at dk_Court_nextDay_0 18 rfl) (r_sg (fun σ4 e5 => ?_))
    replace h := h σ4 e5
    refine r_aload_n C 1 rfl (dk_at dk_Court_nextDay_0 19 rfl) ?_
    refine r_iload_n C 0 rfl (dk_at dk_Court_nextDay_0 20 rfl) ?_
    refine r_cvI C cl_Court_139 50 (hL.1 50 _ rfl) [.int v1] (m_Court_heldBits hL h) (rmK_ok rfl rfl) rfl rfl (Nat.le_of_ble_eq_true rfl) (dk_at dk_Court_nextDay_0 21 rfl) (fun r6 σ7 h => ?_)
    refine r_aload_n C 1 rfl (dk_at dk_Court_nextDay_0 22 rfl) ?_
    refine r_iload_n C 0 rfl (dk_at dk_Court_nextDay_0 23 rfl) ?_
    refine r_iconst C 1 (dk_at dk_Court_nextDay_0 24 rfl) ?_
    refine r_iadd C (dk_at dk_Court_nextDay_0 25 rfl) ?_
    refine r_cvI C cl_Court_139 50 (hL.1 50 _ rfl) [.int (v1 + 1)] (m_Court_heldBits hL h) (rmK_ok rfl rfl) rfl rfl (Nat.le_of_ble_eq_true rfl) (dk_at dk_Court_nextDay_0 26 rfl) (fun r8 σ9 h => ?_)
    refine r_iconst C (-1) (dk_at dk_Court_nextDay_0 27 rfl) ?_
    refine r_ixor C (dk_at dk_Court_nextDay_0 28 rfl) ?_
    refine r_iand C (dk_at dk_Court_nextDay_0 29 rfl) ?_
    refine r_csI C cs_Court_49 [.int (r6 &&& (r8 ^^^ (-1)))] (m_J6_bitCount_0f7a4 hL h) (rmK_ok rfl rfl) rfl rfl (Nat.le_of_ble_eq_true rfl) (dk_at dk_Court_nextDay_0 30 rfl) (fun r10 σ11 h => ?_)
    exact r_iret C h (dk_at dk_Court_nextDay_0 31 rfl)
  · replace h := h.2 c3
    refine r_bipush C (-3) (dk_at dk_Court_nextDay_0 9 rfl) ?_
    exact r_iret C h (dk_at dk_Court_nextDay_0 10 rfl)
  )
set_option maxRecDepth 20000 in
theorem t_Morn_prepare_b31 {X : CT} {w : WO} (C : CF X w (lim0 w) 5 cX1_prepare RX1 none (.code yX1_prepare cX1_prepare 5 none) (rmK 3 97)) {T : TXT} {z : EXa} (hL : LyX w T z) {K31 : DD → Int32 → Prop} {post : DD → Prop} (k31 : ∀ (σ : DD) (a4 : Int32), K31 σ a4 → gW X w (lim0 w) 5 (QV X w post) σ 31 [(0, .ref (wAd w 70)), (4, .int a4)] []) {σ : DD} {a4 : Int32} (h : w_Morn_prepare_b31 T K31 post σ a4) : gW X w (lim0 w) 5 (QV X w post) σ 31 [(0, .ref (wAd w 70)), (4, .int a4)] [] := by
  unfold w_Morn_prepare_b31 at h
  refine r_iload C 1 rfl (dk_at dk_Morn_prepare_0 18 rfl) ?_
  refine r_aload_n C 0 rfl (dk_at dk_Morn_prepare_0 19 rfl) ?_
  refine r_getR C fl_Morn_27 70 (hL.1 70 _ rfl) rfl (dk_at dk_Morn_prepare_0 20 rfl) ?_
  refine r_getI C fl_Morn_74 200 (hL.1 200 _ rfl) rfl (dk_at dk_Morn_prepare_0 21 rfl) ?_
  refine r_icmp_ge C 69 rfl (dk_at dk_Morn_prepare_0 22 rfl) (fun c1 => ?_) (fun c1 => ?_)
  · replace h := h.1 c1
    exact r_vret C h (dk_at dk_Morn_prepare_0 35 rfl)
  · replace h := h.2 c1
    refine r_aload_n C 0 rfl (dk_at dk_Morn_prepare_0 23 rfl) ?_
    refine r_getR C fl_Morn_9 70 (hL.1 70 _ rfl) rfl (dk_at dk_Morn_prepare_0 24 rfl) ?_
    refine r_iload C 1 rfl (dk_at dk_Morn_prepare_0 25 rfl) ?_
    refine r_aload_n C 0 rfl (dk_at dk_Morn_prepare_0 26 rfl) ?_
    refine r_getR C fl_Morn_31 70 (hL.1 70 _ rfl) rfl (dk_at dk_Morn_prepare_0 27 rfl) ?_
    refine r_iload C 1 rfl (dk_at dk_Morn_prepare_0 28 rfl) ?_
    refine r_aload_n C 0 rfl (dk_at dk_Morn_prepare_0 29 rfl) ?_
    refine r_getI C fl_Morn_71 70 (hL.1 70 _ rfl) rfl (dk_at dk_Morn_prepare_0 30 rfl) ?_
    refine r_cvI C cl_Morn_77 50 (hL.1 50 _ rfl) [.int a4, .int (gI σ 70 11)] (m_Court_holdsUntil hL h) (rmK_ok rfl rfl) rfl rfl (Nat.le_of_ble_eq_true rfl) (dk_at dk_Morn_prepare_0 31 rfl) (fun r2 σ3 h => ?_)
    obtain ⟨q6, h⟩ := h
    refine r_iast C 73 (hL.1 73 _ rfl) q6 (dk_at dk_Morn_prepare_0 32 rfl) (r_sg (fun σ4 e5 => ?_))
    replace h := h σ4 e5
    refine r_iinc C 1 rfl rfl [(4, .int (a4 + 1)), (0, .ref (wAd w 70))] rfl rfl (dk_at dk_Morn_prepare_0 33 rfl) ?_
    refine r_goto C 31 rfl (dk_at dk_Morn_prepare_0 34 rfl) ?_
    refine r_lv [1, 0] rfl ?_
    exact k31 _ _ h
set_option maxRecDepth 20000 in
theorem t_Morn_prepare_l31 {X : CT} {w : WO} (C : CF X w (lim0 w) 5 cX1_prepare RX1 none (.code yX1_prepare cX1_prepare 5 none) (rmK 3 97)) {T : TXT} {z : EXa} (hL : LyX w T z) {post : DD → Prop} {σ : DD} {a4 : Int32} (h : w_Morn_prepare_l31 T post σ a4) : gW X w (lim0 w) 5 (QV X w post) σ 31 [(0, .ref (wAd w 70)), (4, .int a4)] [] :=
  LoopW (G := fun x : DD × Int32 => gW X w (lim0 w) 5 (QV X w post) x.1 31 [(0, .ref (wAd w 70)), (4, .int x.2)] []) (fun K x hK hF => t_Morn_prepare_b31 C hL (fun σ a4 q => hK (σ, a4) q) hF) h
set_option maxRecDepth 20000 in
theorem m_Morn_prepare {l : Launch} {w : WO} {T : TXT} {z : EXa} (hL : LyX w T z) {σ : DD} {a1 : Int32} {a2 : Int32} {a3 : Int32} {post : DD → Prop} (h : w_Morn_prepare T σ a1 a2 a3 post) : MV l w yX1_prepare cX1_prepare 5 (rmK 3 97) σ [.ref (wAd w 70), .int a1, .int a2, .int a3] post :=
  met_head (rt := none) (by decide) rfl (fun X hX C => by
  subst hX
  unfold w_Morn_prepare at h
  show gW X w (lim0 w) 5 (QV X w post) σ 0 [(0, .ref (wAd w 70)), (1, .int a1), (2, .int a2), (3, .int a3)] []
  refine r_aload_n C 0 rfl (dk_at dk_Morn_prepare_0 0 rfl) ?_
  refine r_iload_n C 1 rfl (dk_at dk_Morn_prepare_0 1 rfl) ?_
  refine r_putI C fl_Morn_57 70 (hL.1 70 _ rfl) rfl (dk_at dk_Morn_prepare_0 2 rfl) (r_sg (fun σ7 e8 => ?_))
  replace h := h σ7 e8
  refine r_aload_n C 0 rfl (dk_at dk_Morn_prepare_0 3 rfl) ?_
  refine r_iload_n C 2 rfl (dk_at dk_Morn_prepare_0 4 rfl) ?_
  refine r_putI C fl_Morn_60 70 (hL.1 70 _ rfl) rfl (dk_at dk_Morn_prepare_0 5 rfl) (r_sg (fun σ9 e10 => ?_))
  replace h := h σ9 e10
  refine r_aload_n C 0 rfl (dk_at dk_Morn_prepare_0 6 rfl) ?_
  refine r_iload_n C 3 rfl (dk_at dk_Morn_prepare_0 7 rfl) ?_
  refine r_putI C fl_Morn_63 70 (hL.1 70 _ rfl) rfl (dk_at dk_Morn_prepare_0 8 rfl) (r_sg (fun σ11 e12 => ?_))
  replace h := h σ11 e12
  refine r_aload_n C 0 rfl (dk_at dk_Morn_prepare_0 9 rfl) ?_
  refine r_aload_n C 0 rfl (dk_at dk_Morn_prepare_0 10 rfl) ?_
  refine r_getR C fl_Morn_27 70 (hL.1 70 _ rfl) rfl (dk_at dk_Morn_prepare_0 11 rfl) ?_
  refine r_getR C fl_Morn_66 200 (hL.1 200 _ rfl) rfl (dk_at dk_Morn_prepare_0 12 rfl) ?_
  refine r_iconst C 0 (dk_at dk_Morn_prepare_0 13 rfl) ?_
  refine r_ialdK C 208 (hL.1 208 _ rfl) lk_0 (vk_0_4) (dk_at dk_Morn_prepare_0 14 rfl) ?_
  refine r_putI C fl_Morn_71 70 (hL.1 70 _ rfl) rfl (dk_at dk_Morn_prepare_0 15 rfl) (r_sg (fun σ13 e14 => ?_))
  replace h := h σ13 e14
  refine r_iconst C 0 (dk_at dk_Morn_prepare_0 16 rfl) ?_
  refine r_istore C [(4, .int 0), (0, .ref (wAd w 70)), (1, .int a1), (2, .int a2), (3, .int a3)] rfl rfl (dk_at dk_Morn_prepare_0 17 rfl) ?_
  refine r_lv [1, 0] rfl ?_
  exact t_Morn_prepare_l31 C hL h
  )
set_option maxRecDepth 20000 in
theorem t_Morn_lookAhead_j56 {X : CT} {w : WO} (C : CF X w (lim0 w) 5 cX1_lookAhead RX1 none (.code yX1_lookAhead cX1_lookAhead 5 none) (rmK 4 122)) {T : TXT} {z : EXa} (hL : LyX w T z) {K17 : DD → Int32 → Prop} {post : DD → Prop} {a1 : Int32} {a2 : Int32} {a3 : Int32} {a4 : Int32} (k17 : ∀ (σ : DD) (a4 : Int32), K17 σ a4 → gW X w (lim0 w) 5 (QV X w post) σ 17 [(0, .ref (wAd w 70)), (1, .int a1), (2, .int a2), (3, .int a3), (4, .int a4)] []) {σ : DD} (h : w_Morn_lookAhead_j56 T K17 post σ a1 a2 a3 a4) : gW X w (lim0 w) 5 (QV X w post) σ 56 [(0, .ref (wAd w 70)), (1, .int a1), (2, .int a2), (3, .int a3), (4, .int a4)] [] := by
  unfold w_Morn_lookAhead_j56 at h
  refine r_aload_n C 0 rfl (dk_at dk_Morn_lookAhead_0 34 rfl) ?_
  refine r_getR C fl_Morn_18 70 (hL.1 70 _ rfl) rfl (dk_at dk_Morn_lookAhead_0 35 rfl) ?_
  refine r_iload_n C 1 rfl (dk_at dk_Morn_lookAhead_0 36 rfl) ?_
  refine r_bipush C 8 (dk_at dk_Morn_lookAhead_0 37 rfl) ?_
  refine r_imul C (dk_at dk_Morn_lookAhead_0 38 rfl) ?_
  refine r_iload C 4 rfl (dk_at dk_Morn_lookAhead_0 39 rfl) ?_
  refine r_iadd C (dk_at dk_Morn_lookAhead_1 0 rfl) ?_
  refine r_aload_n C 0 rfl (dk_at dk_Morn_lookAhead_1 1 rfl) ?_
  refine r_getR C fl_Morn_31 70 (hL.1 70 _ rfl) rfl (dk_at dk_Morn_lookAhead_1 2 rfl) ?_
  refine r_iload C 4 rfl (dk_at dk_Morn_lookAhead_1 3 rfl) ?_
  refine r_iload_n C 2 rfl (dk_at dk_Morn_lookAhead_1 4 rfl) ?_
  refine r_iload_n C 3 rfl (dk_at dk_Morn_lookAhead_1 5 rfl) ?_
  refine r_cvI C cl_Morn_87 50 (hL.1 50 _ rfl) [.int a4, .int a2, .int a3] (m_Court_lasts hL h) (rmK_ok rfl rfl) rfl rfl (Nat.le_of_ble_eq_true rfl) (dk_at dk_Morn_lookAhead_1 6 rfl) (fun r1 σ2 h => ?_)
  obtain ⟨q5, h⟩ := h
  refine r_iast C 75 (hL.1 75 _ rfl) q5 (dk_at dk_Morn_lookAhead_1 7 rfl) (r_sg (fun σ3 e4 => ?_))
  replace h := h σ3 e4
  refine r_iinc C 4 rfl rfl [(4, .int (a4 + 1)), (0, .ref (wAd w 70)), (1, .int a1), (2, .int a2), (3, .int a3)] rfl rfl (dk_at dk_Morn_lookAhead_1 8 rfl) ?_
  refine r_goto C 17 rfl (dk_at dk_Morn_lookAhead_1 9 rfl) ?_
  refine r_lv [1, 2, 3, 4, 0] rfl ?_
  exact k17 _ _ h
set_option maxRecDepth 20000 in
theorem t_Morn_lookAhead_b17 {X : CT} {w : WO} (C : CF X w (lim0 w) 5 cX1_lookAhead RX1 none (.code yX1_lookAhead cX1_lookAhead 5 none) (rmK 4 122)) {T : TXT} {z : EXa} (hL : LyX w T z) {a1 : Int32} {a2 : Int32} {a3 : Int32} {K17 : DD → Int32 → Prop} {post : DD → Prop} (k17 : ∀ (σ : DD) (a4 : Int32), K17 σ a4 → gW X w (lim0 w) 5 (QV X w post) σ 17 [(0, .ref (wAd w 70)), (1, .int a1), (2, .int a2), (3, .int a3), (4, .int a4)] []) {σ : DD} {a4 : Int32} (h : w_Morn_lookAhead_b17 T a1 a2 a3 K17 post σ a4) : gW X w (lim0 w) 5 (QV X w post) σ 17 [(0, .ref (wAd w 70)), (1, .int a1), (2, .int a2), (3, .int a3), (4, .int a4)] [] := by
  unfold w_Morn_lookAhead_b17 at h
  refine r_iload C 4 rfl (dk_at dk_Morn_lookAhead_0 12 rfl) ?_
  refine r_aload_n C 0 rfl (dk_at dk_Morn_lookAhead_0 13 rfl) ?_
  refine r_getR C fl_Morn_27 70 (hL.1 70 _ rfl) rfl (dk_at dk_Morn_lookAhead_0 14 rfl) ?_
  refine r_getI C fl_Morn_74 200 (hL.1 200 _ rfl) rfl (dk_at dk_Morn_lookAhead_0 15 rfl) ?_
  refine r_icmp_ge C 85 rfl (dk_at dk_Morn_lookAhead_0 16 rfl) (fun c6 => ?_) (fun c6 => ?_)
  · replace h := h.1 c6
    exact r_vret C h (dk_at dk_Morn_lookAhead_1 10 rfl)
  · replace h := h.2 c6
    refine r_aload_n C 0 rfl (dk_at dk_Morn_lookAhead_0 17 rfl) ?_
    refine r_getR C fl_Morn_31 70 (hL.1 70 _ rfl) rfl (dk_at dk_Morn_lookAhead_0 18 rfl) ?_
    refine r_iload C 4 rfl (dk_at dk_Morn_lookAhead_0 19 rfl) ?_
    refine r_iload_n C 2 rfl (dk_at dk_Morn_lookAhead_0 20 rfl) ?_
    refine r_iload_n C 3 rfl (dk_at dk_Morn_lookAhead_0 21 rfl) ?_
    refine r_cvI C cl_Morn_83 50 (hL.1 50 _ rfl) [.int a4, .int a2, .int a3] (m_Court_canButForNeed hL h) (rmK_ok rfl rfl) rfl rfl (Nat.le_of_ble_eq_true rfl) (dk_at dk_Morn_lookAhead_0 22 rfl) (fun r7 σ8 h => ?_)
    refine r_if_eq C 56 rfl (dk_at dk_Morn_lookAhead_0 23 rfl) (fun c9 => ?_) (fun c9 => ?_)
    · replace h := h.1 c9
      refine r_lv [0, 1, 2, 3, 4] rfl ?_
      exact t_Morn_lookAhead_j56 C hL k17 h
    · replace h := h.2 c9
      refine r_aload_n C 0 rfl (dk_at dk_Morn_lookAhead_0 24 rfl) ?_
      refine r_getR C fl_Morn_15 70 (hL.1 70 _ rfl) rfl (dk_at dk_Morn_lookAhead_0 25 rfl) ?_
      refine r_iload_n C 1 rfl (dk_at dk_Morn_lookAhead_0 26 rfl) ?_
      refine r_dup2 C rfl rfl (dk_at dk_Morn_lookAhead_0 27 rfl) ?_
      obtain ⟨q10, h⟩ := h
      refine r_iald C 74 (hL.1 74 _ rfl) q10 (dk_at dk_Morn_lookAhead_0 28 rfl) ?_
      refine r_iconst C 1 (dk_at dk_Morn_lookAhead_0 29 rfl) ?_
      refine r_iload C 4 rfl (dk_at dk_Morn_lookAhead_0 30 rfl) ?_
      refine r_ishl C (dk_at dk_Morn_lookAhead_0 31 rfl) ?_
      refine r_ior C (dk_at dk_Morn_lookAhead_0 32 rfl) ?_
      obtain ⟨q13, h⟩ := h
      refine r_iast C 74 (hL.1 74 _ rfl) q13 (dk_at dk_Morn_lookAhead_0 33 rfl) (r_sg (fun σ11 e12 => ?_))
      replace h := h σ11 e12
      refine r_lv [0, 1, 2, 3, 4] rfl ?_
      exact t_Morn_lookAhead_j56 C hL k17 h
set_option maxRecDepth 20000 in
theorem t_Morn_lookAhead_l17 {X : CT} {w : WO} (C : CF X w (lim0 w) 5 cX1_lookAhead RX1 none (.code yX1_lookAhead cX1_lookAhead 5 none) (rmK 4 122)) {T : TXT} {z : EXa} (hL : LyX w T z) {a1 : Int32} {a2 : Int32} {a3 : Int32} {post : DD → Prop} {σ : DD} {a4 : Int32} (h : w_Morn_lookAhead_l17 T post σ a1 a2 a3 a4) : gW X w (lim0 w) 5 (QV X w post) σ 17 [(0, .ref (wAd w 70)), (1, .int a1), (2, .int a2), (3, .int a3), (4, .int a4)] [] :=
  LoopW (G := fun x : DD × Int32 => gW X w (lim0 w) 5 (QV X w post) x.1 17 [(0, .ref (wAd w 70)), (1, .int a1), (2, .int a2), (3, .int a3), (4, .int x.2)] []) (fun K x hK hF => t_Morn_lookAhead_b17 C hL (fun σ a4 q => hK (σ, a4) q) hF) h
set_option maxRecDepth 20000 in
theorem m_Morn_lookAhead {l : Launch} {w : WO} {T : TXT} {z : EXa} (hL : LyX w T z) {σ : DD} {a1 : Int32} {a2 : Int32} {post : DD → Prop} (h : w_Morn_lookAhead T σ a1 a2 post) : MV l w yX1_lookAhead cX1_lookAhead 5 (rmK 4 122) σ [.ref (wAd w 70), .int a1, .int a2] post :=
  met_head (rt := none) (by decide) rfl (fun X hX C => by
  subst hX
  unfold w_Morn_lookAhead at h
  show gW X w (lim0 w) 5 (QV X w post) σ 0 [(0, .ref (wAd w 70)), (1, .int a1), (2, .int a2)] []
  refine r_aload_n C 0 rfl (dk_at dk_Morn_lookAhead_0 0 rfl) ?_
  refine r_getI C fl_Morn_71 70 (hL.1 70 _ rfl) rfl (dk_at dk_Morn_lookAhead_0 1 rfl) ?_
  refine r_iload_n C 1 rfl (dk_at dk_Morn_lookAhead_0 2 rfl) ?_
  refine r_iadd C (dk_at dk_Morn_lookAhead_0 3 rfl) ?_
  refine r_topi (fun v14 e15 => ?_)
  replace h := h v14 e15
  refine r_istore_n C [(3, .int v14), (0, .ref (wAd w 70)), (1, .int a1), (2, .int a2)] rfl rfl (dk_at dk_Morn_lookAhead_0 4 rfl) ?_
  refine r_aload_n C 1 rfl (dk_at dk_Morn_lookAhead_0 5 rfl) ?_
  refine r_getR C fl_Morn_15 70 (hL.1 70 _ rfl) rfl (dk_at dk_Morn_lookAhead_0 6 rfl) ?_
  refine r_iload_n C 2 rfl (dk_at dk_Morn_lookAhead_0 7 rfl) ?_
  refine r_iconst C 0 (dk_at dk_Morn_lookAhead_0 8 rfl) ?_
  obtain ⟨q18, h⟩ := h
  refine r_iast C 74 (hL.1 74 _ rfl) q18 (dk_at dk_Morn_lookAhead_0 9 rfl) (r_sg (fun σ16 e17 => ?_))
  replace h := h σ16 e17
  refine r_iconst C 0 (dk_at dk_Morn_lookAhead_0 10 rfl) ?_
  refine r_istore C [(4, .int 0), (3, .int v14), (0, .ref (wAd w 70)), (1, .int a1), (2, .int a2)] rfl rfl (dk_at dk_Morn_lookAhead_0 11 rfl) ?_
  refine r_lv [2, 3, 4, 1, 0] rfl ?_
  exact t_Morn_lookAhead_l17 C hL h
  )
set_option maxRecDepth 20000 in
theorem t_Morn_findNeeded_b20 {X : CT} {w : WO} (C : CF X w (lim0 w) 4 cX1_findNeeded RX1 none (.code yX1_findNeeded cX1_findNeeded 4 none) (rmK 1 22)) {T : TXT} {z : EXa} (hL : LyX w T z) {K7 : DD → Int32 → Prop} {a1 : Int32} {K20 : DD → Int32 → Prop} {post : DD → Prop} (k7 : ∀ (σ : DD) (a1 : Int32), K7 σ a1 → gW X w (lim0 w) 4 (QV X w post) σ 7 [(0, .ref (wAd w 70)), (1, .int a1)] []) (k20 : ∀ (σ : DD) (a2 : Int32), K20 σ a2 → gW X w (lim0 w) 4 (QV X w post) σ 20 [(0, .ref (wAd w 70)), (1, .int a1), (2, .int a2)] []) {σ : DD} {a2 : Int32} (h : w_Morn_findNeeded_b20 T K7 a1 K20 post σ a2) : gW X w (lim0 w) 4 (QV X w post) σ 20 [(0, .ref (wAd w 70)), (1, .int a1), (2, .int a2)] [] := by
  unfold w_Morn_findNeeded_b20 at h
  refine r_iload_n C 2 rfl (dk_at dk_Morn_findNeeded_0 12 rfl) ?_
  refine r_aload_n C 0 rfl (dk_at dk_Morn_findNeeded_0 13 rfl) ?_
  refine r_getR C fl_Morn_27 70 (hL.1 70 _ rfl) rfl (dk_at dk_Morn_findNeeded_0 14 rfl) ?_
  refine r_getI C fl_Morn_74 200 (hL.1 200 _ rfl) rfl (dk_at dk_Morn_findNeeded_0 15 rfl) ?_
  refine r_icmp_ge C 85 rfl (dk_at dk_Morn_findNeeded_0 16 rfl) (fun c1 => ?_) (fun c1 => ?_)
  · replace h := h.1 c1
    refine r_iinc C 1 rfl rfl [(1, .int (a1 + 1)), (0, .ref (wAd w 70)), (2, .int a2)] rfl rfl (dk_at dk_Morn_findNeeded_1 9 rfl) ?_
    refine r_goto C 7 rfl (dk_at dk_Morn_findNeeded_1 10 rfl) ?_
    refine r_lv [1, 0] rfl ?_
    exact k7 _ _ h
  · replace h := h.2 c1
    refine r_aload_n C 0 rfl (dk_at dk_Morn_findNeeded_0 17 rfl) ?_
    refine r_getR C fl_Morn_27 70 (hL.1 70 _ rfl) rfl (dk_at dk_Morn_findNeeded_0 18 rfl) ?_
    refine r_iload_n C 2 rfl (dk_at dk_Morn_findNeeded_0 19 rfl) ?_
    refine r_iconst C 3 (dk_at dk_Morn_findNeeded_0 20 rfl) ?_
    refine r_cvI C cl_Morn_92 200 (hL.1 200 _ rfl) [.int a2, .int 3] (m_Real_trait hL h) (rmK_ok rfl rfl) rfl rfl (Nat.le_of_ble_eq_true rfl) (dk_at dk_Morn_findNeeded_0 21 rfl) (fun r2 σ3 h => ?_)
    refine r_istore_n C [(3, .int r2), (0, .ref (wAd w 70)), (1, .int a1), (2, .int a2)] rfl rfl (dk_at dk_Morn_findNeeded_0 22 rfl) ?_
    refine r_iload_n C 0 rfl (dk_at dk_Morn_findNeeded_0 23 rfl) ?_
    refine r_iconst C (-1) (dk_at dk_Morn_findNeeded_0 24 rfl) ?_
    refine r_icmp_eq C 79 rfl (dk_at dk_Morn_findNeeded_0 25 rfl) (fun c4 => ?_) (fun c4 => ?_)
    · replace h := h.1 c4
      refine r_iinc C 3 rfl rfl [(2, .int (a2 + 1)), (3, .int r2), (0, .ref (wAd w 70)), (1, .int a1)] rfl rfl (dk_at dk_Morn_findNeeded_1 7 rfl) ?_
      refine r_goto C 20 rfl (dk_at dk_Morn_findNeeded_1 8 rfl) ?_
      refine r_lv [2, 3, 0] rfl ?_
      exact k20 _ _ h
    · replace h := h.2 c4
      refine r_aload_n C 1 rfl (dk_at dk_Morn_findNeeded_0 26 rfl) ?_
      refine r_getI C fl_Morn_57 70 (hL.1 70 _ rfl) rfl (dk_at dk_Morn_findNeeded_0 27 rfl) ?_
      refine r_aload_n C 1 rfl (dk_at dk_Morn_findNeeded_0 28 rfl) ?_
      refine r_getI C fl_Morn_60 70 (hL.1 70 _ rfl) rfl (dk_at dk_Morn_findNeeded_0 29 rfl) ?_
      refine r_ior C (dk_at dk_Morn_findNeeded_0 30 rfl) ?_
      refine r_aload_n C 1 rfl (dk_at dk_Morn_findNeeded_0 31 rfl) ?_
      refine r_getI C fl_Morn_89 70 (hL.1 70 _ rfl) rfl (dk_at dk_Morn_findNeeded_0 32 rfl) ?_
      refine r_ior C (dk_at dk_Morn_findNeeded_0 33 rfl) ?_
      refine r_iload_n C 3 rfl (dk_at dk_Morn_findNeeded_0 34 rfl) ?_
      refine r_ishr C (dk_at dk_Morn_findNeeded_0 35 rfl) ?_
      refine r_iconst C 1 (dk_at dk_Morn_findNeeded_0 36 rfl) ?_
      refine r_iand C (dk_at dk_Morn_findNeeded_0 37 rfl) ?_
      refine r_if_eq C 79 rfl (dk_at dk_Morn_findNeeded_0 38 rfl) (fun c5 => ?_) (fun c5 => ?_)
      · replace h := h.1 c5
        refine r_iinc C 3 rfl rfl [(2, .int (a2 + 1)), (3, .int r2), (0, .ref (wAd w 70)), (1, .int a1)] rfl rfl (dk_at dk_Morn_findNeeded_1 7 rfl) ?_
        refine r_goto C 20 rfl (dk_at dk_Morn_findNeeded_1 8 rfl) ?_
        refine r_lv [2, 3, 0] rfl ?_
        exact k20 _ _ h
      · replace h := h.2 c5
        refine r_aload_n C 1 rfl (dk_at dk_Morn_findNeeded_0 39 rfl) ?_
        refine r_dup C rfl (dk_at dk_Morn_findNeeded_1 0 rfl) ?_
        refine r_getI C fl_Morn_89 70 (hL.1 70 _ rfl) rfl (dk_at dk_Morn_findNeeded_1 1 rfl) ?_
        refine r_iconst C 1 (dk_at dk_Morn_findNeeded_1 2 rfl) ?_
        refine r_iload_n C 0 rfl (dk_at dk_Morn_findNeeded_1 3 rfl) ?_
        refine r_ishl C (dk_at dk_Morn_findNeeded_1 4 rfl) ?_
        refine r_ior C (dk_at dk_Morn_findNeeded_1 5 rfl) ?_
        refine r_putI C fl_Morn_89 70 (hL.1 70 _ rfl) rfl (dk_at dk_Morn_findNeeded_1 6 rfl) (r_sg (fun σ6 e7 => ?_))
        replace h := h σ6 e7
        refine r_iinc C 3 rfl rfl [(2, .int (a2 + 1)), (3, .int r2), (0, .ref (wAd w 70)), (1, .int a1)] rfl rfl (dk_at dk_Morn_findNeeded_1 7 rfl) ?_
        refine r_goto C 20 rfl (dk_at dk_Morn_findNeeded_1 8 rfl) ?_
        refine r_lv [2, 3, 0] rfl ?_
        exact k20 _ _ h
set_option maxRecDepth 20000 in
theorem t_Morn_findNeeded_l20 {X : CT} {w : WO} (C : CF X w (lim0 w) 4 cX1_findNeeded RX1 none (.code yX1_findNeeded cX1_findNeeded 4 none) (rmK 1 22)) {T : TXT} {z : EXa} (hL : LyX w T z) {K7 : DD → Int32 → Prop} {a1 : Int32} {post : DD → Prop} (k7 : ∀ (σ : DD) (a1 : Int32), K7 σ a1 → gW X w (lim0 w) 4 (QV X w post) σ 7 [(0, .ref (wAd w 70)), (1, .int a1)] []) {σ : DD} {a2 : Int32} (h : w_Morn_findNeeded_l20 T K7 post σ a1 a2) : gW X w (lim0 w) 4 (QV X w post) σ 20 [(0, .ref (wAd w 70)), (1, .int a1), (2, .int a2)] [] :=
  LoopW (G := fun x : DD × Int32 => gW X w (lim0 w) 4 (QV X w post) x.1 20 [(0, .ref (wAd w 70)), (1, .int a1), (2, .int x.2)] []) (fun K x hK hF => t_Morn_findNeeded_b20 C hL k7 (fun σ a2 q => hK (σ, a2) q) hF) h
set_option maxRecDepth 20000 in
theorem t_Morn_findNeeded_b7 {X : CT} {w : WO} (C : CF X w (lim0 w) 4 cX1_findNeeded RX1 none (.code yX1_findNeeded cX1_findNeeded 4 none) (rmK 1 22)) {T : TXT} {z : EXa} (hL : LyX w T z) {K7 : DD → Int32 → Prop} {post : DD → Prop} (k7 : ∀ (σ : DD) (a1 : Int32), K7 σ a1 → gW X w (lim0 w) 4 (QV X w post) σ 7 [(0, .ref (wAd w 70)), (1, .int a1)] []) {σ : DD} {a1 : Int32} (h : w_Morn_findNeeded_b7 T K7 post σ a1) : gW X w (lim0 w) 4 (QV X w post) σ 7 [(0, .ref (wAd w 70)), (1, .int a1)] [] := by
  unfold w_Morn_findNeeded_b7 at h
  refine r_iload_n C 1 rfl (dk_at dk_Morn_findNeeded_0 5 rfl) ?_
  refine r_aload_n C 0 rfl (dk_at dk_Morn_findNeeded_0 6 rfl) ?_
  refine r_getR C fl_Morn_27 70 (hL.1 70 _ rfl) rfl (dk_at dk_Morn_findNeeded_0 7 rfl) ?_
  refine r_getI C fl_Morn_74 200 (hL.1 200 _ rfl) rfl (dk_at dk_Morn_findNeeded_0 8 rfl) ?_
  refine r_icmp_ge C 91 rfl (dk_at dk_Morn_findNeeded_0 9 rfl) (fun c8 => ?_) (fun c8 => ?_)
  · replace h := h.1 c8
    exact r_vret C h (dk_at dk_Morn_findNeeded_1 11 rfl)
  · replace h := h.2 c8
    refine r_iconst C 0 (dk_at dk_Morn_findNeeded_0 10 rfl) ?_
    refine r_istore_n C [(2, .int 0), (0, .ref (wAd w 70)), (1, .int a1)] rfl rfl (dk_at dk_Morn_findNeeded_0 11 rfl) ?_
    refine r_lv [1, 2, 0] rfl ?_
    exact t_Morn_findNeeded_l20 C hL k7 h
set_option maxRecDepth 20000 in
theorem t_Morn_findNeeded_l7 {X : CT} {w : WO} (C : CF X w (lim0 w) 4 cX1_findNeeded RX1 none (.code yX1_findNeeded cX1_findNeeded 4 none) (rmK 1 22)) {T : TXT} {z : EXa} (hL : LyX w T z) {post : DD → Prop} {σ : DD} {a1 : Int32} (h : w_Morn_findNeeded_l7 T post σ a1) : gW X w (lim0 w) 4 (QV X w post) σ 7 [(0, .ref (wAd w 70)), (1, .int a1)] [] :=
  LoopW (G := fun x : DD × Int32 => gW X w (lim0 w) 4 (QV X w post) x.1 7 [(0, .ref (wAd w 70)), (1, .int x.2)] []) (fun K x hK hF => t_Morn_findNeeded_b7 C hL (fun σ a1 q => hK (σ, a1) q) hF) h
set_option maxRecDepth 20000 in
theorem m_Morn_findNeeded {l : Launch} {w : WO} {T : TXT} {z : EXa} (hL : LyX w T z) {σ : DD} {post : DD → Prop} (h : w_Morn_findNeeded T σ post) : MV l w yX1_findNeeded cX1_findNeeded 4 (rmK 1 22) σ [.ref (wAd w 70)] post :=
  met_head (rt := none) (by decide) rfl (fun X hX C => by
  subst hX
  unfold w_Morn_findNeeded at h
  show gW X w (lim0 w) 4 (QV X w post) σ 0 [(0, .ref (wAd w 70))] []
  refine r_aload_n C 0 rfl (dk_at dk_Morn_findNeeded_0 0 rfl) ?_
  refine r_iconst C 0 (dk_at dk_Morn_findNeeded_0 1 rfl) ?_
  refine r_putI C fl_Morn_89 70 (hL.1 70 _ rfl) rfl (dk_at dk_Morn_findNeeded_0 2 rfl) (r_sg (fun σ9 e10 => ?_))
  replace h := h σ9 e10
  refine r_iconst C 0 (dk_at dk_Morn_findNeeded_0 3 rfl) ?_
  refine r_istore_n C [(1, .int 0), (0, .ref (wAd w 70))] rfl rfl (dk_at dk_Morn_findNeeded_0 4 rfl) ?_
  refine r_lv [1, 0] rfl ?_
  exact t_Morn_findNeeded_l7 C hL h
  )
set_option maxRecDepth 20000 in
theorem t_Morn_heldInTheEnd_b4 {X : CT} {w : WO} (C : CF X w (lim0 w) 3 cX1_heldInTheEnd RX1 (some .int) (.code yX1_heldInTheEnd cX1_heldInTheEnd 3 (some .int)) (rmK 0 0)) {T : TXT} {z : EXa} (hL : LyX w T z) {K4 : DD → Int32 → Int32 → Prop} {post : Int32 → DD → Prop} (k4 : ∀ (σ : DD) (a1 : Int32) (a2 : Int32), K4 σ a1 a2 → gW X w (lim0 w) 3 (QI X w post) σ 4 [(0, .ref (wAd w 70)), (1, .int a1), (2, .int a2)] []) {σ : DD} {a1 : Int32} {a2 : Int32} (h : w_Morn_heldInTheEnd_b4 T K4 post σ a1 a2) : gW X w (lim0 w) 3 (QI X w post) σ 4 [(0, .ref (wAd w 70)), (1, .int a1), (2, .int a2)] [] := by
  unfold w_Morn_heldInTheEnd_b4 at h
  refine r_iload_n C 2 rfl (dk_at dk_Morn_heldInTheEnd_0 4 rfl) ?_
  refine r_aload_n C 0 rfl (dk_at dk_Morn_heldInTheEnd_0 5 rfl) ?_
  refine r_getR C fl_Morn_27 70 (hL.1 70 _ rfl) rfl (dk_at dk_Morn_heldInTheEnd_0 6 rfl) ?_
  refine r_getI C fl_Morn_74 200 (hL.1 200 _ rfl) rfl (dk_at dk_Morn_heldInTheEnd_0 7 rfl) ?_
  refine r_icmp_ge C 45 rfl (dk_at dk_Morn_heldInTheEnd_0 8 rfl) (fun c1 => ?_) (fun c1 => ?_)
  · replace h := h.1 c1
    refine r_iload_n C 1 rfl (dk_at dk_Morn_heldInTheEnd_0 27 rfl) ?_
    exact r_iret C h (dk_at dk_Morn_heldInTheEnd_0 28 rfl)
  · replace h := h.2 c1
    refine r_aload_n C 0 rfl (dk_at dk_Morn_heldInTheEnd_0 9 rfl) ?_
    refine r_getI C fl_Morn_71 70 (hL.1 70 _ rfl) rfl (dk_at dk_Morn_heldInTheEnd_0 10 rfl) ?_
    refine r_aload_n C 0 rfl (dk_at dk_Morn_heldInTheEnd_0 11 rfl) ?_
    refine r_getI C fl_Morn_63 70 (hL.1 70 _ rfl) rfl (dk_at dk_Morn_heldInTheEnd_0 12 rfl) ?_
    refine r_iadd C (dk_at dk_Morn_heldInTheEnd_0 13 rfl) ?_
    refine r_aload_n C 0 rfl (dk_at dk_Morn_heldInTheEnd_0 14 rfl) ?_
    refine r_getR C fl_Morn_9 70 (hL.1 70 _ rfl) rfl (dk_at dk_Morn_heldInTheEnd_0 15 rfl) ?_
    refine r_iload_n C 2 rfl (dk_at dk_Morn_heldInTheEnd_0 16 rfl) ?_
    obtain ⟨q2, h⟩ := h
    refine r_iald C 73 (hL.1 73 _ rfl) q2 (dk_at dk_Morn_heldInTheEnd_0 17 rfl) ?_
    refine r_icmp_ge C 39 rfl (dk_at dk_Morn_heldInTheEnd_0 18 rfl) (fun c3 => ?_) (fun c3 => ?_)
    · replace h := h.1 c3
      refine r_iinc C 2 rfl rfl [(2, .int (a2 + 1)), (0, .ref (wAd w 70)), (1, .int a1)] rfl rfl (dk_at dk_Morn_heldInTheEnd_0 25 rfl) ?_
      refine r_goto C 4 rfl (dk_at dk_Morn_heldInTheEnd_0 26 rfl) ?_
      refine r_lv [1, 2, 0] rfl ?_
      exact k4 _ _ _ h
    · replace h := h.2 c3
      refine r_iload_n C 1 rfl (dk_at dk_Morn_heldInTheEnd_0 19 rfl) ?_
      refine r_iconst C 1 (dk_at dk_Morn_heldInTheEnd_0 20 rfl) ?_
      refine r_iload_n C 2 rfl (dk_at dk_Morn_heldInTheEnd_0 21 rfl) ?_
      refine r_ishl C (dk_at dk_Morn_heldInTheEnd_0 22 rfl) ?_
      refine r_ior C (dk_at dk_Morn_heldInTheEnd_0 23 rfl) ?_
      refine r_topi (fun v4 e5 => ?_)
      replace h := h v4 e5
      refine r_istore_n C [(1, .int v4), (0, .ref (wAd w 70)), (2, .int a2)] rfl rfl (dk_at dk_Morn_heldInTheEnd_0 24 rfl) ?_
      refine r_iinc C 2 rfl rfl [(2, .int (a2 + 1)), (1, .int v4), (0, .ref (wAd w 70))] rfl rfl (dk_at dk_Morn_heldInTheEnd_0 25 rfl) ?_
      refine r_goto C 4 rfl (dk_at dk_Morn_heldInTheEnd_0 26 rfl) ?_
      refine r_lv [2, 1, 0] rfl ?_
      exact k4 _ _ _ h
