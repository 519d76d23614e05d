set_option maxRecDepth 20000 in
theorem m_M_lies {l : Launch} {w : WO} (hL : LyM w) {σ : DD} {a0 : Int32} {a1 : Int32} {a2 : Int32} {post : Int32 → DD → Prop} (h : w_M_lies σ a0 a1 a2 post) : MI l w yX11_lies cX11_lies 3 .boolean (rmK 0 0) σ [.int a0, .int a1, .int a2] post :=
  met_head (rt := (some .boolean)) (by decide) rfl (fun X hX C => by
  subst hX
  unfold w_M_lies at h
  show gW X w (lim0 w) 3 (QI X w post) σ 0 [(0, .int a0), (1, .int a1), (2, .int a2)] []
  refine r_iload_n C 0 rfl (dk_at dk_M_lies_0 0 rfl) ?_
  refine r_iload_n C 1 rfl (dk_at dk_M_lies_0 1 rfl) ?_
  refine r_icmp_lt C 14 rfl (dk_at dk_M_lies_0 2 rfl) (fun c1 => ?_) (fun c1 => ?_)
  · replace h := h.1 c1
    refine r_iconst C 0 (dk_at dk_M_lies_0 8 rfl) ?_
    exact r_zret C (Or.inl rfl) h (dk_at dk_M_lies_0 9 rfl)
  · replace h := h.2 c1
    refine r_iload_n C 0 rfl (dk_at dk_M_lies_0 3 rfl) ?_
    refine r_iload_n C 2 rfl (dk_at dk_M_lies_0 4 rfl) ?_
    refine r_icmp_gt C 14 rfl (dk_at dk_M_lies_0 5 rfl) (fun c2 => ?_) (fun c2 => ?_)
    · replace h := h.1 c2
      refine r_iconst C 0 (dk_at dk_M_lies_0 8 rfl) ?_
      exact r_zret C (Or.inl rfl) h (dk_at dk_M_lies_0 9 rfl)
    · replace h := h.2 c2
      refine r_iconst C 1 (dk_at dk_M_lies_0 6 rfl) ?_
      refine r_goto C 15 rfl (dk_at dk_M_lies_0 7 rfl) ?_
      exact r_zret C (Or.inr rfl) h (dk_at dk_M_lies_0 9 rfl)
  )
set_option maxRecDepth 20000 in
theorem m_M_refuses {l : Launch} {w : WO} (hL : LyM w) {σ : DD} {a1 : Int32} {post : Int32 → DD → Prop} (h : w_M_refuses σ a1 post) : MI l w yX11_refuses cX11_refuses 2 .int (rmK 0 0) σ [.ref (wAd w 0), .int a1] post :=
  met_head (rt := (some .int)) (by decide) rfl (fun X hX C => by
  subst hX
  unfold w_M_refuses at h
  show gW X w (lim0 w) 2 (QI X w post) σ 0 [(0, .ref (wAd w 0)), (1, .int a1)] []
  refine r_aload_n C 0 rfl (dk_at dk_M_refuses_0 0 rfl) ?_
  refine r_iload_n C 1 rfl (dk_at dk_M_refuses_0 1 rfl) ?_
  refine r_putI C fl_M_3 0 (hL 0 _ rfl) rfl (dk_at dk_M_refuses_0 2 rfl) (r_sg (fun σ1 e2 => ?_))
  replace h := h σ1 e2
  refine r_aload_n C 0 rfl (dk_at dk_M_refuses_0 3 rfl) ?_
  refine r_getR C fl_M_7 0 (hL 0 _ rfl) rfl (dk_at dk_M_refuses_0 4 rfl) ?_
  refine r_iload_n C 1 rfl (dk_at dk_M_refuses_0 5 rfl) ?_
  refine r_ineg C (dk_at dk_M_refuses_0 6 rfl) ?_
  refine r_dup2 C rfl rfl (dk_at dk_M_refuses_0 7 rfl) ?_
  obtain ⟨q3, h⟩ := h
  refine r_iald C 3 (hL 3 _ rfl) q3 (dk_at dk_M_refuses_0 8 rfl) ?_
  refine r_iconst C 1 (dk_at dk_M_refuses_0 9 rfl) ?_
  refine r_iadd C (dk_at dk_M_refuses_0 10 rfl) ?_
  obtain ⟨q6, h⟩ := h
  refine r_iast C 3 (hL 3 _ rfl) q6 (dk_at dk_M_refuses_0 11 rfl) (r_sg (fun σ4 e5 => ?_))
  replace h := h σ4 e5
  refine r_iload_n C 1 rfl (dk_at dk_M_refuses_0 12 rfl) ?_
  exact r_iret C h (dk_at dk_M_refuses_0 13 rfl)
  )
set_option maxRecDepth 20000 in
theorem m_M_good {l : Launch} {w : WO} (hL : LyM w) {σ : DD} {a1 : Int32} {post : Int32 → DD → Prop} (h : w_M_good σ a1 post) : MI l w yX11_good cX11_good 2 .int (rmK 0 0) σ [.ref (wAd w 0), .int a1] post :=
  met_head (rt := (some .int)) (by decide) rfl (fun X hX C => by
  subst hX
  unfold w_M_good at h
  show gW X w (lim0 w) 2 (QI X w post) σ 0 [(0, .ref (wAd w 0)), (1, .int a1)] []
  refine r_aload_n C 0 rfl (dk_at dk_M_good_0 0 rfl) ?_
  refine r_iconst C 0 (dk_at dk_M_good_0 1 rfl) ?_
  refine r_putI C fl_M_3 0 (hL 0 _ rfl) rfl (dk_at dk_M_good_0 2 rfl) (r_sg (fun σ1 e2 => ?_))
  replace h := h σ1 e2
  refine r_aload_n C 0 rfl (dk_at dk_M_good_0 3 rfl) ?_
  refine r_dup C rfl (dk_at dk_M_good_0 4 rfl) ?_
  refine r_getI C fl_M_11 0 (hL 0 _ rfl) rfl (dk_at dk_M_good_0 5 rfl) ?_
  refine r_iconst C 1 (dk_at dk_M_good_0 6 rfl) ?_
  refine r_iadd C (dk_at dk_M_good_0 7 rfl) ?_
  refine r_putI C fl_M_11 0 (hL 0 _ rfl) rfl (dk_at dk_M_good_0 8 rfl) (r_sg (fun σ3 e4 => ?_))
  replace h := h σ3 e4
  refine r_iload_n C 1 rfl (dk_at dk_M_good_0 9 rfl) ?_
  exact r_iret C h (dk_at dk_M_good_0 10 rfl)
  )
set_option maxRecDepth 20000 in
theorem m_M_isIn {l : Launch} {w : WO} (hL : LyM w) {σ : DD} {a0 : Int32} {a1 : Int32} {post : Int32 → DD → Prop} (h : w_M_isIn σ a0 a1 post) : MI l w yX11_isIn cX11_isIn 2 .boolean (rmK 0 0) σ [.int a0, .int a1] post :=
  met_head (rt := (some .boolean)) (by decide) rfl (fun X hX C => by
  subst hX
  unfold w_M_isIn at h
  show gW X w (lim0 w) 2 (QI X w post) σ 0 [(0, .int a0), (1, .int a1)] []
  refine r_iload_n C 0 rfl (dk_at dk_M_isIn_0 0 rfl) ?_
  refine r_iload_n C 1 rfl (dk_at dk_M_isIn_0 1 rfl) ?_
  refine r_ishr C (dk_at dk_M_isIn_0 2 rfl) ?_
  refine r_iconst C 1 (dk_at dk_M_isIn_0 3 rfl) ?_
  refine r_iand C (dk_at dk_M_isIn_0 4 rfl) ?_
  refine r_iconst C 1 (dk_at dk_M_isIn_0 5 rfl) ?_
  refine r_icmp_ne C 13 rfl (dk_at dk_M_isIn_0 6 rfl) (fun c1 => ?_) (fun c1 => ?_)
  · replace h := h.1 c1
    refine r_iconst C 0 (dk_at dk_M_isIn_0 9 rfl) ?_
    exact r_zret C (Or.inl rfl) h (dk_at dk_M_isIn_0 10 rfl)
  · replace h := h.2 c1
    refine r_iconst C 1 (dk_at dk_M_isIn_0 7 rfl) ?_
    refine r_goto C 14 rfl (dk_at dk_M_isIn_0 8 rfl) ?_
    exact r_zret C (Or.inr rfl) h (dk_at dk_M_isIn_0 10 rfl)
  )
set_option maxRecDepth 20000 in
theorem t_M_ones_b4 {X : CT} {w : WO} (C : CF X w (lim0 w) 3 cX11_ones RX11 (some .int) (.code yX11_ones cX11_ones 3 (some .int)) (rmK 0 0)) (hL : LyM w) {a0 : Int32} {K4 : DD → Int32 → Int32 → Prop} {post : Int32 → DD → Prop} (k4 : ∀ (σ : DD) (a1 : Int32) (a2 : Int32), K4 σ a1 a2 → gW X w (lim0 w) 3 (QI X w post) σ 4 [(0, .int a0), (1, .int a1), (2, .int a2)] []) {σ : DD} {a1 : Int32} {a2 : Int32} (h : w_M_ones_b4 a0 K4 post σ a1 a2) : gW X w (lim0 w) 3 (QI X w post) σ 4 [(0, .int a0), (1, .int a1), (2, .int a2)] [] := by
  unfold w_M_ones_b4 at h
  refine r_iload_n C 2 rfl (dk_at dk_M_ones_0 4 rfl) ?_
  refine r_bipush C 8 (dk_at dk_M_ones_0 5 rfl) ?_
  refine r_icmp_ge C 24 rfl (dk_at dk_M_ones_0 6 rfl) (fun c1 => ?_) (fun c1 => ?_)
  · replace h := h.1 c1
    refine r_iload_n C 1 rfl (dk_at dk_M_ones_0 17 rfl) ?_
    exact r_iret C h (dk_at dk_M_ones_0 18 rfl)
  · replace h := h.2 c1
    refine r_iload_n C 1 rfl (dk_at dk_M_ones_0 7 rfl) ?_
    refine r_iload_n C 0 rfl (dk_at dk_M_ones_0 8 rfl) ?_
    refine r_iload_n C 2 rfl (dk_at dk_M_ones_0 9 rfl) ?_
    refine r_ishr C (dk_at dk_M_ones_0 10 rfl) ?_
    refine r_iconst C 1 (dk_at dk_M_ones_0 11 rfl) ?_
    refine r_iand C (dk_at dk_M_ones_0 12 rfl) ?_
    refine r_iadd C (dk_at dk_M_ones_0 13 rfl) ?_
    refine r_topi (fun v2 e3 => ?_)
    replace h := h v2 e3
    refine r_istore_n C [(1, .int v2), (0, .int a0), (2, .int a2)] rfl rfl (dk_at dk_M_ones_0 14 rfl) ?_
    refine r_iinc C 2 rfl rfl [(2, .int (a2 + 1)), (1, .int v2), (0, .int a0)] rfl rfl (dk_at dk_M_ones_0 15 rfl) ?_
    refine r_goto C 4 rfl (dk_at dk_M_ones_0 16 rfl) ?_
    refine r_lv [2, 1, 0] rfl ?_
    exact k4 _ _ _ h
set_option maxRecDepth 20000 in
theorem t_M_ones_l4 {X : CT} {w : WO} (C : CF X w (lim0 w) 3 cX11_ones RX11 (some .int) (.code yX11_ones cX11_ones 3 (some .int)) (rmK 0 0)) (hL : LyM w) {a0 : Int32} {post : Int32 → DD → Prop} {σ : DD} {a1 : Int32} {a2 : Int32} (h : w_M_ones_l4 post σ a0 a1 a2) : gW X w (lim0 w) 3 (QI X w post) σ 4 [(0, .int a0), (1, .int a1), (2, .int a2)] [] :=
  LoopW (G := fun x : DD × Int32 × Int32 => gW X w (lim0 w) 3 (QI X w post) x.1 4 [(0, .int a0), (1, .int x.2.1), (2, .int x.2.2)] []) (fun K x hK hF => t_M_ones_b4 C hL (fun σ a1 a2 q => hK (σ, a1, a2) q) hF) h
set_option maxRecDepth 20000 in
theorem m_M_ones {l : Launch} {w : WO} (hL : LyM w) {σ : DD} {a0 : Int32} {post : Int32 → DD → Prop} (h : w_M_ones σ a0 post) : MI l w yX11_ones cX11_ones 3 .int (rmK 0 0) σ [.int a0] post :=
  met_head (rt := (some .int)) (by decide) rfl (fun X hX C => by
  subst hX
  unfold w_M_ones at h
  show gW X w (lim0 w) 3 (QI X w post) σ 0 [(0, .int a0)] []
  refine r_iconst C 0 (dk_at dk_M_ones_0 0 rfl) ?_
  refine r_istore_n C [(1, .int 0), (0, .int a0)] rfl rfl (dk_at dk_M_ones_0 1 rfl) ?_
  refine r_iconst C 0 (dk_at dk_M_ones_0 2 rfl) ?_
  refine r_istore_n C [(2, .int 0), (1, .int 0), (0, .int a0)] rfl rfl (dk_at dk_M_ones_0 3 rfl) ?_
  refine r_lv [2, 1, 0] rfl ?_
  exact t_M_ones_l4 C hL h
  )
set_option maxRecDepth 20000 in
theorem t_M_image_b17 {X : CT} {w : WO} (C : CF X w (lim0 w) 3 cX11_image RX11 (some .int) (.code yX11_image cX11_image 3 (some .int)) (rmK 1 22)) (hL : LyM w) {a1 : Int32} {K17 : DD → Int32 → Prop} {post : Int32 → DD → Prop} (k17 : ∀ (σ : DD) (a2 : Int32), K17 σ a2 → gW X w (lim0 w) 3 (QI X w post) σ 17 [(0, .ref (wAd w 0)), (1, .int a1), (2, .int a2)] []) {σ : DD} {a2 : Int32} (h : w_M_image_b17 a1 K17 post σ a2) : gW X w (lim0 w) 3 (QI X w post) σ 17 [(0, .ref (wAd w 0)), (1, .int a1), (2, .int a2)] [] := by
  unfold w_M_image_b17 at h
  refine r_iload_n C 2 rfl (dk_at dk_M_image_0 11 rfl) ?_
  refine r_sipush C 6012 (dk_at dk_M_image_0 12 rfl) ?_
  refine r_icmp_ge C 48 rfl (dk_at dk_M_image_0 13 rfl) (fun c1 => ?_) (fun c1 => ?_)
  · replace h := h.1 c1
    refine r_aload_n C 0 rfl (dk_at dk_M_image_0 28 rfl) ?_
    refine r_getR C fl_M_26 0 (hL 0 _ rfl) rfl (dk_at dk_M_image_0 29 rfl) ?_
    refine r_iload_n C 1 rfl (dk_at dk_M_image_0 30 rfl) ?_
    refine r_iconst C 1 (dk_at dk_M_image_0 31 rfl) ?_
    obtain ⟨q4, h⟩ := h
    refine r_zast C 6 (hL 6 _ rfl) q4 (dk_at dk_M_image_0 32 rfl) (r_sg (fun σ2 e3 => ?_))
    replace h := h σ2 e3
    refine r_aload_n C 0 rfl (dk_at dk_M_image_0 33 rfl) ?_
    refine r_iconst C 0 (dk_at dk_M_image_0 34 rfl) ?_
    refine r_cvI C cl_M_109 0 (hL 0 _ rfl) [.int 0] (m_M_good hL h) (rmK_ok rfl rfl) rfl rfl (Nat.le_of_ble_eq_true rfl) (dk_at dk_M_image_0 35 rfl) (fun r5 σ6 h => ?_)
    exact r_iret C h (dk_at dk_M_image_0 36 rfl)
  · replace h := h.2 c1
    refine r_aload_n C 0 rfl (dk_at dk_M_image_0 14 rfl) ?_
    refine r_getR C fl_M_23 0 (hL 0 _ rfl) rfl (dk_at dk_M_image_0 15 rfl) ?_
    refine r_sipush C 6012 (dk_at dk_M_image_0 16 rfl) ?_
    refine r_iload_n C 1 rfl (dk_at dk_M_image_0 17 rfl) ?_
    refine r_imul C (dk_at dk_M_image_0 18 rfl) ?_
    refine r_iload_n C 2 rfl (dk_at dk_M_image_0 19 rfl) ?_
    refine r_iadd C (dk_at dk_M_image_0 20 rfl) ?_
    refine r_aload_n C 0 rfl (dk_at dk_M_image_0 21 rfl) ?_
    refine r_getR C fl_M_20 0 (hL 0 _ rfl) rfl (dk_at dk_M_image_0 22 rfl) ?_
    refine r_iload_n C 2 rfl (dk_at dk_M_image_0 23 rfl) ?_
    obtain ⟨q7, h⟩ := h
    refine r_iald C 4 (hL 4 _ rfl) q7 (dk_at dk_M_image_0 24 rfl) ?_
    obtain ⟨q10, h⟩ := h
    refine r_iast C 5 (hL 5 _ rfl) q10 (dk_at dk_M_image_0 25 rfl) (r_sg (fun σ8 e9 => ?_))
    replace h := h σ8 e9
    refine r_iinc C 2 rfl rfl [(2, .int (a2 + 1)), (0, .ref (wAd w 0)), (1, .int a1)] rfl rfl (dk_at dk_M_image_0 26 rfl) ?_
    refine r_goto C 17 rfl (dk_at dk_M_image_0 27 rfl) ?_
    refine r_lv [1, 2, 0] rfl ?_
    exact k17 _ _ h
set_option maxRecDepth 20000 in
theorem t_M_image_l17 {X : CT} {w : WO} (C : CF X w (lim0 w) 3 cX11_image RX11 (some .int) (.code yX11_image cX11_image 3 (some .int)) (rmK 1 22)) (hL : LyM w) {a1 : Int32} {post : Int32 → DD → Prop} {σ : DD} {a2 : Int32} (h : w_M_image_l17 post σ a1 a2) : gW X w (lim0 w) 3 (QI X w post) σ 17 [(0, .ref (wAd w 0)), (1, .int a1), (2, .int a2)] [] :=
  LoopW (G := fun x : DD × Int32 => gW X w (lim0 w) 3 (QI X w post) x.1 17 [(0, .ref (wAd w 0)), (1, .int a1), (2, .int x.2)] []) (fun K x hK hF => t_M_image_b17 C hL (fun σ a2 q => hK (σ, a2) q) hF) h
set_option maxRecDepth 20000 in
theorem m_M_image {l : Launch} {w : WO} (hL : LyM w) {σ : DD} {a1 : Int32} {post : Int32 → DD → Prop} (h : w_M_image σ a1 post) : MI l w yX11_image cX11_image 3 .int (rmK 1 22) σ [.ref (wAd w 0), .int a1] post :=
  met_head (rt := (some .int)) (by decide) rfl (fun X hX C => by
  subst hX
  unfold w_M_image at h
  show gW X w (lim0 w) 3 (QI X w post) σ 0 [(0, .ref (wAd w 0)), (1, .int a1)] []
  refine r_iload_n C 1 rfl (dk_at dk_M_image_0 0 rfl) ?_
  refine r_iconst C 0 (dk_at dk_M_image_0 1 rfl) ?_
  refine r_iconst C 1 (dk_at dk_M_image_0 2 rfl) ?_
  refine r_csI C cs_M_101 [.int a1, .int 0, .int 1] (m_M_lies hL h) (rmK_ok rfl rfl) rfl rfl (Nat.le_of_ble_eq_true rfl) (dk_at dk_M_image_0 3 rfl) (fun r11 σ12 h => ?_)
  refine r_if_ne C 15 rfl (dk_at dk_M_image_0 4 rfl) (fun c13 => ?_) (fun c13 => ?_)
  · replace h := h.1 c13
    refine r_iconst C 0 (dk_at dk_M_image_0 9 rfl) ?_
    refine r_istore_n C [(2, .int 0), (0, .ref (wAd w 0)), (1, .int a1)] rfl rfl (dk_at dk_M_image_0 10 rfl) ?_
    refine r_lv [1, 2, 0] rfl ?_
    exact t_M_image_l17 C hL h
  · replace h := h.2 c13
    refine r_aload_n C 0 rfl (dk_at dk_M_image_0 5 rfl) ?_
    refine r_iconst C (-1) (dk_at dk_M_image_0 6 rfl) ?_
    refine r_cvI C cl_M_105 0 (hL 0 _ rfl) [.int (-1)] (m_M_refuses hL h) (rmK_ok rfl rfl) rfl rfl (Nat.le_of_ble_eq_true rfl) (dk_at dk_M_image_0 7 rfl) (fun r14 σ15 h => ?_)
    exact r_iret C h (dk_at dk_M_image_0 8 rfl)
  )
set_option maxRecDepth 20000 in
theorem t_M_back_b33 {X : CT} {w : WO} (C : CF X w (lim0 w) 3 cX11_back RX11 (some .int) (.code yX11_back cX11_back 3 (some .int)) (rmK 1 22)) (hL : LyM w) {a1 : Int32} {K33 : DD → Int32 → Prop} {post : Int32 → DD → Prop} (k33 : ∀ (σ : DD) (a2 : Int32), K33 σ a2 → gW X w (lim0 w) 3 (QI X w post) σ 33 [(0, .ref (wAd w 0)), (1, .int a1), (2, .int a2)] []) {σ : DD} {a2 : Int32} (h : w_M_back_b33 a1 K33 post σ a2) : gW X w (lim0 w) 3 (QI X w post) σ 33 [(0, .ref (wAd w 0)), (1, .int a1), (2, .int a2)] [] := by
  unfold w_M_back_b33 at h
  refine r_iload_n C 2 rfl (dk_at dk_M_back_0 20 rfl) ?_
  refine r_sipush C 6012 (dk_at dk_M_back_0 21 rfl) ?_
  refine r_icmp_ge C 64 rfl (dk_at dk_M_back_0 22 rfl) (fun c1 => ?_) (fun c1 => ?_)
  · replace h := h.1 c1
    refine r_aload_n C 0 rfl (dk_at dk_M_back_0 37 rfl) ?_
    refine r_iconst C 0 (dk_at dk_M_back_0 38 rfl) ?_
    refine r_cvI C cl_M_109 0 (hL 0 _ rfl) [.int 0] (m_M_good hL h) (rmK_ok rfl rfl) rfl rfl (Nat.le_of_ble_eq_true rfl) (dk_at dk_M_back_0 39 rfl) (fun r2 σ3 h => ?_)
    exact r_iret C h (dk_at dk_M_back_1 0 rfl)
  · replace h := h.2 c1
    refine r_aload_n C 0 rfl (dk_at dk_M_back_0 23 rfl) ?_
    refine r_getR C fl_M_20 0 (hL 0 _ rfl) rfl (dk_at dk_M_back_0 24 rfl) ?_
    refine r_iload_n C 2 rfl (dk_at dk_M_back_0 25 rfl) ?_
    refine r_aload_n C 0 rfl (dk_at dk_M_back_0 26 rfl) ?_
    refine r_getR C fl_M_23 0 (hL 0 _ rfl) rfl (dk_at dk_M_back_0 27 rfl) ?_
    refine r_sipush C 6012 (dk_at dk_M_back_0 28 rfl) ?_
    refine r_iload_n C 1 rfl (dk_at dk_M_back_0 29 rfl) ?_
    refine r_imul C (dk_at dk_M_back_0 30 rfl) ?_
    refine r_iload_n C 2 rfl (dk_at dk_M_back_0 31 rfl) ?_
    refine r_iadd C (dk_at dk_M_back_0 32 rfl) ?_
    obtain ⟨q4, h⟩ := h
    refine r_iald C 5 (hL 5 _ rfl) q4 (dk_at dk_M_back_0 33 rfl) ?_
    obtain ⟨q7, h⟩ := h
    refine r_iast C 4 (hL 4 _ rfl) q7 (dk_at dk_M_back_0 34 rfl) (r_sg (fun σ5 e6 => ?_))
    replace h := h σ5 e6
    refine r_iinc C 2 rfl rfl [(2, .int (a2 + 1)), (0, .ref (wAd w 0)), (1, .int a1)] rfl rfl (dk_at dk_M_back_0 35 rfl) ?_
    refine r_goto C 33 rfl (dk_at dk_M_back_0 36 rfl) ?_
    refine r_lv [1, 2, 0] rfl ?_
    exact k33 _ _ h
set_option maxRecDepth 20000 in
theorem t_M_back_l33 {X : CT} {w : WO} (C : CF X w (lim0 w) 3 cX11_back RX11 (some .int) (.code yX11_back cX11_back 3 (some .int)) (rmK 1 22)) (hL : LyM w) {a1 : Int32} {post : Int32 → DD → Prop} {σ : DD} {a2 : Int32} (h : w_M_back_l33 post σ a1 a2) : gW X w (lim0 w) 3 (QI X w post) σ 33 [(0, .ref (wAd w 0)), (1, .int a1), (2, .int a2)] [] :=
  LoopW (G := fun x : DD × Int32 => gW X w (lim0 w) 3 (QI X w post) x.1 33 [(0, .ref (wAd w 0)), (1, .int a1), (2, .int x.2)] []) (fun K x hK hF => t_M_back_b33 C hL (fun σ a2 q => hK (σ, a2) q) hF) h
set_option maxRecDepth 20000 in
theorem m_M_back {l : Launch} {w : WO} (hL : LyM w) {σ : DD} {a1 : Int32} {post : Int32 → DD → Prop} (h : w_M_back σ a1 post) : MI l w yX11_back cX11_back 3 .int (rmK 1 22) σ [.ref (wAd w 0), .int a1] post :=
  met_head (rt := (some .int)) (by decide) rfl (fun X hX C => by
  subst hX
  unfold w_M_back at h
  show gW X w (lim0 w) 3 (QI X w post) σ 0 [(0, .ref (wAd w 0)), (1, .int a1)] []
  refine r_iload_n C 1 rfl (dk_at dk_M_back_0 0 rfl) ?_
  refine r_iconst C 0 (dk_at dk_M_back_0 1 rfl) ?_
  refine r_iconst C 1 (dk_at dk_M_back_0 2 rfl) ?_
  refine r_csI C cs_M_101 [.int a1, .int 0, .int 1] (m_M_lies hL h) (rmK_ok rfl rfl) rfl rfl (Nat.le_of_ble_eq_true rfl) (dk_at dk_M_back_0 3 rfl) (fun r8 σ9 h => ?_)
  refine r_if_ne C 15 rfl (dk_at dk_M_back_0 4 rfl) (fun c10 => ?_) (fun c10 => ?_)
  · replace h := h.1 c10
    refine r_aload_n C 0 rfl (dk_at dk_M_back_0 9 rfl) ?_
    refine r_getR C fl_M_26 0 (hL 0 _ rfl) rfl (dk_at dk_M_back_0 10 rfl) ?_
    refine r_iload_n C 1 rfl (dk_at dk_M_back_0 11 rfl) ?_
    obtain ⟨q11, h⟩ := h
    refine r_zald C 6 (hL 6 _ rfl) q11 (dk_at dk_M_back_0 12 rfl) ?_
    refine r_if_ne C 31 rfl (dk_at dk_M_back_0 13 rfl) (fun c12 => ?_) (fun c12 => ?_)
    · replace h := h.1 c12
      refine r_iconst C 0 (dk_at dk_M_back_0 18 rfl) ?_
      refine r_istore_n C [(2, .int 0), (0, .ref (wAd w 0)), (1, .int a1)] rfl rfl (dk_at dk_M_back_0 19 rfl) ?_
      refine r_lv [1, 2, 0] rfl ?_
      exact t_M_back_l33 C hL h
    · replace h := h.2 c12
      refine r_aload_n C 0 rfl (dk_at dk_M_back_0 14 rfl) ?_
      refine r_bipush C (-2) (dk_at dk_M_back_0 15 rfl) ?_
      refine r_cvI C cl_M_105 0 (hL 0 _ rfl) [.int (-2)] (m_M_refuses hL h) (rmK_ok rfl rfl) rfl rfl (Nat.le_of_ble_eq_true rfl) (dk_at dk_M_back_0 16 rfl) (fun r13 σ14 h => ?_)
      exact r_iret C h (dk_at dk_M_back_0 17 rfl)
  · replace h := h.2 c10
    refine r_aload_n C 0 rfl (dk_at dk_M_back_0 5 rfl) ?_
    refine r_iconst C (-1) (dk_at dk_M_back_0 6 rfl) ?_
    refine r_cvI C cl_M_105 0 (hL 0 _ rfl) [.int (-1)] (m_M_refuses hL h) (rmK_ok rfl rfl) rfl rfl (Nat.le_of_ble_eq_true rfl) (dk_at dk_M_back_0 7 rfl) (fun r15 σ16 h => ?_)
    exact r_iret C h (dk_at dk_M_back_0 8 rfl)
  )
set_option maxRecDepth 20000 in
theorem m_M_isAct {l : Launch} {w : WO} (hL : LyM w) {σ : DD} {a1 : Int32} {post : Int32 → DD → Prop} (h : w_M_isAct σ a1 post) : MI l w yX11_isAct cX11_isAct 2 .boolean (rmK 1 22) σ [.ref (wAd w 0), .int a1] post :=
  met_head (rt := (some .boolean)) (by decide) rfl (fun X hX C => by
  subst hX
  unfold w_M_isAct at h
  show gW X w (lim0 w) 2 (QI X w post) σ 0 [(0, .ref (wAd w 0)), (1, .int a1)] []
  refine r_iload_n C 1 rfl (dk_at dk_M_isAct_0 0 rfl) ?_
  refine r_iconst C 0 (dk_at dk_M_isAct_0 1 rfl) ?_
  refine r_aload_n C 0 rfl (dk_at dk_M_isAct_0 2 rfl) ?_
  refine r_getR C fl_M_20 0 (hL 0 _ rfl) rfl (dk_at dk_M_isAct_0 3 rfl) ?_
  refine r_sipush C 399 (dk_at dk_M_isAct_0 4 rfl) ?_
  refine r_ialdK C 4 (hL 4 _ rfl) lk_399 (vk_399_6012) (dk_at dk_M_isAct_0 5 rfl) ?_
  refine r_iconst C 1 (dk_at dk_M_isAct_0 6 rfl) ?_
  refine r_isub C (dk_at dk_M_isAct_0 7 rfl) ?_
  refine r_csI C cs_M_101 [.int a1, .int 0, .int ((gI σ 4 399) - 1)] (m_M_lies hL h) (rmK_ok rfl rfl) rfl rfl (Nat.le_of_ble_eq_true rfl) (dk_at dk_M_isAct_0 8 rfl) (fun r1 σ2 h => ?_)
  exact r_zret C h.1 h.2 (dk_at dk_M_isAct_0 9 rfl)
  )
set_option maxRecDepth 20000 in
theorem m_M_isReader {l : Launch} {w : WO} (hL : LyM w) {σ : DD} {a1 : Int32} {post : Int32 → DD → Prop} (h : w_M_isReader σ a1 post) : MI l w yX11_isReader cX11_isReader 2 .boolean (rmK 1 22) σ [.ref (wAd w 0), .int a1] post :=
  met_head (rt := (some .boolean)) (by decide) rfl (fun X hX C => by
  subst hX
  unfold w_M_isReader at h
  show gW X w (lim0 w) 2 (QI X w post) σ 0 [(0, .ref (wAd w 0)), (1, .int a1)] []
  refine r_iload_n C 1 rfl (dk_at dk_M_isReader_0 0 rfl) ?_
  refine r_iconst C 0 (dk_at dk_M_isReader_0 1 rfl) ?_
  refine r_aload_n C 0 rfl (dk_at dk_M_isReader_0 2 rfl) ?_
  refine r_getR C fl_M_20 0 (hL 0 _ rfl) rfl (dk_at dk_M_isReader_0 3 rfl) ?_
  refine r_sipush C 400 (dk_at dk_M_isReader_0 4 rfl) ?_
  refine r_ialdK C 4 (hL 4 _ rfl) lk_400 (vk_400_6012) (dk_at dk_M_isReader_0 5 rfl) ?_
  refine r_iconst C 1 (dk_at dk_M_isReader_0 6 rfl) ?_
  refine r_isub C (dk_at dk_M_isReader_0 7 rfl) ?_
  refine r_csI C cs_M_101 [.int a1, .int 0, .int ((gI σ 4 400) - 1)] (m_M_lies hL h) (rmK_ok rfl rfl) rfl rfl (Nat.le_of_ble_eq_true rfl) (dk_at dk_M_isReader_0 8 rfl) (fun r1 σ2 h => ?_)
  exact r_zret C h.1 h.2 (dk_at dk_M_isReader_0 9 rfl)
  )
set_option maxRecDepth 20000 in
theorem m_M_isClass {l : Launch} {w : WO} (hL : LyM w) {σ : DD} {a0 : Int32} {post : Int32 → DD → Prop} (h : w_M_isClass σ a0 post) : MI l w yX11_isClass cX11_isClass 1 .boolean (rmK 1 22) σ [.int a0] post :=
  met_head (rt := (some .boolean)) (by decide) rfl (fun X hX C => by
  subst hX
  unfold w_M_isClass at h
  show gW X w (lim0 w) 1 (QI X w post) σ 0 [(0, .int a0)] []
  refine r_iload_n C 0 rfl (dk_at dk_M_isClass_0 0 rfl) ?_
  refine r_iconst C 0 (dk_at dk_M_isClass_0 1 rfl) ?_
  refine r_iconst C 5 (dk_at dk_M_isClass_0 2 rfl) ?_
  refine r_csI C cs_M_101 [.int a0, .int 0, .int 5] (m_M_lies hL h) (rmK_ok rfl rfl) rfl rfl (Nat.le_of_ble_eq_true rfl) (dk_at dk_M_isClass_0 3 rfl) (fun r1 σ2 h => ?_)
  exact r_zret C h.1 h.2 (dk_at dk_M_isClass_0 4 rfl)
  )
set_option maxRecDepth 20000 in
theorem m_M_isDay {l : Launch} {w : WO} (hL : LyM w) {σ : DD} {a0 : Int32} {post : Int32 → DD → Prop} (h : w_M_isDay σ a0 post) : MI l w yX11_isDay cX11_isDay 1 .boolean (rmK 1 22) σ [.int a0] post :=
  met_head (rt := (some .boolean)) (by decide) rfl (fun X hX C => by
  subst hX
  unfold w_M_isDay at h
  show gW X w (lim0 w) 1 (QI X w post) σ 0 [(0, .int a0)] []
  refine r_iload_n C 0 rfl (dk_at dk_M_isDay_0 0 rfl) ?_
  refine r_iconst C 0 (dk_at dk_M_isDay_0 1 rfl) ?_
  refine r_sipush C 999 (dk_at dk_M_isDay_0 2 rfl) ?_
  refine r_csI C cs_M_101 [.int a0, .int 0, .int 999] (m_M_lies hL h) (rmK_ok rfl rfl) rfl rfl (Nat.le_of_ble_eq_true rfl) (dk_at dk_M_isDay_0 3 rfl) (fun r1 σ2 h => ?_)
  exact r_zret C h.1 h.2 (dk_at dk_M_isDay_0 4 rfl)
  )
set_option maxRecDepth 20000 in
theorem m_M_areActs {l : Launch} {w : WO} (hL : LyM w) {σ : DD} {a1 : Int32} {post : Int32 → DD → Prop} (h : w_M_areActs σ a1 post) : MI l w yX11_areActs cX11_areActs 2 .boolean (rmK 1 22) σ [.ref (wAd w 0), .int a1] post :=
  met_head (rt := (some .boolean)) (by decide) rfl (fun X hX C => by
  subst hX
  unfold w_M_areActs at h
  show gW X w (lim0 w) 2 (QI X w post) σ 0 [(0, .ref (wAd w 0)), (1, .int a1)] []
  refine r_iload_n C 1 rfl (dk_at dk_M_areActs_0 0 rfl) ?_
  refine r_iconst C 0 (dk_at dk_M_areActs_0 1 rfl) ?_
  refine r_iconst C 1 (dk_at dk_M_areActs_0 2 rfl) ?_
  refine r_aload_n C 0 rfl (dk_at dk_M_areActs_0 3 rfl) ?_
  refine r_getR C fl_M_20 0 (hL 0 _ rfl) rfl (dk_at dk_M_areActs_0 4 rfl) ?_
  refine r_sipush C 399 (dk_at dk_M_areActs_0 5 rfl) ?_
  refine r_ialdK C 4 (hL 4 _ rfl) lk_399 (vk_399_6012) (dk_at dk_M_areActs_0 6 rfl) ?_
  refine r_ishl C (dk_at dk_M_areActs_0 7 rfl) ?_
  refine r_iconst C 1 (dk_at dk_M_areActs_0 8 rfl) ?_
  refine r_isub C (dk_at dk_M_areActs_0 9 rfl) ?_
  refine r_csI C cs_M_101 [.int a1, .int 0, .int ((jshl 1 (gI σ 4 399)) - 1)] (m_M_lies hL h) (rmK_ok rfl rfl) rfl rfl (Nat.le_of_ble_eq_true rfl) (dk_at dk_M_areActs_0 10 rfl) (fun r1 σ2 h => ?_)
  exact r_zret C h.1 h.2 (dk_at dk_M_areActs_0 11 rfl)
  )
set_option maxRecDepth 20000 in
theorem m_M_fact {l : Launch} {w : WO} (hL : LyM w) {σ : DD} {a1 : Int32} {a2 : Int32} {post : Int32 → DD → Prop} (h : w_M_fact σ a1 a2 post) : MI l w yX11_fact cX11_fact 3 .int (rmK 0 0) σ [.ref (wAd w 0), .int a1, .int a2] post :=
  met_head (rt := (some .int)) (by decide) rfl (fun X hX C => by
  subst hX
  unfold w_M_fact at h
  show gW X w (lim0 w) 3 (QI X w post) σ 0 [(0, .ref (wAd w 0)), (1, .int a1), (2, .int a2)] []
  refine r_aload_n C 0 rfl (dk_at dk_M_fact_0 0 rfl) ?_
  refine r_getR C fl_M_20 0 (hL 0 _ rfl) rfl (dk_at dk_M_fact_0 1 rfl) ?_
  refine r_iconst C 0 (dk_at dk_M_fact_0 2 rfl) ?_
  refine r_iconst C 4 (dk_at dk_M_fact_0 3 rfl) ?_
  refine r_iload_n C 1 rfl (dk_at dk_M_fact_0 4 rfl) ?_
  refine r_imul C (dk_at dk_M_fact_0 5 rfl) ?_
  refine r_iadd C (dk_at dk_M_fact_0 6 rfl) ?_
  refine r_iload_n C 2 rfl (dk_at dk_M_fact_0 7 rfl) ?_
  refine r_iadd C (dk_at dk_M_fact_0 8 rfl) ?_
  obtain ⟨q1, h⟩ := h
  refine r_iald C 4 (hL 4 _ rfl) q1 (dk_at dk_M_fact_0 9 rfl) ?_
  exact r_iret C h (dk_at dk_M_fact_0 10 rfl)
  )
set_option maxRecDepth 20000 in
theorem m_M_isFact {l : Launch} {w : WO} (hL : LyM w) {σ : DD} {a0 : Int32} {a1 : Int32} {post : Int32 → DD → Prop} (h : w_M_isFact σ a0 a1 post) : MI l w yX11_isFact cX11_isFact 2 .boolean (rmK 1 22) σ [.int a0, .int a1] post :=
  met_head (rt := (some .boolean)) (by decide) rfl (fun X hX C => by
  subst hX
  unfold w_M_isFact at h
  show gW X w (lim0 w) 2 (QI X w post) σ 0 [(0, .int a0), (1, .int a1)] []
  refine r_iload_n C 0 rfl (dk_at dk_M_isFact_0 0 rfl) ?_
  refine r_if_ne C 14 rfl (dk_at dk_M_isFact_0 1 rfl) (fun c1 => ?_) (fun c1 => ?_)
  · replace h := h.1 c1
    refine r_iload_n C 0 rfl (dk_at dk_M_isFact_0 7 rfl) ?_
    refine r_iconst C 1 (dk_at dk_M_isFact_0 8 rfl) ?_
    refine r_icmp_ne C 29 rfl (dk_at dk_M_isFact_0 9 rfl) (fun c2 => ?_) (fun c2 => ?_)
    · replace h := h.1 c2
      refine r_iload_n C 0 rfl (dk_at dk_M_isFact_0 15 rfl) ?_
      refine r_iconst C 2 (dk_at dk_M_isFact_0 16 rfl) ?_
      refine r_icmp_ne C 48 rfl (dk_at dk_M_isFact_0 17 rfl) (fun c3 => ?_) (fun c3 => ?_)
      · replace h := h.1 c3
        refine r_iconst C 0 (dk_at dk_M_isFact_0 25 rfl) ?_
        exact r_zret C (Or.inl rfl) h (dk_at dk_M_isFact_0 26 rfl)
      · replace h := h.2 c3
        refine r_iload_n C 1 rfl (dk_at dk_M_isFact_0 18 rfl) ?_
        refine r_iconst C 1 (dk_at dk_M_isFact_0 19 rfl) ?_
        refine r_bipush C 63 (dk_at dk_M_isFact_0 20 rfl) ?_
        refine r_csI C cs_M_101 [.int a1, .int 1, .int 63] (m_M_lies hL h) (rmK_ok rfl rfl) rfl rfl (Nat.le_of_ble_eq_true rfl) (dk_at dk_M_isFact_0 21 rfl) (fun r4 σ5 h => ?_)
        refine r_if_eq C 48 rfl (dk_at dk_M_isFact_0 22 rfl) (fun c6 => ?_) (fun c6 => ?_)
        · replace h := h.1 c6
          refine r_iconst C 0 (dk_at dk_M_isFact_0 25 rfl) ?_
          exact r_zret C (Or.inl rfl) h (dk_at dk_M_isFact_0 26 rfl)
        · replace h := h.2 c6
          refine r_iconst C 1 (dk_at dk_M_isFact_0 23 rfl) ?_
          refine r_goto C 49 rfl (dk_at dk_M_isFact_0 24 rfl) ?_
          exact r_zret C (Or.inr rfl) h (dk_at dk_M_isFact_0 26 rfl)
    · replace h := h.2 c2
      refine r_iload_n C 1 rfl (dk_at dk_M_isFact_0 10 rfl) ?_
      refine r_iconst C 1 (dk_at dk_M_isFact_0 11 rfl) ?_
      refine r_bipush C 30 (dk_at dk_M_isFact_0 12 rfl) ?_
      refine r_csI C cs_M_101 [.int a1, .int 1, .int 30] (m_M_lies hL h) (rmK_ok rfl rfl) rfl rfl (Nat.le_of_ble_eq_true rfl) (dk_at dk_M_isFact_0 13 rfl) (fun r7 σ8 h => ?_)
      refine r_goto C 49 rfl (dk_at dk_M_isFact_0 14 rfl) ?_
      exact r_zret C h.1 h.2 (dk_at dk_M_isFact_0 26 rfl)
  · replace h := h.2 c1
    refine r_iload_n C 1 rfl (dk_at dk_M_isFact_0 2 rfl) ?_
    refine r_iconst C 1 (dk_at dk_M_isFact_0 3 rfl) ?_
    refine r_bipush C 60 (dk_at dk_M_isFact_0 4 rfl) ?_
    refine r_csI C cs_M_101 [.int a1, .int 1, .int 60] (m_M_lies hL h) (rmK_ok rfl rfl) rfl rfl (Nat.le_of_ble_eq_true rfl) (dk_at dk_M_isFact_0 5 rfl) (fun r9 σ10 h => ?_)
    refine r_goto C 49 rfl (dk_at dk_M_isFact_0 6 rfl) ?_
    exact r_zret C h.1 h.2 (dk_at dk_M_isFact_0 26 rfl)
  )
set_option maxRecDepth 20000 in
theorem m_M_adds {l : Launch} {w : WO} (hL : LyM w) {σ : DD} {a1 : Int32} {a2 : Int32} {a3 : Int32} {a4 : Int32} {post : DD → Prop} (h : w_M_adds σ a1 a2 a3 a4 post) : MV l w yX11_adds cX11_adds 6 (rmK 0 0) σ [.ref (wAd w 0), .int a1, .int a2, .int a3, .int a4] post :=
  met_head (rt := none) (by decide) rfl (fun X hX C => by
  subst hX
  unfold w_M_adds at h
  show gW X w (lim0 w) 6 (QV X w post) σ 0 [(0, .ref (wAd w 0)), (1, .int a1), (2, .int a2), (3, .int a3), (4, .int a4)] []
  refine r_iconst C 0 (dk_at dk_M_adds_0 0 rfl) ?_
  refine r_iconst C 4 (dk_at dk_M_adds_0 1 rfl) ?_
  refine r_aload_n C 0 rfl (dk_at dk_M_adds_0 2 rfl) ?_
  refine r_getR C fl_M_20 0 (hL 0 _ rfl) rfl (dk_at dk_M_adds_0 3 rfl) ?_
  refine r_sipush C 399 (dk_at dk_M_adds_0 4 rfl) ?_
  refine r_ialdK C 4 (hL 4 _ rfl) lk_399 (vk_399_6012) (dk_at dk_M_adds_0 5 rfl) ?_
  refine r_imul C (dk_at dk_M_adds_0 6 rfl) ?_
  refine r_iadd C (dk_at dk_M_adds_0 7 rfl) ?_
  refine r_topi (fun v1 e2 => ?_)
  replace h := h v1 e2
  refine r_istore C [(5, .int v1), (0, .ref (wAd w 0)), (1, .int a1), (2, .int a2), (3, .int a3), (4, .int a4)] rfl rfl (dk_at dk_M_adds_0 8 rfl) ?_
  refine r_aload_n C 1 rfl (dk_at dk_M_adds_0 9 rfl) ?_
  refine r_getR C fl_M_20 0 (hL 0 _ rfl) rfl (dk_at dk_M_adds_0 10 rfl) ?_
  refine r_iload C 0 rfl (dk_at dk_M_adds_0 11 rfl) ?_
  refine r_iconst C 0 (dk_at dk_M_adds_0 12 rfl) ?_
  refine r_iadd C (dk_at dk_M_adds_0 13 rfl) ?_
  refine r_iload_n C 2 rfl (dk_at dk_M_adds_0 14 rfl) ?_
  obtain ⟨q5, h⟩ := h
  refine r_iast C 4 (hL 4 _ rfl) q5 (dk_at dk_M_adds_0 15 rfl) (r_sg (fun σ3 e4 => ?_))
  replace h := h σ3 e4
  refine r_aload_n C 1 rfl (dk_at dk_M_adds_0 16 rfl) ?_
  refine r_getR C fl_M_20 0 (hL 0 _ rfl) rfl (dk_at dk_M_adds_0 17 rfl) ?_
  refine r_iload C 0 rfl (dk_at dk_M_adds_0 18 rfl) ?_
  refine r_iconst C 1 (dk_at dk_M_adds_0 19 rfl) ?_
  refine r_iadd C (dk_at dk_M_adds_0 20 rfl) ?_
  refine r_iload_n C 3 rfl (dk_at dk_M_adds_0 21 rfl) ?_
  obtain ⟨q8, h⟩ := h
  refine r_iast C 4 (hL 4 _ rfl) q8 (dk_at dk_M_adds_0 22 rfl) (r_sg (fun σ6 e7 => ?_))
  replace h := h σ6 e7
  refine r_aload_n C 1 rfl (dk_at dk_M_adds_0 23 rfl) ?_
  refine r_getR C fl_M_20 0 (hL 0 _ rfl) rfl (dk_at dk_M_adds_0 24 rfl) ?_
  refine r_iload C 0 rfl (dk_at dk_M_adds_0 25 rfl) ?_
  refine r_iconst C 2 (dk_at dk_M_adds_0 26 rfl) ?_
  refine r_iadd C (dk_at dk_M_adds_0 27 rfl) ?_
  refine r_iload_n C 4 rfl (dk_at dk_M_adds_0 28 rfl) ?_
  obtain ⟨q11, h⟩ := h
  refine r_iast C 4 (hL 4 _ rfl) q11 (dk_at dk_M_adds_0 29 rfl) (r_sg (fun σ9 e10 => ?_))
  replace h := h σ9 e10
  refine r_aload_n C 1 rfl (dk_at dk_M_adds_0 30 rfl) ?_
  refine r_getR C fl_M_20 0 (hL 0 _ rfl) rfl (dk_at dk_M_adds_0 31 rfl) ?_
  refine r_iload C 0 rfl (dk_at dk_M_adds_0 32 rfl) ?_
  refine r_iconst C 3 (dk_at dk_M_adds_0 33 rfl) ?_
  refine r_iadd C (dk_at dk_M_adds_0 34 rfl) ?_
  refine r_iload C 5 rfl (dk_at dk_M_adds_0 35 rfl) ?_
  obtain ⟨q14, h⟩ := h
  refine r_iast C 4 (hL 4 _ rfl) q14 (dk_at dk_M_adds_0 36 rfl) (r_sg (fun σ12 e13 => ?_))
  replace h := h σ12 e13
  refine r_aload_n C 1 rfl (dk_at dk_M_adds_0 37 rfl) ?_
  refine r_getR C fl_M_20 0 (hL 0 _ rfl) rfl (dk_at dk_M_adds_0 38 rfl) ?_
  refine r_sipush C 399 (dk_at dk_M_adds_0 39 rfl) ?_
  refine r_dup2 C rfl rfl (dk_at dk_M_adds_1 0 rfl) ?_
  refine r_ialdK C 4 (hL 4 _ rfl) lk_399 (vk_399_6012) (dk_at dk_M_adds_1 1 rfl) ?_
  refine r_iconst C 1 (dk_at dk_M_adds_1 2 rfl) ?_
  refine r_iadd C (dk_at dk_M_adds_1 3 rfl) ?_
  refine r_iastK C 4 (hL 4 _ rfl) lk_399 vk_399_6012 (dk_at dk_M_adds_1 4 rfl) (r_sg (fun σ15 e16 => ?_))
  replace h := h σ15 e16
  exact r_vret C h (dk_at dk_M_adds_1 5 rfl)
  )
set_option maxRecDepth 20000 in
theorem t_M_act_j24 {X : CT} {w : WO} (C : CF X w (lim0 w) 4 cX11_act RX11 (some .int) (.code yX11_act cX11_act 4 (some .int)) (rmK 2 43)) (hL : LyM w) {post : Int32 → DD → Prop} {σ : DD} (h : w_M_act_j24 post σ) : gW X w (lim0 w) 4 (QI X w post) σ 24 [(0, .ref (wAd w 0))] [] := by
  unfold w_M_act_j24 at h
  refine r_aload_n C 0 rfl (dk_at dk_M_act_0 12 rfl) ?_
  refine r_iconst C (-1) (dk_at dk_M_act_0 13 rfl) ?_
  refine r_cvI C cl_M_105 0 (hL 0 _ rfl) [.int (-1)] (m_M_refuses hL h) (rmK_ok rfl rfl) rfl rfl (Nat.le_of_ble_eq_true rfl) (dk_at dk_M_act_0 14 rfl) (fun r1 σ2 h => ?_)
  exact r_iret C h (dk_at dk_M_act_0 15 rfl)
set_option maxRecDepth 20000 in
theorem m_M_act {l : Launch} {w : WO} (hL : LyM w) {σ : DD} {a1 : Int32} {a2 : Int32} {a3 : Int32} {post : Int32 → DD → Prop} (h : w_M_act σ a1 a2 a3 post) : MI l w yX11_act cX11_act 4 .int (rmK 2 43) σ [.ref (wAd w 0), .int a1, .int a2, .int a3] post :=
  met_head (rt := (some .int)) (by decide) rfl (fun X hX C => by
  subst hX
  unfold w_M_act at h
  show gW X w (lim0 w) 4 (QI X w post) σ 0 [(0, .ref (wAd w 0)), (1, .int a1), (2, .int a2), (3, .int a3)] []
  refine r_iconst C 0 (dk_at dk_M_act_0 0 rfl) ?_
  refine r_iload_n C 1 rfl (dk_at dk_M_act_0 1 rfl) ?_
  refine r_csI C cs_M_112 [.int 0, .int a1] (m_M_isFact hL h) (rmK_ok rfl rfl) rfl rfl (Nat.le_of_ble_eq_true rfl) (dk_at dk_M_act_0 2 rfl) (fun r3 σ4 h => ?_)
  refine r_if_eq C 24 rfl (dk_at dk_M_act_0 3 rfl) (fun c5 => ?_) (fun c5 => ?_)
  · replace h := h.1 c5
    refine r_lv [0] rfl ?_
    exact t_M_act_j24 C hL h
  · replace h := h.2 c5
    refine r_iconst C 1 (dk_at dk_M_act_0 4 rfl) ?_
    refine r_iload_n C 2 rfl (dk_at dk_M_act_0 5 rfl) ?_
    refine r_csI C cs_M_112 [.int 1, .int a2] (m_M_isFact hL h) (rmK_ok rfl rfl) rfl rfl (Nat.le_of_ble_eq_true rfl) (dk_at dk_M_act_0 6 rfl) (fun r6 σ7 h => ?_)
    refine r_if_eq C 24 rfl (dk_at dk_M_act_0 7 rfl) (fun c8 => ?_) (fun c8 => ?_)
    · replace h := h.1 c8
      refine r_lv [0] rfl ?_
      exact t_M_act_j24 C hL h
    · replace h := h.2 c8
      refine r_iconst C 2 (dk_at dk_M_act_0 8 rfl) ?_
      refine r_iload_n C 3 rfl (dk_at dk_M_act_0 9 rfl) ?_
      refine r_csI C cs_M_112 [.int 2, .int a3] (m_M_isFact hL h) (rmK_ok rfl rfl) rfl rfl (Nat.le_of_ble_eq_true rfl) (dk_at dk_M_act_0 10 rfl) (fun r9 σ10 h => ?_)
      refine r_if_ne C 30 rfl (dk_at dk_M_act_0 11 rfl) (fun c11 => ?_) (fun c11 => ?_)
      · replace h := h.1 c11
        refine r_aload_n C 0 rfl (dk_at dk_M_act_0 16 rfl) ?_
        refine r_getR C fl_M_20 0 (hL 0 _ rfl) rfl (dk_at dk_M_act_0 17 rfl) ?_
        refine r_sipush C 399 (dk_at dk_M_act_0 18 rfl) ?_
        refine r_ialdK C 4 (hL 4 _ rfl) lk_399 (vk_399_6012) (dk_at dk_M_act_0 19 rfl) ?_
        refine r_bipush C 8 (dk_at dk_M_act_0 20 rfl) ?_
        refine r_icmp_ne C 50 rfl (dk_at dk_M_act_0 21 rfl) (fun c12 => ?_) (fun c12 => ?_)
        · replace h := h.1 c12
          refine r_aload_n C 0 rfl (dk_at dk_M_act_0 26 rfl) ?_
          refine r_iload_n C 1 rfl (dk_at dk_M_act_0 27 rfl) ?_
          refine r_iload_n C 2 rfl (dk_at dk_M_act_0 28 rfl) ?_
          refine r_iload_n C 3 rfl (dk_at dk_M_act_0 29 rfl) ?_
          refine r_iconst C (-1) (dk_at dk_M_act_0 30 rfl) ?_
          refine r_cvV C cl_M_116 0 (hL 0 _ rfl) [.int a1, .int a2, .int a3, .int (-1)] (m_M_adds hL h) (rmK_ok rfl rfl) rfl rfl (Nat.le_of_ble_eq_true rfl) (dk_at dk_M_act_0 31 rfl) (fun σ14 h => ?_)
          refine r_aload_n C 0 rfl (dk_at dk_M_act_0 32 rfl) ?_
          refine r_aload_n C 0 rfl (dk_at dk_M_act_0 33 rfl) ?_
          refine r_getR C fl_M_20 0 (hL 0 _ rfl) rfl (dk_at dk_M_act_0 34 rfl) ?_
          refine r_sipush C 399 (dk_at dk_M_act_0 35 rfl) ?_
          refine r_ialdK C 4 (hL 4 _ rfl) lk_399 (vk_399_6012) (dk_at dk_M_act_0 36 rfl) ?_
          refine r_iconst C 1 (dk_at dk_M_act_0 37 rfl) ?_
          refine r_isub C (dk_at dk_M_act_0 38 rfl) ?_
          refine r_cvI C cl_M_109 0 (hL 0 _ rfl) [.int ((gI σ14 4 399) - 1)] (m_M_good hL h) (rmK_ok rfl rfl) rfl rfl (Nat.le_of_ble_eq_true rfl) (dk_at dk_M_act_0 39 rfl) (fun r15 σ16 h => ?_)
          exact r_iret C h (dk_at dk_M_act_1 0 rfl)
        · replace h := h.2 c12
          refine r_aload_n C 0 rfl (dk_at dk_M_act_0 22 rfl) ?_
          refine r_bipush C (-5) (dk_at dk_M_act_0 23 rfl) ?_
          refine r_cvI C cl_M_105 0 (hL 0 _ rfl) [.int (-5)] (m_M_refuses hL h) (rmK_ok rfl rfl) rfl rfl (Nat.le_of_ble_eq_true rfl) (dk_at dk_M_act_0 24 rfl) (fun r17 σ18 h => ?_)
          exact r_iret C h (dk_at dk_M_act_0 25 rfl)
      · replace h := h.2 c11
        refine r_lv [0] rfl ?_
        exact t_M_act_j24 C hL h
  )
set_option maxRecDepth 20000 in
theorem t_M_put_j23 {X : CT} {w : WO} (C : CF X w (lim0 w) 5 cX11_put RX11 (some .int) (.code yX11_put cX11_put 5 (some .int)) (rmK 2 43)) (hL : LyM w) {post : Int32 → DD → Prop} {σ : DD} (h : w_M_put_j23 post σ) : gW X w (lim0 w) 5 (QI X w post) σ 23 [(0, .ref (wAd w 0))] [] := by
  unfold w_M_put_j23 at h
  refine r_aload_n C 0 rfl (dk_at dk_M_put_0 13 rfl) ?_
  refine r_iconst C (-1) (dk_at dk_M_put_0 14 rfl) ?_
  refine r_cvI C cl_M_105 0 (hL 0 _ rfl) [.int (-1)] (m_M_refuses hL h) (rmK_ok rfl rfl) rfl rfl (Nat.le_of_ble_eq_true rfl) (dk_at dk_M_put_0 15 rfl) (fun r1 σ2 h => ?_)
  exact r_iret C h (dk_at dk_M_put_0 16 rfl)
set_option maxRecDepth 20000 in
theorem t_M_put_j55 {X : CT} {w : WO} (C : CF X w (lim0 w) 5 cX11_put RX11 (some .int) (.code yX11_put cX11_put 5 (some .int)) (rmK 2 43)) (hL : LyM w) {post : Int32 → DD → Prop} {σ : DD} (h : w_M_put_j55 post σ) : gW X w (lim0 w) 5 (QI X w post) σ 55 [(0, .ref (wAd w 0))] [] := by
  unfold w_M_put_j55 at h
  refine r_aload_n C 0 rfl (dk_at dk_M_put_0 31 rfl) ?_
  refine r_bipush C (-2) (dk_at dk_M_put_0 32 rfl) ?_
  refine r_cvI C cl_M_105 0 (hL 0 _ rfl) [.int (-2)] (m_M_refuses hL h) (rmK_ok rfl rfl) rfl rfl (Nat.le_of_ble_eq_true rfl) (dk_at dk_M_put_0 33 rfl) (fun r3 σ4 h => ?_)
  exact r_iret C h (dk_at dk_M_put_0 34 rfl)
set_option maxRecDepth 20000 in
theorem t_M_put_j62 {X : CT} {w : WO} (C : CF X w (lim0 w) 5 cX11_put RX11 (some .int) (.code yX11_put cX11_put 5 (some .int)) (rmK 2 43)) (hL : LyM w) {post : Int32 → DD → Prop} {a1 : Int32} {a2 : Int32} {a3 : Int32} {σ : DD} (h : w_M_put_j62 post σ a1 a2 a3) : gW X w (lim0 w) 5 (QI X w post) σ 62 [(0, .ref (wAd w 0)), (1, .int a1), (2, .int a2), (3, .int a3)] [] := by
  unfold w_M_put_j62 at h
  refine r_aload_n C 0 rfl (dk_at dk_M_put_0 35 rfl) ?_
  refine r_iload_n C 1 rfl (dk_at dk_M_put_0 36 rfl) ?_
  refine r_iload_n C 2 rfl (dk_at dk_M_put_0 37 rfl) ?_
  refine r_cvI C cl_M_124 0 (hL 0 _ rfl) [.int a1, .int a2] (m_M_fact hL h) (rmK_ok rfl rfl) rfl rfl (Nat.le_of_ble_eq_true rfl) (dk_at dk_M_put_0 38 rfl) (fun r5 σ6 h => ?_)
  refine r_istore C [(4, .int r5), (0, .ref (wAd w 0)), (1, .int a1), (2, .int a2), (3, .int a3)] rfl rfl (dk_at dk_M_put_0 39 rfl) ?_
  refine r_aload_n C 1 rfl (dk_at dk_M_put_1 0 rfl) ?_
  refine r_getR C fl_M_20 0 (hL 0 _ rfl) rfl (dk_at dk_M_put_1 1 rfl) ?_
  refine r_iconst C 0 (dk_at dk_M_put_1 2 rfl) ?_
  refine r_iconst C 4 (dk_at dk_M_put_1 3 rfl) ?_
  refine r_iload_n C 2 rfl (dk_at dk_M_put_1 4 rfl) ?_
  refine r_imul C (dk_at dk_M_put_1 5 rfl) ?_
  refine r_iadd C (dk_at dk_M_put_1 6 rfl) ?_
  refine r_iload_n C 3 rfl (dk_at dk_M_put_1 7 rfl) ?_
  refine r_iadd C (dk_at dk_M_put_1 8 rfl) ?_
  refine r_iload_n C 4 rfl (dk_at dk_M_put_1 9 rfl) ?_
  obtain ⟨q9, h⟩ := h
  refine r_iast C 4 (hL 4 _ rfl) q9 (dk_at dk_M_put_1 10 rfl) (r_sg (fun σ7 e8 => ?_))
  replace h := h σ7 e8
  refine r_aload_n C 1 rfl (dk_at dk_M_put_1 11 rfl) ?_
  refine r_iload C 0 rfl (dk_at dk_M_put_1 12 rfl) ?_
  refine r_cvI C cl_M_109 0 (hL 0 _ rfl) [.int r5] (m_M_good hL h) (rmK_ok rfl rfl) rfl rfl (Nat.le_of_ble_eq_true rfl) (dk_at dk_M_put_1 13 rfl) (fun r10 σ11 h => ?_)
  exact r_iret C h (dk_at dk_M_put_1 14 rfl)
set_option maxRecDepth 20000 in
theorem t_M_put_j29 {X : CT} {w : WO} (C : CF X w (lim0 w) 5 cX11_put RX11 (some .int) (.code yX11_put cX11_put 5 (some .int)) (rmK 2 43)) (hL : LyM w) {post : Int32 → DD → Prop} {a1 : Int32} {a2 : Int32} {a3 : Int32} {σ : DD} (h : w_M_put_j29 post σ a1 a2 a3) : gW X w (lim0 w) 5 (QI X w post) σ 29 [(0, .ref (wAd w 0)), (1, .int a1), (2, .int a2), (3, .int a3)] [] := by
  unfold w_M_put_j29 at h
  refine r_aload_n C 0 rfl (dk_at dk_M_put_0 17 rfl) ?_
  refine r_iload_n C 1 rfl (dk_at dk_M_put_0 18 rfl) ?_
  refine r_cvI C cl_M_120 0 (hL 0 _ rfl) [.int a1] (m_M_isAct hL h) (rmK_ok rfl rfl) rfl rfl (Nat.le_of_ble_eq_true rfl) (dk_at dk_M_put_0 19 rfl) (fun r12 σ13 h => ?_)
  refine r_if_eq C 55 rfl (dk_at dk_M_put_0 20 rfl) (fun c14 => ?_) (fun c14 => ?_)
  · replace h := h.1 c14
    refine r_lv [0] rfl ?_
    exact t_M_put_j55 C hL h
  · replace h := h.2 c14
    refine r_iload_n C 2 rfl (dk_at dk_M_put_0 21 rfl) ?_
    refine r_iconst C 3 (dk_at dk_M_put_0 22 rfl) ?_
    refine r_icmp_ne C 62 rfl (dk_at dk_M_put_0 23 rfl) (fun c15 => ?_) (fun c15 => ?_)
    · replace h := h.1 c15
      refine r_lv [0, 1, 2, 3] rfl ?_
      exact t_M_put_j62 C hL h
    · replace h := h.2 c15
      refine r_iload_n C 3 rfl (dk_at dk_M_put_0 24 rfl) ?_
      refine r_iconst C (-1) (dk_at dk_M_put_0 25 rfl) ?_
      refine r_icmp_eq C 62 rfl (dk_at dk_M_put_0 26 rfl) (fun c16 => ?_) (fun c16 => ?_)
      · replace h := h.1 c16
        refine r_lv [0, 1, 2, 3] rfl ?_
        exact t_M_put_j62 C hL h
      · replace h := h.2 c16
        refine r_aload_n C 0 rfl (dk_at dk_M_put_0 27 rfl) ?_
        refine r_iload_n C 3 rfl (dk_at dk_M_put_0 28 rfl) ?_
        refine r_cvI C cl_M_120 0 (hL 0 _ rfl) [.int a3] (m_M_isAct hL h) (rmK_ok rfl rfl) rfl rfl (Nat.le_of_ble_eq_true rfl) (dk_at dk_M_put_0 29 rfl) (fun r17 σ18 h => ?_)
        refine r_if_ne C 62 rfl (dk_at dk_M_put_0 30 rfl) (fun c19 => ?_) (fun c19 => ?_)
        · replace h := h.1 c19
          refine r_lv [0, 1, 2, 3] rfl ?_
          exact t_M_put_j62 C hL h
        · replace h := h.2 c19
          refine r_lv [0] rfl ?_
          exact t_M_put_j55 C hL h
set_option maxRecDepth 20000 in
theorem m_M_put {l : Launch} {w : WO} (hL : LyM w) {σ : DD} {a1 : Int32} {a2 : Int32} {a3 : Int32} {post : Int32 → DD → Prop} (h : w_M_put σ a1 a2 a3 post) : MI l w yX11_put cX11_put 5 .int (rmK 2 43) σ [.ref (wAd w 0), .int a1, .int a2, .int a3] post :=
  met_head (rt := (some .int)) (by decide) rfl (fun X hX C => by
  subst hX
  unfold w_M_put at h
  show gW X w (lim0 w) 5 (QI X w post) σ 0 [(0, .ref (wAd w 0)), (1, .int a1), (2, .int a2), (3, .int a3)] []
  refine r_iload_n C 2 rfl (dk_at dk_M_put_0 0 rfl) ?_
  refine r_iload_n C 3 rfl (dk_at dk_M_put_0 1 rfl) ?_
  refine r_csI C cs_M_112 [.int a2, .int a3] (m_M_isFact hL h) (rmK_ok rfl rfl) rfl rfl (Nat.le_of_ble_eq_true rfl) (dk_at dk_M_put_0 2 rfl) (fun r20 σ21 h => ?_)
  refine r_if_ne C 29 rfl (dk_at dk_M_put_0 3 rfl) (fun c22 => ?_) (fun c22 => ?_)
  · replace h := h.1 c22
    refine r_lv [0, 1, 2, 3] rfl ?_
    exact t_M_put_j29 C hL h
  · replace h := h.2 c22
    refine r_iload_n C 2 rfl (dk_at dk_M_put_0 4 rfl) ?_
    refine r_iconst C 3 (dk_at dk_M_put_0 5 rfl) ?_
    refine r_icmp_ne C 23 rfl (dk_at dk_M_put_0 6 rfl) (fun c23 => ?_) (fun c23 => ?_)
    · replace h := h.1 c23
      refine r_lv [0] rfl ?_
      exact t_M_put_j23 C hL h
    · replace h := h.2 c23
      refine r_iload_n C 3 rfl (dk_at dk_M_put_0 7 rfl) ?_
      refine r_iconst C (-1) (dk_at dk_M_put_0 8 rfl) ?_
      refine r_icmp_lt C 23 rfl (dk_at dk_M_put_0 9 rfl) (fun c24 => ?_) (fun c24 => ?_)
      · replace h := h.1 c24
        refine r_lv [0] rfl ?_
        exact t_M_put_j23 C hL h
      · replace h := h.2 c24
        refine r_iload_n C 3 rfl (dk_at dk_M_put_0 10 rfl) ?_
        refine r_iload_n C 1 rfl (dk_at dk_M_put_0 11 rfl) ?_
        refine r_icmp_ne C 29 rfl (dk_at dk_M_put_0 12 rfl) (fun c25 => ?_) (fun c25 => ?_)
        · replace h := h.1 c25
          refine r_lv [0, 1, 2, 3] rfl ?_
          exact t_M_put_j29 C hL h
        · replace h := h.2 c25
          refine r_lv [0] rfl ?_
          exact t_M_put_j23 C hL h
  )
set_option maxRecDepth 20000 in
theorem t_M_gainsay_j14 {X : CT} {w : WO} (C : CF X w (lim0 w) 5 cX11_gainsay RX11 (some .int) (.code yX11_gainsay cX11_gainsay 5 (some .int)) (rmK 2 43)) (hL : LyM w) {post : Int32 → DD → Prop} {σ : DD} (h : w_M_gainsay_j14 post σ) : gW X w (lim0 w) 5 (QI X w post) σ 14 [(0, .ref (wAd w 0))] [] := by
  unfold w_M_gainsay_j14 at h
  refine r_aload_n C 0 rfl (dk_at dk_M_gainsay_0 8 rfl) ?_
  refine r_iconst C (-1) (dk_at dk_M_gainsay_0 9 rfl) ?_
  refine r_cvI C cl_M_105 0 (hL 0 _ rfl) [.int (-1)] (m_M_refuses hL h) (rmK_ok rfl rfl) rfl rfl (Nat.le_of_ble_eq_true rfl) (dk_at dk_M_gainsay_0 10 rfl) (fun r1 σ2 h => ?_)
  exact r_iret C h (dk_at dk_M_gainsay_0 11 rfl)
set_option maxRecDepth 20000 in
theorem t_M_gainsay_j36 {X : CT} {w : WO} (C : CF X w (lim0 w) 5 cX11_gainsay RX11 (some .int) (.code yX11_gainsay cX11_gainsay 5 (some .int)) (rmK 2 43)) (hL : LyM w) {post : Int32 → DD → Prop} {σ : DD} (h : w_M_gainsay_j36 post σ) : gW X w (lim0 w) 5 (QI X w post) σ 36 [(0, .ref (wAd w 0))] [] := by
  unfold w_M_gainsay_j36 at h
  refine r_aload_n C 0 rfl (dk_at dk_M_gainsay_0 20 rfl) ?_
  refine r_bipush C (-2) (dk_at dk_M_gainsay_0 21 rfl) ?_
  refine r_cvI C cl_M_105 0 (hL 0 _ rfl) [.int (-2)] (m_M_refuses hL h) (rmK_ok rfl rfl) rfl rfl (Nat.le_of_ble_eq_true rfl) (dk_at dk_M_gainsay_0 22 rfl) (fun r3 σ4 h => ?_)
  exact r_iret C h (dk_at dk_M_gainsay_0 23 rfl)
set_option maxRecDepth 20000 in
theorem m_M_gainsay {l : Launch} {w : WO} (hL : LyM w) {σ : DD} {a1 : Int32} {a2 : Int32} {a3 : Int32} {post : Int32 → DD → Prop} (h : w_M_gainsay σ a1 a2 a3 post) : MI l w yX11_gainsay cX11_gainsay 5 .int (rmK 2 43) σ [.ref (wAd w 0), .int a1, .int a2, .int a3] post :=
  met_head (rt := (some .int)) (by decide) rfl (fun X hX C => by
  subst hX
  unfold w_M_gainsay at h
  show gW X w (lim0 w) 5 (QI X w post) σ 0 [(0, .ref (wAd w 0)), (1, .int a1), (2, .int a2), (3, .int a3)] []
  refine r_iload_n C 3 rfl (dk_at dk_M_gainsay_0 0 rfl) ?_
  refine r_iconst C 0 (dk_at dk_M_gainsay_0 1 rfl) ?_
  refine r_iconst C 1 (dk_at dk_M_gainsay_0 2 rfl) ?_
  refine r_csI C cs_M_101 [.int a3, .int 0, .int 1] (m_M_lies hL h) (rmK_ok rfl rfl) rfl rfl (Nat.le_of_ble_eq_true rfl) (dk_at dk_M_gainsay_0 3 rfl) (fun r5 σ6 h => ?_)
  refine r_if_eq C 14 rfl (dk_at dk_M_gainsay_0 4 rfl) (fun c7 => ?_) (fun c7 => ?_)
  · replace h := h.1 c7
    refine r_lv [0] rfl ?_
    exact t_M_gainsay_j14 C hL h
  · replace h := h.2 c7
    refine r_iload_n C 1 rfl (dk_at dk_M_gainsay_0 5 rfl) ?_
    refine r_iload_n C 2 rfl (dk_at dk_M_gainsay_0 6 rfl) ?_
    refine r_icmp_ne C 20 rfl (dk_at dk_M_gainsay_0 7 rfl) (fun c8 => ?_) (fun c8 => ?_)
    · replace h := h.1 c8
      refine r_aload_n C 0 rfl (dk_at dk_M_gainsay_0 12 rfl) ?_
      refine r_iload_n C 1 rfl (dk_at dk_M_gainsay_0 13 rfl) ?_
      refine r_cvI C cl_M_120 0 (hL 0 _ rfl) [.int a1] (m_M_isAct hL h) (rmK_ok rfl rfl) rfl rfl (Nat.le_of_ble_eq_true rfl) (dk_at dk_M_gainsay_0 14 rfl) (fun r9 σ10 h => ?_)
      refine r_if_eq C 36 rfl (dk_at dk_M_gainsay_0 15 rfl) (fun c11 => ?_) (fun c11 => ?_)
      · replace h := h.1 c11
        refine r_lv [0] rfl ?_
        exact t_M_gainsay_j36 C hL h
      · replace h := h.2 c11
        refine r_aload_n C 0 rfl (dk_at dk_M_gainsay_0 16 rfl) ?_
        refine r_iload_n C 2 rfl (dk_at dk_M_gainsay_0 17 rfl) ?_
        refine r_cvI C cl_M_120 0 (hL 0 _ rfl) [.int a2] (m_M_isAct hL h) (rmK_ok rfl rfl) rfl rfl (Nat.le_of_ble_eq_true rfl) (dk_at dk_M_gainsay_0 18 rfl) (fun r12 σ13 h => ?_)
        refine r_if_ne C 43 rfl (dk_at dk_M_gainsay_0 19 rfl) (fun c14 => ?_) (fun c14 => ?_)
        · replace h := h.1 c14
          refine r_aload_n C 0 rfl (dk_at dk_M_gainsay_0 24 rfl) ?_
          refine r_getR C fl_M_20 0 (hL 0 _ rfl) rfl (dk_at dk_M_gainsay_0 25 rfl) ?_
          refine r_bipush C 32 (dk_at dk_M_gainsay_0 26 rfl) ?_
          refine r_bipush C 8 (dk_at dk_M_gainsay_0 27 rfl) ?_
          refine r_iload_n C 1 rfl (dk_at dk_M_gainsay_0 28 rfl) ?_
          refine r_imul C (dk_at dk_M_gainsay_0 29 rfl) ?_
          refine r_iadd C (dk_at dk_M_gainsay_0 30 rfl) ?_
          refine r_iload_n C 2 rfl (dk_at dk_M_gainsay_0 31 rfl) ?_
          refine r_iadd C (dk_at dk_M_gainsay_0 32 rfl) ?_
          obtain ⟨q15, h⟩ := h
          refine r_iald C 4 (hL 4 _ rfl) q15 (dk_at dk_M_gainsay_0 33 rfl) ?_
          refine r_topi (fun v16 e17 => ?_)
          replace h := h v16 e17
          refine r_istore C [(4, .int v16), (0, .ref (wAd w 0)), (1, .int a1), (2, .int a2), (3, .int a3)] rfl rfl (dk_at dk_M_gainsay_0 34 rfl) ?_
          refine r_aload_n C 1 rfl (dk_at dk_M_gainsay_0 35 rfl) ?_
          refine r_getR C fl_M_20 0 (hL 0 _ rfl) rfl (dk_at dk_M_gainsay_0 36 rfl) ?_
          refine r_bipush C 32 (dk_at dk_M_gainsay_0 37 rfl) ?_
          refine r_bipush C 8 (dk_at dk_M_gainsay_0 38 rfl) ?_
          refine r_iload_n C 2 rfl (dk_at dk_M_gainsay_0 39 rfl) ?_
          refine r_imul C (dk_at dk_M_gainsay_1 0 rfl) ?_
          refine r_iadd C (dk_at dk_M_gainsay_1 1 rfl) ?_
          refine r_iload_n C 3 rfl (dk_at dk_M_gainsay_1 2 rfl) ?_
          refine r_iadd C (dk_at dk_M_gainsay_1 3 rfl) ?_
          refine r_iload_n C 4 rfl (dk_at dk_M_gainsay_1 4 rfl) ?_
          obtain ⟨q20, h⟩ := h
          refine r_iast C 4 (hL 4 _ rfl) q20 (dk_at dk_M_gainsay_1 5 rfl) (r_sg (fun σ18 e19 => ?_))
          replace h := h σ18 e19
          refine r_aload_n C 1 rfl (dk_at dk_M_gainsay_1 6 rfl) ?_
          refine r_getR C fl_M_20 0 (hL 0 _ rfl) rfl (dk_at dk_M_gainsay_1 7 rfl) ?_
          refine r_bipush C 32 (dk_at dk_M_gainsay_1 8 rfl) ?_
          refine r_bipush C 8 (dk_at dk_M_gainsay_1 9 rfl) ?_
          refine r_iload_n C 3 rfl (dk_at dk_M_gainsay_1 10 rfl) ?_
          refine r_imul C (dk_at dk_M_gainsay_1 11 rfl) ?_
          refine r_iadd C (dk_at dk_M_gainsay_1 12 rfl) ?_
          refine r_iload_n C 2 rfl (dk_at dk_M_gainsay_1 13 rfl) ?_
          refine r_iadd C (dk_at dk_M_gainsay_1 14 rfl) ?_
          refine r_iload_n C 4 rfl (dk_at dk_M_gainsay_1 15 rfl) ?_
          obtain ⟨q23, h⟩ := h
          refine r_iast C 4 (hL 4 _ rfl) q23 (dk_at dk_M_gainsay_1 16 rfl) (r_sg (fun σ21 e22 => ?_))
          replace h := h σ21 e22
          refine r_aload_n C 1 rfl (dk_at dk_M_gainsay_1 17 rfl) ?_
          refine r_iload C 0 rfl (dk_at dk_M_gainsay_1 18 rfl) ?_
          refine r_cvI C cl_M_109 0 (hL 0 _ rfl) [.int v16] (m_M_good hL h) (rmK_ok rfl rfl) rfl rfl (Nat.le_of_ble_eq_true rfl) (dk_at dk_M_gainsay_1 19 rfl) (fun r24 σ25 h => ?_)
          exact r_iret C h (dk_at dk_M_gainsay_1 20 rfl)
        · replace h := h.2 c14
          refine r_lv [0] rfl ?_
          exact t_M_gainsay_j36 C hL h
    · replace h := h.2 c8
      refine r_lv [0] rfl ?_
      exact t_M_gainsay_j14 C hL h
  )
set_option maxRecDepth 20000 in
theorem m_M_gainsays {l : Launch} {w : WO} (hL : LyM w) {σ : DD} {a1 : Int32} {a2 : Int32} {post : Int32 → DD → Prop} (h : w_M_gainsays σ a1 a2 post) : MI l w yX11_gainsays cX11_gainsays 3 .boolean (rmK 0 0) σ [.ref (wAd w 0), .int a1, .int a2] post :=
  met_head (rt := (some .boolean)) (by decide) rfl (fun X hX C => by
  subst hX
  unfold w_M_gainsays at h
  show gW X w (lim0 w) 3 (QI X w post) σ 0 [(0, .ref (wAd w 0)), (1, .int a1), (2, .int a2)] []
  refine r_aload_n C 0 rfl (dk_at dk_M_gainsays_0 0 rfl) ?_
  refine r_getR C fl_M_20 0 (hL 0 _ rfl) rfl (dk_at dk_M_gainsays_0 1 rfl) ?_
  refine r_bipush C 32 (dk_at dk_M_gainsays_0 2 rfl) ?_
  refine r_bipush C 8 (dk_at dk_M_gainsays_0 3 rfl) ?_
  refine r_iload_n C 1 rfl (dk_at dk_M_gainsays_0 4 rfl) ?_
  refine r_imul C (dk_at dk_M_gainsays_0 5 rfl) ?_
  refine r_iadd C (dk_at dk_M_gainsays_0 6 rfl) ?_
  refine r_iload_n C 2 rfl (dk_at dk_M_gainsays_0 7 rfl) ?_
  refine r_iadd C (dk_at dk_M_gainsays_0 8 rfl) ?_
  obtain ⟨q1, h⟩ := h
  refine r_iald C 4 (hL 4 _ rfl) q1 (dk_at dk_M_gainsays_0 9 rfl) ?_
  refine r_iconst C 1 (dk_at dk_M_gainsays_0 10 rfl) ?_
  refine r_icmp_ne C 22 rfl (dk_at dk_M_gainsays_0 11 rfl) (fun c2 => ?_) (fun c2 => ?_)
  · replace h := h.1 c2
    refine r_iconst C 0 (dk_at dk_M_gainsays_0 14 rfl) ?_
    exact r_zret C (Or.inl rfl) h (dk_at dk_M_gainsays_0 15 rfl)
  · replace h := h.2 c2
    refine r_iconst C 1 (dk_at dk_M_gainsays_0 12 rfl) ?_
    refine r_goto C 23 rfl (dk_at dk_M_gainsays_0 13 rfl) ?_
    exact r_zret C (Or.inr rfl) h (dk_at dk_M_gainsays_0 15 rfl)
  )
set_option maxRecDepth 20000 in
theorem t_M_reader_j17 {X : CT} {w : WO} (C : CF X w (lim0 w) 4 cX11_reader RX11 (some .int) (.code yX11_reader cX11_reader 4 (some .int)) (rmK 2 42)) (hL : LyM w) {post : Int32 → DD → Prop} {σ : DD} (h : w_M_reader_j17 post σ) : gW X w (lim0 w) 4 (QI X w post) σ 17 [(0, .ref (wAd w 0))] [] := by
  unfold w_M_reader_j17 at h
  refine r_aload_n C 0 rfl (dk_at dk_M_reader_0 8 rfl) ?_
  refine r_iconst C (-1) (dk_at dk_M_reader_0 9 rfl) ?_
  refine r_cvI C cl_M_105 0 (hL 0 _ rfl) [.int (-1)] (m_M_refuses hL h) (rmK_ok rfl rfl) rfl rfl (Nat.le_of_ble_eq_true rfl) (dk_at dk_M_reader_0 10 rfl) (fun r1 σ2 h => ?_)
  exact r_iret C h (dk_at dk_M_reader_0 11 rfl)
set_option maxRecDepth 20000 in
theorem m_M_reader {l : Launch} {w : WO} (hL : LyM w) {σ : DD} {a1 : Int32} {a2 : Int32} {post : Int32 → DD → Prop} (h : w_M_reader σ a1 a2 post) : MI l w yX11_reader cX11_reader 4 .int (rmK 2 42) σ [.ref (wAd w 0), .int a1, .int a2] post :=
  met_head (rt := (some .int)) (by decide) rfl (fun X hX C => by
  subst hX
  unfold w_M_reader at h
  show gW X w (lim0 w) 4 (QI X w post) σ 0 [(0, .ref (wAd w 0)), (1, .int a1), (2, .int a2)] []
  refine r_iload_n C 1 rfl (dk_at dk_M_reader_0 0 rfl) ?_
  refine r_iconst C 1 (dk_at dk_M_reader_0 1 rfl) ?_
  refine r_bipush C 99 (dk_at dk_M_reader_0 2 rfl) ?_
  refine r_csI C cs_M_101 [.int a1, .int 1, .int 99] (m_M_lies hL h) (rmK_ok rfl rfl) rfl rfl (Nat.le_of_ble_eq_true rfl) (dk_at dk_M_reader_0 3 rfl) (fun r3 σ4 h => ?_)
  refine r_if_eq C 17 rfl (dk_at dk_M_reader_0 4 rfl) (fun c5 => ?_) (fun c5 => ?_)
  · replace h := h.1 c5
    refine r_lv [0] rfl ?_
    exact t_M_reader_j17 C hL h
  · replace h := h.2 c5
    refine r_iload_n C 2 rfl (dk_at dk_M_reader_0 5 rfl) ?_
    refine r_csI C cs_M_128 [.int a2] (m_M_isClass hL h) (rmK_ok rfl rfl) rfl rfl (Nat.le_of_ble_eq_true rfl) (dk_at dk_M_reader_0 6 rfl) (fun r6 σ7 h => ?_)
    refine r_if_ne C 23 rfl (dk_at dk_M_reader_0 7 rfl) (fun c8 => ?_) (fun c8 => ?_)
    · replace h := h.1 c8
      refine r_aload_n C 0 rfl (dk_at dk_M_reader_0 12 rfl) ?_
      refine r_getR C fl_M_20 0 (hL 0 _ rfl) rfl (dk_at dk_M_reader_0 13 rfl) ?_
      refine r_sipush C 400 (dk_at dk_M_reader_0 14 rfl) ?_
      refine r_ialdK C 4 (hL 4 _ rfl) lk_400 (vk_400_6012) (dk_at dk_M_reader_0 15 rfl) ?_
      refine r_topi (fun v9 e10 => ?_)
      replace h := h v9 e10
      refine r_istore_n C [(3, .int v9), (0, .ref (wAd w 0)), (1, .int a1), (2, .int a2)] rfl rfl (dk_at dk_M_reader_0 16 rfl) ?_
      refine r_iload_n C 0 rfl (dk_at dk_M_reader_0 17 rfl) ?_
      refine r_iconst C 4 (dk_at dk_M_reader_0 18 rfl) ?_
      refine r_icmp_ne C 44 rfl (dk_at dk_M_reader_0 19 rfl) (fun c11 => ?_) (fun c11 => ?_)
      · replace h := h.1 c11
        refine r_aload_n C 1 rfl (dk_at dk_M_reader_0 24 rfl) ?_
        refine r_getR C fl_M_20 0 (hL 0 _ rfl) rfl (dk_at dk_M_reader_0 25 rfl) ?_
        refine r_bipush C 96 (dk_at dk_M_reader_0 26 rfl) ?_
        refine r_iconst C 2 (dk_at dk_M_reader_0 27 rfl) ?_
        refine r_iload_n C 0 rfl (dk_at dk_M_reader_0 28 rfl) ?_
        refine r_imul C (dk_at dk_M_reader_0 29 rfl) ?_
        refine r_iadd C (dk_at dk_M_reader_0 30 rfl) ?_
        refine r_iload_n C 2 rfl (dk_at dk_M_reader_0 31 rfl) ?_
        obtain ⟨q14, h⟩ := h
        refine r_iast C 4 (hL 4 _ rfl) q14 (dk_at dk_M_reader_0 32 rfl) (r_sg (fun σ12 e13 => ?_))
        replace h := h σ12 e13
        refine r_aload_n C 1 rfl (dk_at dk_M_reader_0 33 rfl) ?_
        refine r_getR C fl_M_20 0 (hL 0 _ rfl) rfl (dk_at dk_M_reader_0 34 rfl) ?_
        refine r_bipush C 96 (dk_at dk_M_reader_0 35 rfl) ?_
        refine r_iconst C 2 (dk_at dk_M_reader_0 36 rfl) ?_
        refine r_iload_n C 0 rfl (dk_at dk_M_reader_0 37 rfl) ?_
        refine r_imul C (dk_at dk_M_reader_0 38 rfl) ?_
        refine r_iadd C (dk_at dk_M_reader_0 39 rfl) ?_
        refine r_iconst C 1 (dk_at dk_M_reader_1 0 rfl) ?_
        refine r_iadd C (dk_at dk_M_reader_1 1 rfl) ?_
        refine r_iload_n C 3 rfl (dk_at dk_M_reader_1 2 rfl) ?_
        obtain ⟨q17, h⟩ := h
        refine r_iast C 4 (hL 4 _ rfl) q17 (dk_at dk_M_reader_1 3 rfl) (r_sg (fun σ15 e16 => ?_))
        replace h := h σ15 e16
        refine r_aload_n C 1 rfl (dk_at dk_M_reader_1 4 rfl) ?_
        refine r_getR C fl_M_20 0 (hL 0 _ rfl) rfl (dk_at dk_M_reader_1 5 rfl) ?_
        refine r_sipush C 400 (dk_at dk_M_reader_1 6 rfl) ?_
        refine r_dup2 C rfl rfl (dk_at dk_M_reader_1 7 rfl) ?_
        refine r_ialdK C 4 (hL 4 _ rfl) lk_400 (vk_400_6012) (dk_at dk_M_reader_1 8 rfl) ?_
        refine r_iconst C 1 (dk_at dk_M_reader_1 9 rfl) ?_
        refine r_iadd C (dk_at dk_M_reader_1 10 rfl) ?_
        refine r_iastK C 4 (hL 4 _ rfl) lk_400 vk_400_6012 (dk_at dk_M_reader_1 11 rfl) (r_sg (fun σ18 e19 => ?_))
        replace h := h σ18 e19
        refine r_aload_n C 1 rfl (dk_at dk_M_reader_1 12 rfl) ?_
        refine r_iload_n C 0 rfl (dk_at dk_M_reader_1 13 rfl) ?_
        refine r_cvI C cl_M_109 0 (hL 0 _ rfl) [.int v9] (m_M_good hL h) (rmK_ok rfl rfl) rfl rfl (Nat.le_of_ble_eq_true rfl) (dk_at dk_M_reader_1 14 rfl) (fun r20 σ21 h => ?_)
        exact r_iret C h (dk_at dk_M_reader_1 15 rfl)
      · replace h := h.2 c11
        refine r_aload_n C 1 rfl (dk_at dk_M_reader_0 20 rfl) ?_
        refine r_bipush C (-5) (dk_at dk_M_reader_0 21 rfl) ?_
        refine r_cvI C cl_M_105 0 (hL 0 _ rfl) [.int (-5)] (m_M_refuses hL h) (rmK_ok rfl rfl) rfl rfl (Nat.le_of_ble_eq_true rfl) (dk_at dk_M_reader_0 22 rfl) (fun r22 σ23 h => ?_)
        exact r_iret C h (dk_at dk_M_reader_0 23 rfl)
    · replace h := h.2 c8
      refine r_lv [0] rfl ?_
      exact t_M_reader_j17 C hL h
  )
set_option maxRecDepth 20000 in
theorem t_M_listen_j20 {X : CT} {w : WO} (C : CF X w (lim0 w) 4 cX11_listen RX11 (some .int) (.code yX11_listen cX11_listen 4 (some .int)) (rmK 1 22)) (hL : LyM w) {post : Int32 → DD → Prop} {σ : DD} (h : w_M_listen_j20 post σ) : gW X w (lim0 w) 4 (QI X w post) σ 20 [(0, .ref (wAd w 0))] [] := by
  unfold w_M_listen_j20 at h
  refine r_aload_n C 0 rfl (dk_at dk_M_listen_0 10 rfl) ?_
  refine r_iconst C (-1) (dk_at dk_M_listen_0 11 rfl) ?_
  refine r_cvI C cl_M_105 0 (hL 0 _ rfl) [.int (-1)] (m_M_refuses hL h) (rmK_ok rfl rfl) rfl rfl (Nat.le_of_ble_eq_true rfl) (dk_at dk_M_listen_0 12 rfl) (fun r1 σ2 h => ?_)
  exact r_iret C h (dk_at dk_M_listen_0 13 rfl)
set_option maxRecDepth 20000 in
theorem m_M_listen {l : Launch} {w : WO} (hL : LyM w) {σ : DD} {a1 : Int32} {a2 : Int32} {post : Int32 → DD → Prop} (h : w_M_listen σ a1 a2 post) : MI l w yX11_listen cX11_listen 4 .int (rmK 1 22) σ [.ref (wAd w 0), .int a1, .int a2] post :=
  met_head (rt := (some .int)) (by decide) rfl (fun X hX C => by
  subst hX
  unfold w_M_listen at h
  show gW X w (lim0 w) 4 (QI X w post) σ 0 [(0, .ref (wAd w 0)), (1, .int a1), (2, .int a2)] []
  refine r_iload_n C 1 rfl (dk_at dk_M_listen_0 0 rfl) ?_
  refine r_iconst C 0 (dk_at dk_M_listen_0 1 rfl) ?_
  refine r_bipush C 6 (dk_at dk_M_listen_0 2 rfl) ?_
  refine r_csI C cs_M_101 [.int a1, .int 0, .int 6] (m_M_lies hL h) (rmK_ok rfl rfl) rfl rfl (Nat.le_of_ble_eq_true rfl) (dk_at dk_M_listen_0 3 rfl) (fun r3 σ4 h => ?_)
  refine r_if_eq C 20 rfl (dk_at dk_M_listen_0 4 rfl) (fun c5 => ?_) (fun c5 => ?_)
  · replace h := h.1 c5
    refine r_lv [0] rfl ?_
    exact t_M_listen_j20 C hL h
  · replace h := h.2 c5
    refine r_iload_n C 2 rfl (dk_at dk_M_listen_0 5 rfl) ?_
    refine r_iconst C 0 (dk_at dk_M_listen_0 6 rfl) ?_
    refine r_bipush C 63 (dk_at dk_M_listen_0 7 rfl) ?_
    refine r_csI C cs_M_101 [.int a2, .int 0, .int 63] (m_M_lies hL h) (rmK_ok rfl rfl) rfl rfl (Nat.le_of_ble_eq_true rfl) (dk_at dk_M_listen_0 8 rfl) (fun r6 σ7 h => ?_)
    refine r_if_ne C 26 rfl (dk_at dk_M_listen_0 9 rfl) (fun c8 => ?_) (fun c8 => ?_)
    · replace h := h.1 c8
      refine r_aload_n C 0 rfl (dk_at dk_M_listen_0 14 rfl) ?_
      refine r_getR C fl_M_20 0 (hL 0 _ rfl) rfl (dk_at dk_M_listen_0 15 rfl) ?_
      refine r_bipush C 104 (dk_at dk_M_listen_0 16 rfl) ?_
      refine r_iload_n C 1 rfl (dk_at dk_M_listen_0 17 rfl) ?_
      refine r_iadd C (dk_at dk_M_listen_0 18 rfl) ?_
      obtain ⟨q9, h⟩ := h
      refine r_iald C 4 (hL 4 _ rfl) q9 (dk_at dk_M_listen_0 19 rfl) ?_
      refine r_topi (fun v10 e11 => ?_)
      replace h := h v10 e11
      refine r_istore_n C [(3, .int v10), (0, .ref (wAd w 0)), (1, .int a1), (2, .int a2)] rfl rfl (dk_at dk_M_listen_0 20 rfl) ?_
      refine r_aload_n C 1 rfl (dk_at dk_M_listen_0 21 rfl) ?_
      refine r_getR C fl_M_20 0 (hL 0 _ rfl) rfl (dk_at dk_M_listen_0 22 rfl) ?_
      refine r_bipush C 104 (dk_at dk_M_listen_0 23 rfl) ?_
      refine r_iload_n C 2 rfl (dk_at dk_M_listen_0 24 rfl) ?_
      refine r_iadd C (dk_at dk_M_listen_0 25 rfl) ?_
      refine r_iload_n C 3 rfl (dk_at dk_M_listen_0 26 rfl) ?_
      obtain ⟨q14, h⟩ := h
      refine r_iast C 4 (hL 4 _ rfl) q14 (dk_at dk_M_listen_0 27 rfl) (r_sg (fun σ12 e13 => ?_))
      replace h := h σ12 e13
      refine r_aload_n C 1 rfl (dk_at dk_M_listen_0 28 rfl) ?_
      refine r_iload_n C 0 rfl (dk_at dk_M_listen_0 29 rfl) ?_
      refine r_cvI C cl_M_109 0 (hL 0 _ rfl) [.int v10] (m_M_good hL h) (rmK_ok rfl rfl) rfl rfl (Nat.le_of_ble_eq_true rfl) (dk_at dk_M_listen_0 30 rfl) (fun r15 σ16 h => ?_)
      exact r_iret C h (dk_at dk_M_listen_0 31 rfl)
    · replace h := h.2 c8
      refine r_lv [0] rfl ?_
      exact t_M_listen_j20 C hL h
  )
set_option maxRecDepth 20000 in
theorem m_M_isTerm {l : Launch} {w : WO} (hL : LyM w) {σ : DD} {a0 : Int32} {a1 : Int32} {post : Int32 → DD → Prop} (h : w_M_isTerm σ a0 a1 post) : MI l w yX11_isTerm cX11_isTerm 2 .boolean (rmK 2 42) σ [.int a0, .int a1] post :=
  met_head (rt := (some .boolean)) (by decide) rfl (fun X hX C => by
  subst hX
  unfold w_M_isTerm at h
  show gW X w (lim0 w) 2 (QI X w post) σ 0 [(0, .int a0), (1, .int a1)] []
  refine r_iload_n C 0 rfl (dk_at dk_M_isTerm_0 0 rfl) ?_
  by_cases c1 : a0 = 0
  · refine r_tabK C 0 c1 (off := 31) (tgt := 32) (by decide) (dk_at dk_M_isTerm_0 1 rfl) ?_
    replace h := h.1 c1
    refine r_iload_n C 1 rfl (dk_at dk_M_isTerm_0 2 rfl) ?_
    refine r_csI C cs_M_131 [.int a1] (m_M_isDay hL h) (rmK_ok rfl rfl) rfl rfl (Nat.le_of_ble_eq_true rfl) (dk_at dk_M_isTerm_0 3 rfl) (fun r2 σ3 h => ?_)
    exact r_zret C h.1 h.2 (dk_at dk_M_isTerm_0 4 rfl)
  · replace h := h.2 c1
    by_cases c4 : a0 = 1
    · refine r_tabK C 1 c4 (off := 36) (tgt := 37) (by decide) (dk_at dk_M_isTerm_0 1 rfl) ?_
      replace h := h.1 c4
      refine r_iload_n C 1 rfl (dk_at dk_M_isTerm_0 5 rfl) ?_
      refine r_iconst C 0 (dk_at dk_M_isTerm_0 6 rfl) ?_
      refine r_bipush C 10 (dk_at dk_M_isTerm_0 7 rfl) ?_
      refine r_csI C cs_M_101 [.int a1, .int 0, .int 10] (m_M_lies hL h) (rmK_ok rfl rfl) rfl rfl (Nat.le_of_ble_eq_true rfl) (dk_at dk_M_isTerm_0 8 rfl) (fun r5 σ6 h => ?_)
      exact r_zret C h.1 h.2 (dk_at dk_M_isTerm_0 9 rfl)
    · replace h := h.2 c4
      by_cases c7 : a0 = 2
      · refine r_tabK C 2 c7 (off := 44) (tgt := 45) (by decide) (dk_at dk_M_isTerm_0 1 rfl) ?_
        replace h := h.1 c7
        refine r_iload_n C 1 rfl (dk_at dk_M_isTerm_0 10 rfl) ?_
        refine r_iconst C 1 (dk_at dk_M_isTerm_0 11 rfl) ?_
        refine r_bipush C 60 (dk_at dk_M_isTerm_0 12 rfl) ?_
        refine r_csI C cs_M_101 [.int a1, .int 1, .int 60] (m_M_lies hL h) (rmK_ok rfl rfl) rfl rfl (Nat.le_of_ble_eq_true rfl) (dk_at dk_M_isTerm_0 13 rfl) (fun r8 σ9 h => ?_)
        exact r_zret C h.1 h.2 (dk_at dk_M_isTerm_0 14 rfl)
      · replace h := h.2 c7
        by_cases c10 : a0 = 3
        · refine r_tabK C 3 c10 (off := 52) (tgt := 53) (by decide) (dk_at dk_M_isTerm_0 1 rfl) ?_
          replace h := h.1 c10
          refine r_iload_n C 1 rfl (dk_at dk_M_isTerm_0 15 rfl) ?_
          refine r_iconst C 0 (dk_at dk_M_isTerm_0 16 rfl) ?_
          refine r_bipush C 9 (dk_at dk_M_isTerm_0 17 rfl) ?_
          refine r_csI C cs_M_101 [.int a1, .int 0, .int 9] (m_M_lies hL h) (rmK_ok rfl rfl) rfl rfl (Nat.le_of_ble_eq_true rfl) (dk_at dk_M_isTerm_0 18 rfl) (fun r11 σ12 h => ?_)
          exact r_zret C h.1 h.2 (dk_at dk_M_isTerm_0 19 rfl)
        · replace h := h.2 c10
          refine r_tabD C (tgt := 61) (dk_at dk_M_isTerm_0 1 rfl) (tab_out (fun k h1 h2 => by rcases (show k = 0 ∨ k = 1 ∨ k = 2 ∨ k = 3 by omega) with rfl | rfl | rfl | rfl <;> assumption)) rfl ?_
          refine r_iconst C 0 (dk_at dk_M_isTerm_0 20 rfl) ?_
          exact r_zret C (Or.inl rfl) h (dk_at dk_M_isTerm_0 21 rfl)
  )
set_option maxRecDepth 20000 in
theorem m_M_reading {l : Launch} {w : WO} (hL : LyM w) {σ : DD} {a1 : Int32} {a2 : Int32} {post : Int32 → DD → Prop} (h : w_M_reading σ a1 a2 post) : MI l w yX11_reading cX11_reading 3 .int (rmK 0 0) σ [.ref (wAd w 0), .int a1, .int a2] post :=
  met_head (rt := (some .int)) (by decide) rfl (fun X hX C => by
  subst hX
  unfold w_M_reading at h
  show gW X w (lim0 w) 3 (QI X w post) σ 0 [(0, .ref (wAd w 0)), (1, .int a1), (2, .int a2)] []
  refine r_aload_n C 0 rfl (dk_at dk_M_reading_0 0 rfl) ?_
  refine r_getR C fl_M_20 0 (hL 0 _ rfl) rfl (dk_at dk_M_reading_0 1 rfl) ?_
  refine r_bipush C 111 (dk_at dk_M_reading_0 2 rfl) ?_
  refine r_iconst C 3 (dk_at dk_M_reading_0 3 rfl) ?_
  refine r_iload_n C 1 rfl (dk_at dk_M_reading_0 4 rfl) ?_
  refine r_imul C (dk_at dk_M_reading_0 5 rfl) ?_
  refine r_iadd C (dk_at dk_M_reading_0 6 rfl) ?_
  refine r_iload_n C 2 rfl (dk_at dk_M_reading_0 7 rfl) ?_
  refine r_iadd C (dk_at dk_M_reading_0 8 rfl) ?_
  obtain ⟨q1, h⟩ := h
  refine r_iald C 4 (hL 4 _ rfl) q1 (dk_at dk_M_reading_0 9 rfl) ?_
  exact r_iret C h (dk_at dk_M_reading_0 10 rfl)
  )
set_option maxRecDepth 20000 in
theorem t_M_terms_j55 {X : CT} {w : WO} (C : CF X w (lim0 w) 4 cX11_terms RX11 (some .int) (.code yX11_terms cX11_terms 4 (some .int)) (rmK 3 63)) (hL : LyM w) {post : Int32 → DD → Prop} {a1 : Int32} {a2 : Int32} {σ : DD} (h : w_M_terms_j55 post σ a1 a2) : gW X w (lim0 w) 4 (QI X w post) σ 55 [(0, .ref (wAd w 0)), (1, .int a1), (2, .int a2)] [] := by
  unfold w_M_terms_j55 at h
  refine r_aload_n C 0 rfl (dk_at dk_M_terms_0 30 rfl) ?_
  refine r_getR C fl_M_20 0 (hL 0 _ rfl) rfl (dk_at dk_M_terms_0 31 rfl) ?_
  refine r_sipush C 395 (dk_at dk_M_terms_0 32 rfl) ?_
  refine r_iload_n C 1 rfl (dk_at dk_M_terms_0 33 rfl) ?_
  refine r_iadd C (dk_at dk_M_terms_0 34 rfl) ?_
  obtain ⟨q1, h⟩ := h
  refine r_iald C 4 (hL 4 _ rfl) q1 (dk_at dk_M_terms_0 35 rfl) ?_
  refine r_topi (fun v2 e3 => ?_)
  replace h := h v2 e3
  refine r_istore_n C [(3, .int v2), (0, .ref (wAd w 0)), (1, .int a1), (2, .int a2)] rfl rfl (dk_at dk_M_terms_0 36 rfl) ?_
  refine r_aload_n C 1 rfl (dk_at dk_M_terms_0 37 rfl) ?_
  refine r_getR C fl_M_20 0 (hL 0 _ rfl) rfl (dk_at dk_M_terms_0 38 rfl) ?_
  refine r_sipush C 395 (dk_at dk_M_terms_0 39 rfl) ?_
  refine r_iload_n C 2 rfl (dk_at dk_M_terms_1 0 rfl) ?_
  refine r_iadd C (dk_at dk_M_terms_1 1 rfl) ?_
  refine r_iload_n C 3 rfl (dk_at dk_M_terms_1 2 rfl) ?_
  obtain ⟨q6, h⟩ := h
  refine r_iast C 4 (hL 4 _ rfl) q6 (dk_at dk_M_terms_1 3 rfl) (r_sg (fun σ4 e5 => ?_))
  replace h := h σ4 e5
  refine r_aload_n C 1 rfl (dk_at dk_M_terms_1 4 rfl) ?_
  refine r_iload_n C 0 rfl (dk_at dk_M_terms_1 5 rfl) ?_
  refine r_cvI C cl_M_109 0 (hL 0 _ rfl) [.int v2] (m_M_good hL h) (rmK_ok rfl rfl) rfl rfl (Nat.le_of_ble_eq_true rfl) (dk_at dk_M_terms_1 6 rfl) (fun r7 σ8 h => ?_)
  exact r_iret C h (dk_at dk_M_terms_1 7 rfl)
set_option maxRecDepth 20000 in
theorem t_M_terms_b16 {X : CT} {w : WO} (C : CF X w (lim0 w) 4 cX11_terms RX11 (some .int) (.code yX11_terms cX11_terms 4 (some .int)) (rmK 3 63)) (hL : LyM w) {a1 : Int32} {a2 : Int32} {K16 : DD → Int32 → Prop} {post : Int32 → DD → Prop} (k16 : ∀ (σ : DD) (a3 : Int32), K16 σ a3 → gW X w (lim0 w) 4 (QI X w post) σ 16 [(0, .ref (wAd w 0)), (1, .int a1), (2, .int a2), (3, .int a3)] []) {σ : DD} {a3 : Int32} (h : w_M_terms_b16 a1 a2 K16 post σ a3) : gW X w (lim0 w) 4 (QI X w post) σ 16 [(0, .ref (wAd w 0)), (1, .int a1), (2, .int a2), (3, .int a3)] [] := by
  unfold w_M_terms_b16 at h
  refine r_iload_n C 3 rfl (dk_at dk_M_terms_0 10 rfl) ?_
  refine r_aload_n C 0 rfl (dk_at dk_M_terms_0 11 rfl) ?_
  refine r_getR C fl_M_20 0 (hL 0 _ rfl) rfl (dk_at dk_M_terms_0 12 rfl) ?_
  refine r_sipush C 401 (dk_at dk_M_terms_0 13 rfl) ?_
  refine r_ialdK C 4 (hL 4 _ rfl) lk_401 (vk_401_6012) (dk_at dk_M_terms_0 14 rfl) ?_
  refine r_icmp_ge C 55 rfl (dk_at dk_M_terms_0 15 rfl) (fun c9 => ?_) (fun c9 => ?_)
  · replace h := h.1 c9
    refine r_lv [0, 1, 2] rfl ?_
    exact t_M_terms_j55 C hL h
  · replace h := h.2 c9
    refine r_iload_n C 1 rfl (dk_at dk_M_terms_0 16 rfl) ?_
    refine r_if_ne C 55 rfl (dk_at dk_M_terms_0 17 rfl) (fun c10 => ?_) (fun c10 => ?_)
    · replace h := h.1 c10
      refine r_lv [0, 1, 2] rfl ?_
      exact t_M_terms_j55 C hL h
    · replace h := h.2 c10
      refine r_iload_n C 2 rfl (dk_at dk_M_terms_0 18 rfl) ?_
      refine r_aload_n C 0 rfl (dk_at dk_M_terms_0 19 rfl) ?_
      refine r_iload_n C 3 rfl (dk_at dk_M_terms_0 20 rfl) ?_
      refine r_iconst C 2 (dk_at dk_M_terms_0 21 rfl) ?_
      refine r_cvI C cl_M_137 0 (hL 0 _ rfl) [.int a3, .int 2] (m_M_reading hL h) (rmK_ok rfl rfl) rfl rfl (Nat.le_of_ble_eq_true rfl) (dk_at dk_M_terms_0 22 rfl) (fun r11 σ12 h => ?_)
      refine r_icmp_ge C 49 rfl (dk_at dk_M_terms_0 23 rfl) (fun c13 => ?_) (fun c13 => ?_)
      · replace h := h.1 c13
        refine r_iinc C 3 rfl rfl [(3, .int (a3 + 1)), (0, .ref (wAd w 0)), (1, .int a1), (2, .int a2)] rfl rfl (dk_at dk_M_terms_0 28 rfl) ?_
        refine r_goto C 16 rfl (dk_at dk_M_terms_0 29 rfl) ?_
        refine r_lv [1, 2, 3, 0] rfl ?_
        exact k16 _ _ h
      · replace h := h.2 c13
        refine r_aload_n C 0 rfl (dk_at dk_M_terms_0 24 rfl) ?_
        refine r_bipush C (-3) (dk_at dk_M_terms_0 25 rfl) ?_
        refine r_cvI C cl_M_105 0 (hL 0 _ rfl) [.int (-3)] (m_M_refuses hL h) (rmK_ok rfl rfl) rfl rfl (Nat.le_of_ble_eq_true rfl) (dk_at dk_M_terms_0 26 rfl) (fun r14 σ15 h => ?_)
        exact r_iret C h (dk_at dk_M_terms_0 27 rfl)
set_option maxRecDepth 20000 in
theorem t_M_terms_l16 {X : CT} {w : WO} (C : CF X w (lim0 w) 4 cX11_terms RX11 (some .int) (.code yX11_terms cX11_terms 4 (some .int)) (rmK 3 63)) (hL : LyM w) {a1 : Int32} {a2 : Int32} {post : Int32 → DD → Prop} {σ : DD} {a3 : Int32} (h : w_M_terms_l16 post σ a1 a2 a3) : gW X w (lim0 w) 4 (QI X w post) σ 16 [(0, .ref (wAd w 0)), (1, .int a1), (2, .int a2), (3, .int a3)] [] :=
  LoopW (G := fun x : DD × Int32 => gW X w (lim0 w) 4 (QI X w post) x.1 16 [(0, .ref (wAd w 0)), (1, .int a1), (2, .int a2), (3, .int x.2)] []) (fun K x hK hF => t_M_terms_b16 C hL (fun σ a3 q => hK (σ, a3) q) hF) h
set_option maxRecDepth 20000 in
theorem m_M_terms {l : Launch} {w : WO} (hL : LyM w) {σ : DD} {a1 : Int32} {a2 : Int32} {post : Int32 → DD → Prop} (h : w_M_terms σ a1 a2 post) : MI l w yX11_terms cX11_terms 4 .int (rmK 3 63) σ [.ref (wAd w 0), .int a1, .int a2] post :=
  met_head (rt := (some .int)) (by decide) rfl (fun X hX C => by
  subst hX
  unfold w_M_terms at h
  show gW X w (lim0 w) 4 (QI X w post) σ 0 [(0, .ref (wAd w 0)), (1, .int a1), (2, .int a2)] []
  refine r_iload_n C 1 rfl (dk_at dk_M_terms_0 0 rfl) ?_
  refine r_iload_n C 2 rfl (dk_at dk_M_terms_0 1 rfl) ?_
  refine r_csI C cs_M_134 [.int a1, .int a2] (m_M_isTerm hL h) (rmK_ok rfl rfl) rfl rfl (Nat.le_of_ble_eq_true rfl) (dk_at dk_M_terms_0 2 rfl) (fun r16 σ17 h => ?_)
  refine r_if_ne C 14 rfl (dk_at dk_M_terms_0 3 rfl) (fun c18 => ?_) (fun c18 => ?_)
  · replace h := h.1 c18
    refine r_iconst C 0 (dk_at dk_M_terms_0 8 rfl) ?_
    refine r_istore_n C [(3, .int 0), (0, .ref (wAd w 0)), (1, .int a1), (2, .int a2)] rfl rfl (dk_at dk_M_terms_0 9 rfl) ?_
    refine r_lv [1, 2, 3, 0] rfl ?_
    exact t_M_terms_l16 C hL h
  · replace h := h.2 c18
    refine r_aload_n C 0 rfl (dk_at dk_M_terms_0 4 rfl) ?_
    refine r_iconst C (-1) (dk_at dk_M_terms_0 5 rfl) ?_
    refine r_cvI C cl_M_105 0 (hL 0 _ rfl) [.int (-1)] (m_M_refuses hL h) (rmK_ok rfl rfl) rfl rfl (Nat.le_of_ble_eq_true rfl) (dk_at dk_M_terms_0 6 rfl) (fun r19 σ20 h => ?_)
    exact r_iret C h (dk_at dk_M_terms_0 7 rfl)
  )
set_option maxRecDepth 20000 in
theorem t_M_row_j207 {X : CT} {w : WO} (C : CF X w (lim0 w) 5 cX11_row RX11 (some .int) (.code yX11_row cX11_row 5 (some .int)) (rmK 2 43)) (hL : LyM w) {K40 : DD → Int32 → Int32 → Prop} {post : Int32 → DD → Prop} {a1 : Int32} {a2 : Int32} {a3 : Int32} {t1 : Int32} {t2 : Int32} (k40 : ∀ (σ : DD) (a2 : Int32) (a3 : Int32), K40 σ a2 a3 → gW X w (lim0 w) 5 (QI X w post) σ 40 [(0, .ref (wAd w 0)), (1, .int a1), (2, .int a2), (3, .int a3)] []) {σ : DD} (h : w_M_row_j207 K40 post σ a1 a2 a3 t1 t2) : gW X w (lim0 w) 5 (QI X w post) σ 207 [(0, .ref (wAd w 0)), (1, .int a1), (2, .int a2), (3, .int a3)] [.int t2, .int t1, .ref (wAd w 0)] := by
  unfold w_M_row_j207 at h
  refine r_iadd C (dk_at dk_M_row_3 7 rfl) ?_
  refine r_putI C fl_M_143 0 (hL 0 _ rfl) rfl (dk_at dk_M_row_3 8 rfl) (r_sg (fun σ1 e2 => ?_))
  replace h := h σ1 e2
  refine r_iinc C 3 rfl rfl [(3, .int (a3 + 4)), (0, .ref (wAd w 0)), (1, .int a1), (2, .int a2)] rfl rfl (dk_at dk_M_row_3 9 rfl) ?_
  refine r_goto C 40 rfl (dk_at dk_M_row_3 10 rfl) ?_
  refine r_lv [1, 2, 3, 0] rfl ?_
  exact k40 _ _ _ h
set_option maxRecDepth 20000 in
theorem t_M_row_j190 {X : CT} {w : WO} (C : CF X w (lim0 w) 5 cX11_row RX11 (some .int) (.code yX11_row cX11_row 5 (some .int)) (rmK 2 43)) (hL : LyM w) {K40 : DD → Int32 → Int32 → Prop} {post : Int32 → DD → Prop} {a1 : Int32} {a3 : Int32} {a4 : Int32} {t0 : Int32} {t1 : Int32} (k40 : ∀ (σ : DD) (a2 : Int32) (a3 : Int32), K40 σ a2 a3 → gW X w (lim0 w) 5 (QI X w post) σ 40 [(0, .ref (wAd w 0)), (1, .int a1), (2, .int a2), (3, .int a3)] []) {σ : DD} (h : w_M_row_j190 K40 post σ a1 a3 a4 t0 t1) : gW X w (lim0 w) 5 (QI X w post) σ 190 [(0, .ref (wAd w 0)), (1, .int a1), (3, .int a3), (4, .int a4)] [.int t1, .int t0] := by
  unfold w_M_row_j190 at h
  refine r_iadd C (dk_at dk_M_row_2 37 rfl) ?_
  refine r_topi (fun v3 e4 => ?_)
  replace h := h v3 e4
  refine r_istore_n C [(2, .int v3), (0, .ref (wAd w 0)), (1, .int a1), (3, .int a3), (4, .int a4)] rfl rfl (dk_at dk_M_row_2 38 rfl) ?_
  refine r_aload_n C 1 rfl (dk_at dk_M_row_2 39 rfl) ?_
  refine r_dup C rfl (dk_at dk_M_row_3 0 rfl) ?_
  refine r_getI C fl_M_143 0 (hL 0 _ rfl) rfl (dk_at dk_M_row_3 1 rfl) ?_
  refine r_iload C 4 rfl (dk_at dk_M_row_3 2 rfl) ?_
  refine r_if_eq C 206 rfl (dk_at dk_M_row_3 3 rfl) (fun c5 => ?_) (fun c5 => ?_)
  · replace h := h.1 c5
    refine r_iconst C 1 (dk_at dk_M_row_3 6 rfl) ?_
    refine r_lv [1, 2, 0, 3] rfl ?_
    exact t_M_row_j207 C hL k40 h
  · replace h := h.2 c5
    refine r_iconst C 0 (dk_at dk_M_row_3 4 rfl) ?_
    refine r_goto C 207 rfl (dk_at dk_M_row_3 5 rfl) ?_
    refine r_lv [1, 2, 0, 3] rfl ?_
    exact t_M_row_j207 C hL k40 h
set_option maxRecDepth 20000 in
theorem t_M_row_j179 {X : CT} {w : WO} (C : CF X w (lim0 w) 5 cX11_row RX11 (some .int) (.code yX11_row cX11_row 5 (some .int)) (rmK 2 43)) (hL : LyM w) {K40 : DD → Int32 → Int32 → Prop} {post : Int32 → DD → Prop} {a1 : Int32} {a2 : Int32} {a3 : Int32} {a4 : Int32} (k40 : ∀ (σ : DD) (a2 : Int32) (a3 : Int32), K40 σ a2 a3 → gW X w (lim0 w) 5 (QI X w post) σ 40 [(0, .ref (wAd w 0)), (1, .int a1), (2, .int a2), (3, .int a3)] []) {σ : DD} (h : w_M_row_j179 K40 post σ a1 a2 a3 a4) : gW X w (lim0 w) 5 (QI X w post) σ 179 [(0, .ref (wAd w 0)), (1, .int a1), (2, .int a2), (3, .int a3), (4, .int a4)] [] := by
  unfold w_M_row_j179 at h
  refine r_iload_n C 2 rfl (dk_at dk_M_row_2 31 rfl) ?_
  refine r_iload C 4 rfl (dk_at dk_M_row_2 32 rfl) ?_
  refine r_if_eq C 189 rfl (dk_at dk_M_row_2 33 rfl) (fun c6 => ?_) (fun c6 => ?_)
  · replace h := h.1 c6
    refine r_iconst C 0 (dk_at dk_M_row_2 36 rfl) ?_
    refine r_lv [0, 1, 3, 4] rfl ?_
    exact t_M_row_j190 C hL k40 h
  · replace h := h.2 c6
    refine r_iconst C 1 (dk_at dk_M_row_2 34 rfl) ?_
    refine r_goto C 190 rfl (dk_at dk_M_row_2 35 rfl) ?_
    refine r_lv [0, 1, 3, 4] rfl ?_
    exact t_M_row_j190 C hL k40 h
set_option maxRecDepth 20000 in
theorem t_M_row_j136 {X : CT} {w : WO} (C : CF X w (lim0 w) 5 cX11_row RX11 (some .int) (.code yX11_row cX11_row 5 (some .int)) (rmK 2 43)) (hL : LyM w) {K40 : DD → Int32 → Int32 → Prop} {post : Int32 → DD → Prop} {a1 : Int32} {a2 : Int32} {a3 : Int32} {t0 : Int32} (k40 : ∀ (σ : DD) (a2 : Int32) (a3 : Int32), K40 σ a2 a3 → gW X w (lim0 w) 5 (QI X w post) σ 40 [(0, .ref (wAd w 0)), (1, .int a1), (2, .int a2), (3, .int a3)] []) {σ : DD} (h : w_M_row_j136 K40 post σ a1 a2 a3 t0) : gW X w (lim0 w) 5 (QI X w post) σ 136 [(0, .ref (wAd w 0)), (1, .int a1), (2, .int a2), (3, .int a3)] [.int t0] := by
  unfold w_M_row_j136 at h
  refine r_istore C [(4, .int t0), (0, .ref (wAd w 0)), (1, .int a1), (2, .int a2), (3, .int a3)] rfl rfl (dk_at dk_M_row_2 2 rfl) ?_
  refine r_iload C 0 rfl (dk_at dk_M_row_2 3 rfl) ?_
  refine r_if_eq C 179 rfl (dk_at dk_M_row_2 4 rfl) (fun c7 => ?_) (fun c7 => ?_)
  · replace h := h.1 c7
    refine r_lv [1, 2, 3, 4, 0] rfl ?_
    exact t_M_row_j179 C hL k40 h
  · replace h := h.2 c7
    refine r_aload_n C 1 rfl (dk_at dk_M_row_2 5 rfl) ?_
    refine r_aload_n C 1 rfl (dk_at dk_M_row_2 6 rfl) ?_
    refine r_getR C fl_M_34 0 (hL 0 _ rfl) rfl (dk_at dk_M_row_2 7 rfl) ?_
    refine r_iload_n C 4 rfl (dk_at dk_M_row_2 8 rfl) ?_
    obtain ⟨q8, h⟩ := h
    refine r_bald C 12 (hL 12 _ rfl) q8 (dk_at dk_M_row_2 9 rfl) ?_
    refine r_aload_n C 1 rfl (dk_at dk_M_row_2 10 rfl) ?_
    refine r_getR C fl_M_34 0 (hL 0 _ rfl) rfl (dk_at dk_M_row_2 11 rfl) ?_
    refine r_iload_n C 4 rfl (dk_at dk_M_row_2 12 rfl) ?_
    refine r_iconst C 1 (dk_at dk_M_row_2 13 rfl) ?_
    refine r_iadd C (dk_at dk_M_row_2 14 rfl) ?_
    obtain ⟨q9, h⟩ := h
    refine r_bald C 12 (hL 12 _ rfl) q9 (dk_at dk_M_row_2 15 rfl) ?_
    refine r_aload_n C 1 rfl (dk_at dk_M_row_2 16 rfl) ?_
    refine r_getR C fl_M_34 0 (hL 0 _ rfl) rfl (dk_at dk_M_row_2 17 rfl) ?_
    refine r_iload_n C 4 rfl (dk_at dk_M_row_2 18 rfl) ?_
    refine r_iconst C 2 (dk_at dk_M_row_2 19 rfl) ?_
    refine r_iadd C (dk_at dk_M_row_2 20 rfl) ?_
    obtain ⟨q10, h⟩ := h
    refine r_bald C 12 (hL 12 _ rfl) q10 (dk_at dk_M_row_2 21 rfl) ?_
    refine r_aload_n C 1 rfl (dk_at dk_M_row_2 22 rfl) ?_
    refine r_getR C fl_M_34 0 (hL 0 _ rfl) rfl (dk_at dk_M_row_2 23 rfl) ?_
    refine r_iload_n C 4 rfl (dk_at dk_M_row_2 24 rfl) ?_
    refine r_iconst C 3 (dk_at dk_M_row_2 25 rfl) ?_
    refine r_iadd C (dk_at dk_M_row_2 26 rfl) ?_
    obtain ⟨q11, h⟩ := h
    refine r_bald C 12 (hL 12 _ rfl) q11 (dk_at dk_M_row_2 27 rfl) ?_
    refine r_iconst C 1 (dk_at dk_M_row_2 28 rfl) ?_
    refine r_isub C (dk_at dk_M_row_2 29 rfl) ?_
    refine r_cvV C cl_M_116 0 (hL 0 _ rfl) [.int (gI σ 12 a3.toNatClampNeg), .int (gI σ 12 (a3 + 1).toNatClampNeg), .int (gI σ 12 (a3 + 2).toNatClampNeg), .int ((gI σ 12 (a3 + 3).toNatClampNeg) - 1)] (m_M_adds hL h) (rmK_ok rfl rfl) rfl rfl (Nat.le_of_ble_eq_true rfl) (dk_at dk_M_row_2 30 rfl) (fun σ13 h => ?_)
    refine r_lv [1, 2, 3, 4, 0] rfl ?_
    exact t_M_row_j179 C hL k40 h
set_option maxRecDepth 20000 in
theorem t_M_row_j135 {X : CT} {w : WO} (C : CF X w (lim0 w) 5 cX11_row RX11 (some .int) (.code yX11_row cX11_row 5 (some .int)) (rmK 2 43)) (hL : LyM w) {K40 : DD → Int32 → Int32 → Prop} {post : Int32 → DD → Prop} {a1 : Int32} {a2 : Int32} {a3 : Int32} (k40 : ∀ (σ : DD) (a2 : Int32) (a3 : Int32), K40 σ a2 a3 → gW X w (lim0 w) 5 (QI X w post) σ 40 [(0, .ref (wAd w 0)), (1, .int a1), (2, .int a2), (3, .int a3)] []) {σ : DD} (h : w_M_row_j135 K40 post σ a1 a2 a3) : gW X w (lim0 w) 5 (QI X w post) σ 135 [(0, .ref (wAd w 0)), (1, .int a1), (2, .int a2), (3, .int a3)] [] := by
  unfold w_M_row_j135 at h
  refine r_iconst C 0 (dk_at dk_M_row_2 1 rfl) ?_
  refine r_lv [0, 1, 2, 3] rfl ?_
  exact t_M_row_j136 C hL k40 h
set_option maxRecDepth 20000 in
theorem t_M_row_j118 {X : CT} {w : WO} (C : CF X w (lim0 w) 5 cX11_row RX11 (some .int) (.code yX11_row cX11_row 5 (some .int)) (rmK 2 43)) (hL : LyM w) {K40 : DD → Int32 → Int32 → Prop} {post : Int32 → DD → Prop} {a1 : Int32} {a2 : Int32} {a3 : Int32} (k40 : ∀ (σ : DD) (a2 : Int32) (a3 : Int32), K40 σ a2 a3 → gW X w (lim0 w) 5 (QI X w post) σ 40 [(0, .ref (wAd w 0)), (1, .int a1), (2, .int a2), (3, .int a3)] []) {σ : DD} (h : w_M_row_j118 K40 post σ a1 a2 a3) : gW X w (lim0 w) 5 (QI X w post) σ 118 [(0, .ref (wAd w 0)), (1, .int a1), (2, .int a2), (3, .int a3)] [] := by
  unfold w_M_row_j118 at h
  refine r_aload_n C 0 rfl (dk_at dk_M_row_1 33 rfl) ?_
  refine r_getR C fl_M_20 0 (hL 0 _ rfl) rfl (dk_at dk_M_row_1 34 rfl) ?_
  refine r_sipush C 399 (dk_at dk_M_row_1 35 rfl) ?_
  refine r_ialdK C 4 (hL 4 _ rfl) lk_399 (vk_399_6012) (dk_at dk_M_row_1 36 rfl) ?_
  refine r_bipush C 8 (dk_at dk_M_row_1 37 rfl) ?_
  refine r_icmp_ge C 135 rfl (dk_at dk_M_row_1 38 rfl) (fun c14 => ?_) (fun c14 => ?_)
  · replace h := h.1 c14
    refine r_lv [0, 1, 2, 3] rfl ?_
    exact t_M_row_j135 C hL k40 h
  · replace h := h.2 c14
    refine r_iconst C 1 (dk_at dk_M_row_1 39 rfl) ?_
    refine r_goto C 136 rfl (dk_at dk_M_row_2 0 rfl) ?_
    refine r_lv [0, 1, 2, 3] rfl ?_
    exact t_M_row_j136 C hL k40 h
set_option maxRecDepth 20000 in
theorem t_M_row_b40 {X : CT} {w : WO} (C : CF X w (lim0 w) 5 cX11_row RX11 (some .int) (.code yX11_row cX11_row 5 (some .int)) (rmK 2 43)) (hL : LyM w) {a1 : Int32} {K40 : DD → Int32 → Int32 → Prop} {post : Int32 → DD → Prop} (k40 : ∀ (σ : DD) (a2 : Int32) (a3 : Int32), K40 σ a2 a3 → gW X w (lim0 w) 5 (QI X w post) σ 40 [(0, .ref (wAd w 0)), (1, .int a1), (2, .int a2), (3, .int a3)] []) {σ : DD} {a2 : Int32} {a3 : Int32} (h : w_M_row_b40 a1 K40 post σ a2 a3) : gW X w (lim0 w) 5 (QI X w post) σ 40 [(0, .ref (wAd w 0)), (1, .int a1), (2, .int a2), (3, .int a3)] [] := by
  unfold w_M_row_b40 at h
  refine r_iload_n C 3 rfl (dk_at dk_M_row_0 25 rfl) ?_
  refine r_iconst C 4 (dk_at dk_M_row_0 26 rfl) ?_
  refine r_iadd C (dk_at dk_M_row_0 27 rfl) ?_
  refine r_iload_n C 1 rfl (dk_at dk_M_row_0 28 rfl) ?_
  refine r_icmp_gt C 217 rfl (dk_at dk_M_row_0 29 rfl) (fun c15 => ?_) (fun c15 => ?_)
  · replace h := h.1 c15
    refine r_aload_n C 0 rfl (dk_at dk_M_row_3 11 rfl) ?_
    refine r_iload_n C 2 rfl (dk_at dk_M_row_3 12 rfl) ?_
    refine r_cvI C cl_M_109 0 (hL 0 _ rfl) [.int a2] (m_M_good hL h) (rmK_ok rfl rfl) rfl rfl (Nat.le_of_ble_eq_true rfl) (dk_at dk_M_row_3 13 rfl) (fun r16 σ17 h => ?_)
    exact r_iret C h (dk_at dk_M_row_3 14 rfl)
  · replace h := h.2 c15
    refine r_iconst C 0 (dk_at dk_M_row_0 30 rfl) ?_
    refine r_aload_n C 0 rfl (dk_at dk_M_row_0 31 rfl) ?_
    refine r_getR C fl_M_34 0 (hL 0 _ rfl) rfl (dk_at dk_M_row_0 32 rfl) ?_
    refine r_iload_n C 3 rfl (dk_at dk_M_row_0 33 rfl) ?_
    obtain ⟨q18, h⟩ := h
    refine r_bald C 12 (hL 12 _ rfl) q18 (dk_at dk_M_row_0 34 rfl) ?_
    refine r_csI C cs_M_112 [.int 0, .int (gI σ 12 a3.toNatClampNeg)] (m_M_isFact hL h) (rmK_ok rfl rfl) rfl rfl (Nat.le_of_ble_eq_true rfl) (dk_at dk_M_row_0 35 rfl) (fun r19 σ20 h => ?_)
    refine r_if_eq C 135 rfl (dk_at dk_M_row_0 36 rfl) (fun c21 => ?_) (fun c21 => ?_)
    · replace h := h.1 c21
      refine r_lv [0, 1, 2, 3] rfl ?_
      exact t_M_row_j135 C hL k40 h
    · replace h := h.2 c21
      refine r_iconst C 1 (dk_at dk_M_row_0 37 rfl) ?_
      refine r_aload_n C 0 rfl (dk_at dk_M_row_0 38 rfl) ?_
      refine r_getR C fl_M_34 0 (hL 0 _ rfl) rfl (dk_at dk_M_row_0 39 rfl) ?_
      refine r_iload_n C 3 rfl (dk_at dk_M_row_1 0 rfl) ?_
      refine r_iconst C 1 (dk_at dk_M_row_1 1 rfl) ?_
      refine r_iadd C (dk_at dk_M_row_1 2 rfl) ?_
      obtain ⟨q22, h⟩ := h
      refine r_bald C 12 (hL 12 _ rfl) q22 (dk_at dk_M_row_1 3 rfl) ?_
      refine r_csI C cs_M_112 [.int 1, .int (gI σ20 12 (a3 + 1).toNatClampNeg)] (m_M_isFact hL h) (rmK_ok rfl rfl) rfl rfl (Nat.le_of_ble_eq_true rfl) (dk_at dk_M_row_1 4 rfl) (fun r23 σ24 h => ?_)
      refine r_if_eq C 135 rfl (dk_at dk_M_row_1 5 rfl) (fun c25 => ?_) (fun c25 => ?_)
      · replace h := h.1 c25
        refine r_lv [0, 1, 2, 3] rfl ?_
        exact t_M_row_j135 C hL k40 h
      · replace h := h.2 c25
        refine r_iconst C 2 (dk_at dk_M_row_1 6 rfl) ?_
        refine r_aload_n C 0 rfl (dk_at dk_M_row_1 7 rfl) ?_
        refine r_getR C fl_M_34 0 (hL 0 _ rfl) rfl (dk_at dk_M_row_1 8 rfl) ?_
        refine r_iload_n C 3 rfl (dk_at dk_M_row_1 9 rfl) ?_
        refine r_iconst C 2 (dk_at dk_M_row_1 10 rfl) ?_
        refine r_iadd C (dk_at dk_M_row_1 11 rfl) ?_
        obtain ⟨q26, h⟩ := h
        refine r_bald C 12 (hL 12 _ rfl) q26 (dk_at dk_M_row_1 12 rfl) ?_
        refine r_csI C cs_M_112 [.int 2, .int (gI σ24 12 (a3 + 2).toNatClampNeg)] (m_M_isFact hL h) (rmK_ok rfl rfl) rfl rfl (Nat.le_of_ble_eq_true rfl) (dk_at dk_M_row_1 13 rfl) (fun r27 σ28 h => ?_)
        refine r_if_eq C 135 rfl (dk_at dk_M_row_1 14 rfl) (fun c29 => ?_) (fun c29 => ?_)
        · replace h := h.1 c29
          refine r_lv [0, 1, 2, 3] rfl ?_
          exact t_M_row_j135 C hL k40 h
        · replace h := h.2 c29
          refine r_aload_n C 0 rfl (dk_at dk_M_row_1 15 rfl) ?_
          refine r_getR C fl_M_34 0 (hL 0 _ rfl) rfl (dk_at dk_M_row_1 16 rfl) ?_
          refine r_iload_n C 3 rfl (dk_at dk_M_row_1 17 rfl) ?_
          refine r_iconst C 3 (dk_at dk_M_row_1 18 rfl) ?_
          refine r_iadd C (dk_at dk_M_row_1 19 rfl) ?_
          obtain ⟨q30, h⟩ := h
          refine r_bald C 12 (hL 12 _ rfl) q30 (dk_at dk_M_row_1 20 rfl) ?_
          refine r_if_eq C 118 rfl (dk_at dk_M_row_1 21 rfl) (fun c31 => ?_) (fun c31 => ?_)
          · replace h := h.1 c31
            refine r_lv [0, 1, 2, 3] rfl ?_
            exact t_M_row_j118 C hL k40 h
          · replace h := h.2 c31
            refine r_aload_n C 0 rfl (dk_at dk_M_row_1 22 rfl) ?_
            refine r_aload_n C 0 rfl (dk_at dk_M_row_1 23 rfl) ?_
            refine r_getR C fl_M_34 0 (hL 0 _ rfl) rfl (dk_at dk_M_row_1 24 rfl) ?_
            refine r_iload_n C 3 rfl (dk_at dk_M_row_1 25 rfl) ?_
            refine r_iconst C 3 (dk_at dk_M_row_1 26 rfl) ?_
            refine r_iadd C (dk_at dk_M_row_1 27 rfl) ?_
            obtain ⟨q32, h⟩ := h
            refine r_bald C 12 (hL 12 _ rfl) q32 (dk_at dk_M_row_1 28 rfl) ?_
            refine r_iconst C 1 (dk_at dk_M_row_1 29 rfl) ?_
            refine r_isub C (dk_at dk_M_row_1 30 rfl) ?_
            refine r_cvI C cl_M_120 0 (hL 0 _ rfl) [.int ((gI σ28 12 (a3 + 3).toNatClampNeg) - 1)] (m_M_isAct hL h) (rmK_ok rfl rfl) rfl rfl (Nat.le_of_ble_eq_true rfl) (dk_at dk_M_row_1 31 rfl) (fun r33 σ34 h => ?_)
            refine r_if_eq C 135 rfl (dk_at dk_M_row_1 32 rfl) (fun c35 => ?_) (fun c35 => ?_)
            · replace h := h.1 c35
              refine r_lv [0, 1, 2, 3] rfl ?_
              exact t_M_row_j135 C hL k40 h
            · replace h := h.2 c35
              refine r_lv [0, 1, 2, 3] rfl ?_
              exact t_M_row_j118 C hL k40 h
set_option maxRecDepth 20000 in
theorem t_M_row_l40 {X : CT} {w : WO} (C : CF X w (lim0 w) 5 cX11_row RX11 (some .int) (.code yX11_row cX11_row 5 (some .int)) (rmK 2 43)) (hL : LyM w) {a1 : Int32} {post : Int32 → DD → Prop} {σ : DD} {a2 : Int32} {a3 : Int32} (h : w_M_row_l40 post σ a1 a2 a3) : gW X w (lim0 w) 5 (QI X w post) σ 40 [(0, .ref (wAd w 0)), (1, .int a1), (2, .int a2), (3, .int a3)] [] :=
  LoopW (G := fun x : DD × Int32 × Int32 => gW X w (lim0 w) 5 (QI X w post) x.1 40 [(0, .ref (wAd w 0)), (1, .int a1), (2, .int x.2.1), (3, .int x.2.2)] []) (fun K x hK hF => t_M_row_b40 C hL (fun σ a2 a3 q => hK (σ, a2, a3) q) hF) h
set_option maxRecDepth 20000 in
theorem t_M_row_j35 {X : CT} {w : WO} (C : CF X w (lim0 w) 5 cX11_row RX11 (some .int) (.code yX11_row cX11_row 5 (some .int)) (rmK 2 43)) (hL : LyM w) {post : Int32 → DD → Prop} {a1 : Int32} {a2 : Int32} {t1 : Int32} {σ : DD} (h : w_M_row_j35 post σ a1 a2 t1) : gW X w (lim0 w) 5 (QI X w post) σ 35 [(0, .ref (wAd w 0)), (1, .int a1), (2, .int a2)] [.int t1, .ref (wAd w 0)] := by
  unfold w_M_row_j35 at h
  refine r_putI C fl_M_143 0 (hL 0 _ rfl) rfl (dk_at dk_M_row_0 22 rfl) (r_sg (fun σ36 e37 => ?_))
  replace h := h σ36 e37
  refine r_iconst C 0 (dk_at dk_M_row_0 23 rfl) ?_
  refine r_istore_n C [(3, .int 0), (0, .ref (wAd w 0)), (1, .int a1), (2, .int a2)] rfl rfl (dk_at dk_M_row_0 24 rfl) ?_
  refine r_lv [1, 2, 3, 0] rfl ?_
  exact t_M_row_l40 C hL h
set_option maxRecDepth 20000 in
theorem m_M_row {l : Launch} {w : WO} (hL : LyM w) {σ : DD} {post : Int32 → DD → Prop} (h : w_M_row σ post) : MI l w yX11_row cX11_row 5 .int (rmK 2 43) σ [.ref (wAd w 0)] post :=
  met_head (rt := (some .int)) (by decide) rfl (fun X hX C => by
  subst hX
  unfold w_M_row at h
  show gW X w (lim0 w) 5 (QI X w post) σ 0 [(0, .ref (wAd w 0))] []
  refine r_aload_n C 0 rfl (dk_at dk_M_row_0 0 rfl) ?_
  refine r_getI C fl_M_140 0 (hL 0 _ rfl) rfl (dk_at dk_M_row_0 1 rfl) ?_
  refine r_topi (fun v38 e39 => ?_)
  replace h := h v38 e39
  refine r_istore_n C [(1, .int v38), (0, .ref (wAd w 0))] rfl rfl (dk_at dk_M_row_0 2 rfl) ?_
  refine r_aload_n C 1 rfl (dk_at dk_M_row_0 3 rfl) ?_
  refine r_iconst C 0 (dk_at dk_M_row_0 4 rfl) ?_
  refine r_putI C fl_M_140 0 (hL 0 _ rfl) rfl (dk_at dk_M_row_0 5 rfl) (r_sg (fun σ40 e41 => ?_))
  replace h := h σ40 e41
  refine r_iload_n C 0 rfl (dk_at dk_M_row_0 6 rfl) ?_
  refine r_if_ne C 21 rfl (dk_at dk_M_row_0 7 rfl) (fun c42 => ?_) (fun c42 => ?_)
  · replace h := h.1 c42
    refine r_iconst C 0 (dk_at dk_M_row_0 12 rfl) ?_
    refine r_istore_n C [(2, .int 0), (1, .int v38), (0, .ref (wAd w 0))] rfl rfl (dk_at dk_M_row_0 13 rfl) ?_
    refine r_aload_n C 2 rfl (dk_at dk_M_row_0 14 rfl) ?_
    refine r_iload_n C 1 rfl (dk_at dk_M_row_0 15 rfl) ?_
    refine r_iconst C 4 (dk_at dk_M_row_0 16 rfl) ?_
    refine r_irem C (by decide) (dk_at dk_M_row_0 17 rfl) ?_
    refine r_if_ne C 34 rfl (dk_at dk_M_row_0 18 rfl) (fun c43 => ?_) (fun c43 => ?_)
    · replace h := h.1 c43
      refine r_iconst C 1 (dk_at dk_M_row_0 21 rfl) ?_
      refine r_lv [2, 1, 0] rfl ?_
      exact t_M_row_j35 C hL h
    · replace h := h.2 c43
      refine r_iconst C 0 (dk_at dk_M_row_0 19 rfl) ?_
      refine r_goto C 35 rfl (dk_at dk_M_row_0 20 rfl) ?_
      refine r_lv [2, 1, 0] rfl ?_
      exact t_M_row_j35 C hL h
  · replace h := h.2 c42
    refine r_aload_n C 1 rfl (dk_at dk_M_row_0 8 rfl) ?_
    refine r_bipush C (-6) (dk_at dk_M_row_0 9 rfl) ?_
    refine r_cvI C cl_M_105 0 (hL 0 _ rfl) [.int (-6)] (m_M_refuses hL h) (rmK_ok rfl rfl) rfl rfl (Nat.le_of_ble_eq_true rfl) (dk_at dk_M_row_0 10 rfl) (fun r44 σ45 h => ?_)
    exact r_iret C h (dk_at dk_M_row_0 11 rfl)
  )
set_option maxRecDepth 20000 in
theorem m_M_mud {l : Launch} {w : WO} (hL : LyM w) {σ : DD} {post : Int32 → DD → Prop} (h : w_M_mud σ post) : MI l w yX11_mud cX11_mud 1 .int (rmK 0 0) σ [.ref (wAd w 0)] post :=
  met_head (rt := (some .int)) (by decide) rfl (fun X hX C => by
  subst hX
  unfold w_M_mud at h
  show gW X w (lim0 w) 1 (QI X w post) σ 0 [(0, .ref (wAd w 0))] []
  refine r_aload_n C 0 rfl (dk_at dk_M_mud_0 0 rfl) ?_
  refine r_getI C fl_M_143 0 (hL 0 _ rfl) rfl (dk_at dk_M_mud_0 1 rfl) ?_
  exact r_iret C h (dk_at dk_M_mud_0 2 rfl)
  )
set_option maxRecDepth 20000 in
theorem t_M_feed_b55 {X : CT} {w : WO} (C : CF X w (lim0 w) 7 cX11_feed RX11 (some .int) (.code yX11_feed cX11_feed 7 (some .int)) (rmK 0 0)) (hL : LyM w) {K55 : DD → Int32 → Prop} {post : Int32 → DD → Prop} (k55 : ∀ (σ : DD) (a6 : Int32), K55 σ a6 → gW X w (lim0 w) 7 (QI X w post) σ 55 [(0, .ref (wAd w 0)), (6, .int a6)] []) {σ : DD} {a6 : Int32} (h : w_M_feed_b55 K55 post σ a6) : gW X w (lim0 w) 7 (QI X w post) σ 55 [(0, .ref (wAd w 0)), (6, .int a6)] [] := by
  unfold w_M_feed_b55 at h
  refine r_iload C 1 rfl (dk_at dk_M_feed_0 35 rfl) ?_
  refine r_bipush C 20 (dk_at dk_M_feed_0 36 rfl) ?_
  refine r_icmp_ge C 101 rfl (dk_at dk_M_feed_0 37 rfl) (fun c1 => ?_) (fun c1 => ?_)
  · replace h := h.1 c1
    refine r_aload_n C 0 rfl (dk_at dk_M_feed_1 22 rfl) ?_
    refine r_dup C rfl (dk_at dk_M_feed_1 23 rfl) ?_
    refine r_getI C fl_M_140 0 (hL 0 _ rfl) rfl (dk_at dk_M_feed_1 24 rfl) ?_
    refine r_bipush C 20 (dk_at dk_M_feed_1 25 rfl) ?_
    refine r_iadd C (dk_at dk_M_feed_1 26 rfl) ?_
    refine r_putI C fl_M_140 0 (hL 0 _ rfl) rfl (dk_at dk_M_feed_1 27 rfl) (r_sg (fun σ2 e3 => ?_))
    replace h := h σ2 e3
    refine r_aload_n C 0 rfl (dk_at dk_M_feed_1 28 rfl) ?_
    refine r_getI C fl_M_140 0 (hL 0 _ rfl) rfl (dk_at dk_M_feed_1 29 rfl) ?_
    exact r_iret C h (dk_at dk_M_feed_1 30 rfl)
  · replace h := h.2 c1
    refine r_aload_n C 0 rfl (dk_at dk_M_feed_0 38 rfl) ?_
    refine r_getR C fl_M_34 0 (hL 0 _ rfl) rfl (dk_at dk_M_feed_0 39 rfl) ?_
    refine r_aload_n C 0 rfl (dk_at dk_M_feed_1 0 rfl) ?_
    refine r_getI C fl_M_140 0 (hL 0 _ rfl) rfl (dk_at dk_M_feed_1 1 rfl) ?_
    refine r_iload C 1 rfl (dk_at dk_M_feed_1 2 rfl) ?_
    refine r_iadd C (dk_at dk_M_feed_1 3 rfl) ?_
    refine r_aload_n C 0 rfl (dk_at dk_M_feed_1 4 rfl) ?_
    refine r_getR C fl_M_37 0 (hL 0 _ rfl) rfl (dk_at dk_M_feed_1 5 rfl) ?_
    refine r_iload C 1 rfl (dk_at dk_M_feed_1 6 rfl) ?_
    refine r_iconst C 4 (dk_at dk_M_feed_1 7 rfl) ?_
    refine r_idiv C (by decide) (dk_at dk_M_feed_1 8 rfl) ?_
    obtain ⟨q4, h⟩ := h
    refine r_iald C 13 (hL 13 _ rfl) q4 (dk_at dk_M_feed_1 9 rfl) ?_
    refine r_bipush C 24 (dk_at dk_M_feed_1 10 rfl) ?_
    refine r_bipush C 8 (dk_at dk_M_feed_1 11 rfl) ?_
    refine r_iload C 1 rfl (dk_at dk_M_feed_1 12 rfl) ?_
    refine r_iconst C 4 (dk_at dk_M_feed_1 13 rfl) ?_
    refine r_irem C (by decide) (dk_at dk_M_feed_1 14 rfl) ?_
    refine r_imul C (dk_at dk_M_feed_1 15 rfl) ?_
    refine r_isub C (dk_at dk_M_feed_1 16 rfl) ?_
    refine r_ishr C (dk_at dk_M_feed_1 17 rfl) ?_
    refine r_i2b C (dk_at dk_M_feed_1 18 rfl) ?_
    obtain ⟨q7, h⟩ := h
    refine r_bast C 12 (hL 12 _ rfl) q7 (dk_at dk_M_feed_1 19 rfl) (r_sg (fun σ5 e6 => ?_))
    replace h := h σ5 e6
    refine r_iinc C 1 rfl rfl [(6, .int (a6 + 1)), (0, .ref (wAd w 0))] rfl rfl (dk_at dk_M_feed_1 20 rfl) ?_
    refine r_goto C 55 rfl (dk_at dk_M_feed_1 21 rfl) ?_
    refine r_lv [1, 0] rfl ?_
    exact k55 _ _ h
set_option maxRecDepth 20000 in
theorem t_M_feed_l55 {X : CT} {w : WO} (C : CF X w (lim0 w) 7 cX11_feed RX11 (some .int) (.code yX11_feed cX11_feed 7 (some .int)) (rmK 0 0)) (hL : LyM w) {post : Int32 → DD → Prop} {σ : DD} {a6 : Int32} (h : w_M_feed_l55 post σ a6) : gW X w (lim0 w) 7 (QI X w post) σ 55 [(0, .ref (wAd w 0)), (6, .int a6)] [] :=
  LoopW (G := fun x : DD × Int32 => gW X w (lim0 w) 7 (QI X w post) x.1 55 [(0, .ref (wAd w 0)), (6, .int x.2)] []) (fun K x hK hF => t_M_feed_b55 C hL (fun σ a6 q => hK (σ, a6) q) hF) h
set_option maxRecDepth 20000 in
theorem m_M_feed {l : Launch} {w : WO} (hL : LyM w) {σ : DD} {a1 : Int32} {a2 : Int32} {a3 : Int32} {a4 : Int32} {a5 : Int32} {post : Int32 → DD → Prop} (h : w_M_feed σ a1 a2 a3 a4 a5 post) : MI l w yX11_feed cX11_feed 7 .int (rmK 0 0) σ [.ref (wAd w 0), .int a1, .int a2, .int a3, .int a4, .int a5] post :=
  met_head (rt := (some .int)) (by decide) rfl (fun X hX C => by
  subst hX
  unfold w_M_feed at h
  show gW X w (lim0 w) 7 (QI X w post) σ 0 [(0, .ref (wAd w 0)), (1, .int a1), (2, .int a2), (3, .int a3), (4, .int a4), (5, .int a5)] []
  refine r_aload_n C 0 rfl (dk_at dk_M_feed_0 0 rfl) ?_
  refine r_getI C fl_M_140 0 (hL 0 _ rfl) rfl (dk_at dk_M_feed_0 1 rfl) ?_
  refine r_bipush C 20 (dk_at dk_M_feed_0 2 rfl) ?_
  refine r_iadd C (dk_at dk_M_feed_0 3 rfl) ?_
  refine r_sipush C 400 (dk_at dk_M_feed_0 4 rfl) ?_
  refine r_icmp_le C 15 rfl (dk_at dk_M_feed_0 5 rfl) (fun c8 => ?_) (fun c8 => ?_)
  · replace h := h.1 c8
    refine r_aload_n C 0 rfl (dk_at dk_M_feed_0 8 rfl) ?_
    refine r_getR C fl_M_37 0 (hL 0 _ rfl) rfl (dk_at dk_M_feed_0 9 rfl) ?_
    refine r_iconst C 0 (dk_at dk_M_feed_0 10 rfl) ?_
    refine r_iload_n C 1 rfl (dk_at dk_M_feed_0 11 rfl) ?_
    refine r_iastK C 13 (hL 13 _ rfl) lk_0 vk_0_5 (dk_at dk_M_feed_0 12 rfl) (r_sg (fun σ9 e10 => ?_))
    replace h := h σ9 e10
    refine r_aload_n C 0 rfl (dk_at dk_M_feed_0 13 rfl) ?_
    refine r_getR C fl_M_37 0 (hL 0 _ rfl) rfl (dk_at dk_M_feed_0 14 rfl) ?_
    refine r_iconst C 1 (dk_at dk_M_feed_0 15 rfl) ?_
    refine r_iload_n C 2 rfl (dk_at dk_M_feed_0 16 rfl) ?_
    refine r_iastK C 13 (hL 13 _ rfl) lk_1 vk_1_5 (dk_at dk_M_feed_0 17 rfl) (r_sg (fun σ11 e12 => ?_))
    replace h := h σ11 e12
    refine r_aload_n C 0 rfl (dk_at dk_M_feed_0 18 rfl) ?_
    refine r_getR C fl_M_37 0 (hL 0 _ rfl) rfl (dk_at dk_M_feed_0 19 rfl) ?_
    refine r_iconst C 2 (dk_at dk_M_feed_0 20 rfl) ?_
    refine r_iload_n C 3 rfl (dk_at dk_M_feed_0 21 rfl) ?_
    refine r_iastK C 13 (hL 13 _ rfl) lk_2 vk_2_5 (dk_at dk_M_feed_0 22 rfl) (r_sg (fun σ13 e14 => ?_))
    replace h := h σ13 e14
    refine r_aload_n C 0 rfl (dk_at dk_M_feed_0 23 rfl) ?_
    refine r_getR C fl_M_37 0 (hL 0 _ rfl) rfl (dk_at dk_M_feed_0 24 rfl) ?_
    refine r_iconst C 3 (dk_at dk_M_feed_0 25 rfl) ?_
    refine r_iload C 4 rfl (dk_at dk_M_feed_0 26 rfl) ?_
    refine r_iastK C 13 (hL 13 _ rfl) lk_3 vk_3_5 (dk_at dk_M_feed_0 27 rfl) (r_sg (fun σ15 e16 => ?_))
    replace h := h σ15 e16
    refine r_aload_n C 0 rfl (dk_at dk_M_feed_0 28 rfl) ?_
    refine r_getR C fl_M_37 0 (hL 0 _ rfl) rfl (dk_at dk_M_feed_0 29 rfl) ?_
    refine r_iconst C 4 (dk_at dk_M_feed_0 30 rfl) ?_
    refine r_iload C 5 rfl (dk_at dk_M_feed_0 31 rfl) ?_
    refine r_iastK C 13 (hL 13 _ rfl) lk_4 vk_4_5 (dk_at dk_M_feed_0 32 rfl) (r_sg (fun σ17 e18 => ?_))
    replace h := h σ17 e18
    refine r_iconst C 0 (dk_at dk_M_feed_0 33 rfl) ?_
    refine r_istore C [(6, .int 0), (0, .ref (wAd w 0)), (1, .int a1), (2, .int a2), (3, .int a3), (4, .int a4), (5, .int a5)] rfl rfl (dk_at dk_M_feed_0 34 rfl) ?_
    refine r_lv [1, 0] rfl ?_
    exact t_M_feed_l55 C hL h
  · replace h := h.2 c8
    refine r_iconst C (-1) (dk_at dk_M_feed_0 6 rfl) ?_
    exact r_iret C h (dk_at dk_M_feed_0 7 rfl)
  )
set_option maxRecDepth 20000 in
theorem m_M_end {l : Launch} {w : WO} (hL : LyM w) {σ : DD} {a1 : Int32} {post : Int32 → DD → Prop} (h : w_M_end σ a1 post) : MI l w yX11_end cX11_end 2 .int (rmK 1 22) σ [.ref (wAd w 0), .int a1] post :=
  met_head (rt := (some .int)) (by decide) rfl (fun X hX C => by
  subst hX
  unfold w_M_end at h
  show gW X w (lim0 w) 2 (QI X w post) σ 0 [(0, .ref (wAd w 0)), (1, .int a1)] []
  refine r_iload_n C 1 rfl (dk_at dk_M_end_0 0 rfl) ?_
  refine r_iconst C 0 (dk_at dk_M_end_0 1 rfl) ?_
  refine r_aload_n C 0 rfl (dk_at dk_M_end_0 2 rfl) ?_
  refine r_getI C fl_M_140 0 (hL 0 _ rfl) rfl (dk_at dk_M_end_0 3 rfl) ?_
  refine r_csI C cs_M_101 [.int a1, .int 0, .int (gI σ 0 13)] (m_M_lies hL h) (rmK_ok rfl rfl) rfl rfl (Nat.le_of_ble_eq_true rfl) (dk_at dk_M_end_0 4 rfl) (fun r1 σ2 h => ?_)
  refine r_if_ne C 14 rfl (dk_at dk_M_end_0 5 rfl) (fun c3 => ?_) (fun c3 => ?_)
  · replace h := h.1 c3
    refine r_aload_n C 0 rfl (dk_at dk_M_end_0 8 rfl) ?_
    refine r_iload_n C 1 rfl (dk_at dk_M_end_0 9 rfl) ?_
    refine r_putI C fl_M_140 0 (hL 0 _ rfl) rfl (dk_at dk_M_end_0 10 rfl) (r_sg (fun σ4 e5 => ?_))
    replace h := h σ4 e5
    refine r_iload_n C 1 rfl (dk_at dk_M_end_0 11 rfl) ?_
    exact r_iret C h (dk_at dk_M_end_0 12 rfl)
  · replace h := h.2 c3
    refine r_iconst C (-1) (dk_at dk_M_end_0 6 rfl) ?_
    exact r_iret C h (dk_at dk_M_end_0 7 rfl)
  )
set_option maxRecDepth 20000 in
theorem m_M_isSmall {l : Launch} {w : WO} (hL : LyM w) {σ : DD} {a0 : Int32} {post : Int32 → DD → Prop} (h : w_M_isSmall σ a0 post) : MI l w yX11_isSmall cX11_isSmall 1 .boolean (rmK 0 0) σ [.int a0] post :=
  met_head (rt := (some .boolean)) (by decide) rfl (fun X hX C => by
  subst hX
  unfold w_M_isSmall at h
  show gW X w (lim0 w) 1 (QI X w post) σ 0 [(0, .int a0)] []
  refine r_iload_n C 0 rfl (dk_at dk_M_isSmall_0 0 rfl) ?_
  refine r_bipush C 97 (dk_at dk_M_isSmall_0 1 rfl) ?_
  refine r_icmp_lt C 16 rfl (dk_at dk_M_isSmall_0 2 rfl) (fun c1 => ?_) (fun c1 => ?_)
  · replace h := h.1 c1
    refine r_iconst C 0 (dk_at dk_M_isSmall_0 8 rfl) ?_
    exact r_zret C (Or.inl rfl) h (dk_at dk_M_isSmall_0 9 rfl)
  · replace h := h.2 c1
    refine r_iload_n C 0 rfl (dk_at dk_M_isSmall_0 3 rfl) ?_
    refine r_bipush C 122 (dk_at dk_M_isSmall_0 4 rfl) ?_
    refine r_icmp_gt C 16 rfl (dk_at dk_M_isSmall_0 5 rfl) (fun c2 => ?_) (fun c2 => ?_)
    · replace h := h.1 c2
      refine r_iconst C 0 (dk_at dk_M_isSmall_0 8 rfl) ?_
      exact r_zret C (Or.inl rfl) h (dk_at dk_M_isSmall_0 9 rfl)
    · replace h := h.2 c2
      refine r_iconst C 1 (dk_at dk_M_isSmall_0 6 rfl) ?_
      refine r_goto C 17 rfl (dk_at dk_M_isSmall_0 7 rfl) ?_
      exact r_zret C (Or.inr rfl) h (dk_at dk_M_isSmall_0 9 rfl)
  )
set_option maxRecDepth 20000 in
theorem m_M_isDigit {l : Launch} {w : WO} (hL : LyM w) {σ : DD} {a0 : Int32} {post : Int32 → DD → Prop} (h : w_M_isDigit σ a0 post) : MI l w yX11_isDigit cX11_isDigit 1 .boolean (rmK 0 0) σ [.int a0] post :=
  met_head (rt := (some .boolean)) (by decide) rfl (fun X hX C => by
  subst hX
  unfold w_M_isDigit at h
  show gW X w (lim0 w) 1 (QI X w post) σ 0 [(0, .int a0)] []
  refine r_iload_n C 0 rfl (dk_at dk_M_isDigit_0 0 rfl) ?_
  refine r_bipush C 48 (dk_at dk_M_isDigit_0 1 rfl) ?_
  refine r_icmp_lt C 16 rfl (dk_at dk_M_isDigit_0 2 rfl) (fun c1 => ?_) (fun c1 => ?_)
  · replace h := h.1 c1
    refine r_iconst C 0 (dk_at dk_M_isDigit_0 8 rfl) ?_
    exact r_zret C (Or.inl rfl) h (dk_at dk_M_isDigit_0 9 rfl)
  · replace h := h.2 c1
    refine r_iload_n C 0 rfl (dk_at dk_M_isDigit_0 3 rfl) ?_
    refine r_bipush C 57 (dk_at dk_M_isDigit_0 4 rfl) ?_
    refine r_icmp_gt C 16 rfl (dk_at dk_M_isDigit_0 5 rfl) (fun c2 => ?_) (fun c2 => ?_)
    · replace h := h.1 c2
      refine r_iconst C 0 (dk_at dk_M_isDigit_0 8 rfl) ?_
      exact r_zret C (Or.inl rfl) h (dk_at dk_M_isDigit_0 9 rfl)
    · replace h := h.2 c2
      refine r_iconst C 1 (dk_at dk_M_isDigit_0 6 rfl) ?_
      refine r_goto C 17 rfl (dk_at dk_M_isDigit_0 7 rfl) ?_
      exact r_zret C (Or.inr rfl) h (dk_at dk_M_isDigit_0 9 rfl)
  )
set_option maxRecDepth 20000 in
theorem t_M_wordOf_j96 {X : CT} {w : WO} (C : CF X w (lim0 w) 8 cX11_wordOf RX11 (some .int) (.code yX11_wordOf cX11_wordOf 8 (some .int)) (rmK 0 0)) (hL : LyM w) {K5 : DD → Int32 → Int32 → Prop} {K57 : DD → Int32 → Int32 → Prop} {post : Int32 → DD → Prop} {a1 : Int32} {a2 : Int32} {a3 : Int32} {a4 : Int32} {a5 : Int32} {a7 : Int32} {t0 : Int32} (k5 : ∀ (σ : DD) (a3 : Int32) (a4 : Int32), K5 σ a3 a4 → gW X w (lim0 w) 8 (QI X w post) σ 5 [(0, .ref (wAd w 0)), (1, .int a1), (2, .int a2), (3, .int a3), (4, .int a4)] []) (k57 : ∀ (σ : DD) (a6 : Int32) (a7 : Int32), K57 σ a6 a7 → gW X w (lim0 w) 8 (QI X w post) σ 57 [(0, .ref (wAd w 0)), (1, .int a1), (2, .int a2), (3, .int a3), (4, .int a4), (5, .int a5), (6, .int a6), (7, .int a7)] []) {σ : DD} (h : w_M_wordOf_j96 K5 K57 post σ a1 a2 a3 a4 a5 a7 t0) : gW X w (lim0 w) 8 (QI X w post) σ 96 [(0, .ref (wAd w 0)), (1, .int a1), (2, .int a2), (3, .int a3), (4, .int a4), (5, .int a5), (7, .int a7)] [.int t0] := by
  unfold w_M_wordOf_j96 at h
  refine r_istore C [(6, .int t0), (0, .ref (wAd w 0)), (1, .int a1), (2, .int a2), (3, .int a3), (4, .int a4), (5, .int a5), (7, .int a7)] rfl rfl (dk_at dk_M_wordOf_1 13 rfl) ?_
  refine r_iinc C 7 rfl rfl [(7, .int (a7 + 1)), (6, .int t0), (0, .ref (wAd w 0)), (1, .int a1), (2, .int a2), (3, .int a3), (4, .int a4), (5, .int a5)] rfl rfl (dk_at dk_M_wordOf_1 14 rfl) ?_
  refine r_goto C 57 rfl (dk_at dk_M_wordOf_1 15 rfl) ?_
  refine r_lv [2, 3, 4, 5, 6, 7, 1, 0] rfl ?_
  exact k57 _ _ _ h
set_option maxRecDepth 20000 in
theorem t_M_wordOf_j104 {X : CT} {w : WO} (C : CF X w (lim0 w) 8 cX11_wordOf RX11 (some .int) (.code yX11_wordOf cX11_wordOf 8 (some .int)) (rmK 0 0)) (hL : LyM w) {K5 : DD → Int32 → Int32 → Prop} {post : Int32 → DD → Prop} {a1 : Int32} {a2 : Int32} {a3 : Int32} {a4 : Int32} {a5 : Int32} {a6 : Int32} (k5 : ∀ (σ : DD) (a3 : Int32) (a4 : Int32), K5 σ a3 a4 → gW X w (lim0 w) 8 (QI X w post) σ 5 [(0, .ref (wAd w 0)), (1, .int a1), (2, .int a2), (3, .int a3), (4, .int a4)] []) {σ : DD} (h : w_M_wordOf_j104 K5 post σ a1 a2 a3 a4 a5 a6) : gW X w (lim0 w) 8 (QI X w post) σ 104 [(0, .ref (wAd w 0)), (1, .int a1), (2, .int a2), (3, .int a3), (4, .int a4), (5, .int a5), (6, .int a6)] [] := by
  unfold w_M_wordOf_j104 at h
  refine r_iload C 6 rfl (dk_at dk_M_wordOf_1 16 rfl) ?_
  refine r_if_eq C 111 rfl (dk_at dk_M_wordOf_1 17 rfl) (fun c1 => ?_) (fun c1 => ?_)
  · replace h := h.1 c1
    refine r_iload C 4 rfl (dk_at dk_M_wordOf_1 20 rfl) ?_
    refine r_iload C 5 rfl (dk_at dk_M_wordOf_1 21 rfl) ?_
    refine r_iconst C 1 (dk_at dk_M_wordOf_1 22 rfl) ?_
    refine r_iadd C (dk_at dk_M_wordOf_1 23 rfl) ?_
    refine r_iadd C (dk_at dk_M_wordOf_1 24 rfl) ?_
    refine r_topi (fun v2 e3 => ?_)
    replace h := h v2 e3
    refine r_istore C [(4, .int v2), (0, .ref (wAd w 0)), (1, .int a1), (2, .int a2), (3, .int a3), (5, .int a5), (6, .int a6)] rfl rfl (dk_at dk_M_wordOf_1 25 rfl) ?_
    refine r_iinc C 4 rfl rfl [(3, .int (a3 + 1)), (4, .int v2), (0, .ref (wAd w 0)), (1, .int a1), (2, .int a2), (5, .int a5), (6, .int a6)] rfl rfl (dk_at dk_M_wordOf_1 26 rfl) ?_
    refine r_goto C 5 rfl (dk_at dk_M_wordOf_1 27 rfl) ?_
    refine r_lv [2, 3, 4, 0, 1] rfl ?_
    exact k5 _ _ _ h
  · replace h := h.2 c1
    refine r_iload_n C 3 rfl (dk_at dk_M_wordOf_1 18 rfl) ?_
    exact r_iret C h (dk_at dk_M_wordOf_1 19 rfl)
set_option maxRecDepth 20000 in
theorem t_M_wordOf_b57 {X : CT} {w : WO} (C : CF X w (lim0 w) 8 cX11_wordOf RX11 (some .int) (.code yX11_wordOf cX11_wordOf 8 (some .int)) (rmK 0 0)) (hL : LyM w) {K5 : DD → Int32 → Int32 → Prop} {a1 : Int32} {a2 : Int32} {a3 : Int32} {a4 : Int32} {a5 : Int32} {K57 : DD → Int32 → Int32 → Prop} {post : Int32 → DD → Prop} (k5 : ∀ (σ : DD) (a3 : Int32) (a4 : Int32), K5 σ a3 a4 → gW X w (lim0 w) 8 (QI X w post) σ 5 [(0, .ref (wAd w 0)), (1, .int a1), (2, .int a2), (3, .int a3), (4, .int a4)] []) (k57 : ∀ (σ : DD) (a6 : Int32) (a7 : Int32), K57 σ a6 a7 → gW X w (lim0 w) 8 (QI X w post) σ 57 [(0, .ref (wAd w 0)), (1, .int a1), (2, .int a2), (3, .int a3), (4, .int a4), (5, .int a5), (6, .int a6), (7, .int a7)] []) {σ : DD} {a6 : Int32} {a7 : Int32} (h : w_M_wordOf_b57 K5 a1 a2 a3 a4 a5 K57 post σ a6 a7) : gW X w (lim0 w) 8 (QI X w post) σ 57 [(0, .ref (wAd w 0)), (1, .int a1), (2, .int a2), (3, .int a3), (4, .int a4), (5, .int a5), (6, .int a6), (7, .int a7)] [] := by
  unfold w_M_wordOf_b57 at h
  refine r_iload C 7 rfl (dk_at dk_M_wordOf_0 32 rfl) ?_
  refine r_iload C 5 rfl (dk_at dk_M_wordOf_0 33 rfl) ?_
  refine r_icmp_ge C 104 rfl (dk_at dk_M_wordOf_0 34 rfl) (fun c4 => ?_) (fun c4 => ?_)
  · replace h := h.1 c4
    refine r_lv [0, 1, 2, 3, 4, 5, 6] rfl ?_
    exact t_M_wordOf_j104 C hL k5 h
  · replace h := h.2 c4
    refine r_iload C 6 rfl (dk_at dk_M_wordOf_0 35 rfl) ?_
    refine r_if_eq C 104 rfl (dk_at dk_M_wordOf_0 36 rfl) (fun c5 => ?_) (fun c5 => ?_)
    · replace h := h.1 c5
      refine r_lv [0, 1, 2, 3, 4, 5, 6] rfl ?_
      exact t_M_wordOf_j104 C hL k5 h
    · replace h := h.2 c5
      refine r_aload_n C 0 rfl (dk_at dk_M_wordOf_0 37 rfl) ?_
      refine r_getR C fl_M_30 0 (hL 0 _ rfl) rfl (dk_at dk_M_wordOf_0 38 rfl) ?_
      refine r_iload C 4 rfl (dk_at dk_M_wordOf_0 39 rfl) ?_
      refine r_iload C 7 rfl (dk_at dk_M_wordOf_1 0 rfl) ?_
      refine r_iadd C (dk_at dk_M_wordOf_1 1 rfl) ?_
      obtain ⟨q6, h⟩ := h
      refine r_bald C 8 (hL 8 _ rfl) q6 (dk_at dk_M_wordOf_1 2 rfl) ?_
      refine r_aload_n C 0 rfl (dk_at dk_M_wordOf_1 3 rfl) ?_
      refine r_getR C fl_M_34 0 (hL 0 _ rfl) rfl (dk_at dk_M_wordOf_1 4 rfl) ?_
      refine r_iload_n C 1 rfl (dk_at dk_M_wordOf_1 5 rfl) ?_
      refine r_iload C 7 rfl (dk_at dk_M_wordOf_1 6 rfl) ?_
      refine r_iadd C (dk_at dk_M_wordOf_1 7 rfl) ?_
      obtain ⟨q7, h⟩ := h
      refine r_bald C 12 (hL 12 _ rfl) q7 (dk_at dk_M_wordOf_1 8 rfl) ?_
      refine r_icmp_ne C 95 rfl (dk_at dk_M_wordOf_1 9 rfl) (fun c8 => ?_) (fun c8 => ?_)
      · replace h := h.1 c8
        refine r_iconst C 0 (dk_at dk_M_wordOf_1 12 rfl) ?_
        refine r_lv [0, 1, 2, 3, 4, 5, 7] rfl ?_
        exact t_M_wordOf_j96 C hL k5 k57 h
      · replace h := h.2 c8
        refine r_iconst C 1 (dk_at dk_M_wordOf_1 10 rfl) ?_
        refine r_goto C 96 rfl (dk_at dk_M_wordOf_1 11 rfl) ?_
        refine r_lv [0, 1, 2, 3, 4, 5, 7] rfl ?_
        exact t_M_wordOf_j96 C hL k5 k57 h
set_option maxRecDepth 20000 in
theorem t_M_wordOf_l57 {X : CT} {w : WO} (C : CF X w (lim0 w) 8 cX11_wordOf RX11 (some .int) (.code yX11_wordOf cX11_wordOf 8 (some .int)) (rmK 0 0)) (hL : LyM w) {K5 : DD → Int32 → Int32 → Prop} {a1 : Int32} {a2 : Int32} {a3 : Int32} {a4 : Int32} {a5 : Int32} {post : Int32 → DD → Prop} (k5 : ∀ (σ : DD) (a3 : Int32) (a4 : Int32), K5 σ a3 a4 → gW X w (lim0 w) 8 (QI X w post) σ 5 [(0, .ref (wAd w 0)), (1, .int a1), (2, .int a2), (3, .int a3), (4, .int a4)] []) {σ : DD} {a6 : Int32} {a7 : Int32} (h : w_M_wordOf_l57 K5 post σ a1 a2 a3 a4 a5 a6 a7) : gW X w (lim0 w) 8 (QI X w post) σ 57 [(0, .ref (wAd w 0)), (1, .int a1), (2, .int a2), (3, .int a3), (4, .int a4), (5, .int a5), (6, .int a6), (7, .int a7)] [] :=
  LoopW (G := fun x : DD × Int32 × Int32 => gW X w (lim0 w) 8 (QI X w post) x.1 57 [(0, .ref (wAd w 0)), (1, .int a1), (2, .int a2), (3, .int a3), (4, .int a4), (5, .int a5), (6, .int x.2.1), (7, .int x.2.2)] []) (fun K x hK hF => t_M_wordOf_b57 C hL k5 (fun σ a6 a7 q => hK (σ, a6, a7) q) hF) h
set_option maxRecDepth 20000 in
theorem t_M_wordOf_j52 {X : CT} {w : WO} (C : CF X w (lim0 w) 8 cX11_wordOf RX11 (some .int) (.code yX11_wordOf cX11_wordOf 8 (some .int)) (rmK 0 0)) (hL : LyM w) {K5 : DD → Int32 → Int32 → Prop} {post : Int32 → DD → Prop} {a1 : Int32} {a2 : Int32} {a3 : Int32} {a4 : Int32} {a5 : Int32} {t0 : Int32} (k5 : ∀ (σ : DD) (a3 : Int32) (a4 : Int32), K5 σ a3 a4 → gW X w (lim0 w) 8 (QI X w post) σ 5 [(0, .ref (wAd w 0)), (1, .int a1), (2, .int a2), (3, .int a3), (4, .int a4)] []) {σ : DD} (h : w_M_wordOf_j52 K5 post σ a1 a2 a3 a4 a5 t0) : gW X w (lim0 w) 8 (QI X w post) σ 52 [(0, .ref (wAd w 0)), (1, .int a1), (2, .int a2), (3, .int a3), (4, .int a4), (5, .int a5)] [.int t0] := by
  unfold w_M_wordOf_j52 at h
  refine r_istore C [(6, .int t0), (0, .ref (wAd w 0)), (1, .int a1), (2, .int a2), (3, .int a3), (4, .int a4), (5, .int a5)] rfl rfl (dk_at dk_M_wordOf_0 29 rfl) ?_
  refine r_iconst C 0 (dk_at dk_M_wordOf_0 30 rfl) ?_
  refine r_istore C [(7, .int 0), (6, .int t0), (0, .ref (wAd w 0)), (1, .int a1), (2, .int a2), (3, .int a3), (4, .int a4), (5, .int a5)] rfl rfl (dk_at dk_M_wordOf_0 31 rfl) ?_
  refine r_lv [2, 3, 4, 5, 6, 7, 1, 0] rfl ?_
  exact t_M_wordOf_l57 C hL k5 h
set_option maxRecDepth 20000 in
theorem t_M_wordOf_b18 {X : CT} {w : WO} (C : CF X w (lim0 w) 8 cX11_wordOf RX11 (some .int) (.code yX11_wordOf cX11_wordOf 8 (some .int)) (rmK 0 0)) (hL : LyM w) {K5 : DD → Int32 → Int32 → Prop} {a1 : Int32} {a2 : Int32} {a3 : Int32} {a4 : Int32} {K18 : DD → Int32 → Prop} {post : Int32 → DD → Prop} (k5 : ∀ (σ : DD) (a3 : Int32) (a4 : Int32), K5 σ a3 a4 → gW X w (lim0 w) 8 (QI X w post) σ 5 [(0, .ref (wAd w 0)), (1, .int a1), (2, .int a2), (3, .int a3), (4, .int a4)] []) (k18 : ∀ (σ : DD) (a5 : Int32), K18 σ a5 → gW X w (lim0 w) 8 (QI X w post) σ 18 [(0, .ref (wAd w 0)), (1, .int a1), (2, .int a2), (3, .int a3), (4, .int a4), (5, .int a5)] []) {σ : DD} {a5 : Int32} (h : w_M_wordOf_b18 K5 a1 a2 a3 a4 K18 post σ a5) : gW X w (lim0 w) 8 (QI X w post) σ 18 [(0, .ref (wAd w 0)), (1, .int a1), (2, .int a2), (3, .int a3), (4, .int a4), (5, .int a5)] [] := by
  unfold w_M_wordOf_b18 at h
  refine r_aload_n C 0 rfl (dk_at dk_M_wordOf_0 11 rfl) ?_
  refine r_getR C fl_M_30 0 (hL 0 _ rfl) rfl (dk_at dk_M_wordOf_0 12 rfl) ?_
  refine r_iload C 4 rfl (dk_at dk_M_wordOf_0 13 rfl) ?_
  refine r_iload C 5 rfl (dk_at dk_M_wordOf_0 14 rfl) ?_
  refine r_iadd C (dk_at dk_M_wordOf_0 15 rfl) ?_
  obtain ⟨q9, h⟩ := h
  refine r_bald C 8 (hL 8 _ rfl) q9 (dk_at dk_M_wordOf_0 16 rfl) ?_
  refine r_bipush C 32 (dk_at dk_M_wordOf_0 17 rfl) ?_
  refine r_icmp_eq C 39 rfl (dk_at dk_M_wordOf_0 18 rfl) (fun c10 => ?_) (fun c10 => ?_)
  · replace h := h.1 c10
    refine r_iload C 5 rfl (dk_at dk_M_wordOf_0 21 rfl) ?_
    refine r_iload_n C 2 rfl (dk_at dk_M_wordOf_0 22 rfl) ?_
    refine r_iload_n C 1 rfl (dk_at dk_M_wordOf_0 23 rfl) ?_
    refine r_isub C (dk_at dk_M_wordOf_0 24 rfl) ?_
    refine r_icmp_ne C 51 rfl (dk_at dk_M_wordOf_0 25 rfl) (fun c11 => ?_) (fun c11 => ?_)
    · replace h := h.1 c11
      refine r_iconst C 0 (dk_at dk_M_wordOf_0 28 rfl) ?_
      refine r_lv [0, 1, 2, 3, 4, 5] rfl ?_
      exact t_M_wordOf_j52 C hL k5 h
    · replace h := h.2 c11
      refine r_iconst C 1 (dk_at dk_M_wordOf_0 26 rfl) ?_
      refine r_goto C 52 rfl (dk_at dk_M_wordOf_0 27 rfl) ?_
      refine r_lv [0, 1, 2, 3, 4, 5] rfl ?_
      exact t_M_wordOf_j52 C hL k5 h
  · replace h := h.2 c10
    refine r_iinc C 5 rfl rfl [(5, .int (a5 + 1)), (0, .ref (wAd w 0)), (1, .int a1), (2, .int a2), (3, .int a3), (4, .int a4)] rfl rfl (dk_at dk_M_wordOf_0 19 rfl) ?_
    refine r_goto C 18 rfl (dk_at dk_M_wordOf_0 20 rfl) ?_
    refine r_lv [1, 2, 3, 4, 5, 0] rfl ?_
    exact k18 _ _ h
set_option maxRecDepth 20000 in
theorem t_M_wordOf_l18 {X : CT} {w : WO} (C : CF X w (lim0 w) 8 cX11_wordOf RX11 (some .int) (.code yX11_wordOf cX11_wordOf 8 (some .int)) (rmK 0 0)) (hL : LyM w) {K5 : DD → Int32 → Int32 → Prop} {a1 : Int32} {a2 : Int32} {a3 : Int32} {a4 : Int32} {post : Int32 → DD → Prop} (k5 : ∀ (σ : DD) (a3 : Int32) (a4 : Int32), K5 σ a3 a4 → gW X w (lim0 w) 8 (QI X w post) σ 5 [(0, .ref (wAd w 0)), (1, .int a1), (2, .int a2), (3, .int a3), (4, .int a4)] []) {σ : DD} {a5 : Int32} (h : w_M_wordOf_l18 K5 post σ a1 a2 a3 a4 a5) : gW X w (lim0 w) 8 (QI X w post) σ 18 [(0, .ref (wAd w 0)), (1, .int a1), (2, .int a2), (3, .int a3), (4, .int a4), (5, .int a5)] [] :=
  LoopW (G := fun x : DD × Int32 => gW X w (lim0 w) 8 (QI X w post) x.1 18 [(0, .ref (wAd w 0)), (1, .int a1), (2, .int a2), (3, .int a3), (4, .int a4), (5, .int x.2)] []) (fun K x hK hF => t_M_wordOf_b18 C hL k5 (fun σ a5 q => hK (σ, a5) q) hF) h
set_option maxRecDepth 20000 in
theorem t_M_wordOf_b5 {X : CT} {w : WO} (C : CF X w (lim0 w) 8 cX11_wordOf RX11 (some .int) (.code yX11_wordOf cX11_wordOf 8 (some .int)) (rmK 0 0)) (hL : LyM w) {a1 : Int32} {a2 : Int32} {K5 : DD → Int32 → Int32 → Prop} {post : Int32 → DD → Prop} (k5 : ∀ (σ : DD) (a3 : Int32) (a4 : Int32), K5 σ a3 a4 → gW X w (lim0 w) 8 (QI X w post) σ 5 [(0, .ref (wAd w 0)), (1, .int a1), (2, .int a2), (3, .int a3), (4, .int a4)] []) {σ : DD} {a3 : Int32} {a4 : Int32} (h : w_M_wordOf_b5 a1 a2 K5 post σ a3 a4) : gW X w (lim0 w) 8 (QI X w post) σ 5 [(0, .ref (wAd w 0)), (1, .int a1), (2, .int a2), (3, .int a3), (4, .int a4)] [] := by
  unfold w_M_wordOf_b5 at h
  refine r_iload C 4 rfl (dk_at dk_M_wordOf_0 4 rfl) ?_
  refine r_aload_n C 0 rfl (dk_at dk_M_wordOf_0 5 rfl) ?_
  refine r_getR C fl_M_30 0 (hL 0 _ rfl) rfl (dk_at dk_M_wordOf_0 6 rfl) ?_
  refine r_alenI C 8 (hL 8 _ rfl) (by decide) 129 (by decide) (dk_at dk_M_wordOf_0 7 rfl) ?_
  refine r_icmp_ge C 126 rfl (dk_at dk_M_wordOf_0 8 rfl) (fun c12 => ?_) (fun c12 => ?_)
  · replace h := h.1 c12
    refine r_iconst C 0 (dk_at dk_M_wordOf_1 28 rfl) ?_
    exact r_iret C h (dk_at dk_M_wordOf_1 29 rfl)
  · replace h := h.2 c12
    refine r_iconst C 0 (dk_at dk_M_wordOf_0 9 rfl) ?_
    refine r_istore C [(5, .int 0), (0, .ref (wAd w 0)), (1, .int a1), (2, .int a2), (3, .int a3), (4, .int a4)] rfl rfl (dk_at dk_M_wordOf_0 10 rfl) ?_
    refine r_lv [1, 2, 3, 4, 5, 0] rfl ?_
    exact t_M_wordOf_l18 C hL k5 h
set_option maxRecDepth 20000 in
theorem t_M_wordOf_l5 {X : CT} {w : WO} (C : CF X w (lim0 w) 8 cX11_wordOf RX11 (some .int) (.code yX11_wordOf cX11_wordOf 8 (some .int)) (rmK 0 0)) (hL : LyM w) {a1 : Int32} {a2 : Int32} {post : Int32 → DD → Prop} {σ : DD} {a3 : Int32} {a4 : Int32} (h : w_M_wordOf_l5 post σ a1 a2 a3 a4) : gW X w (lim0 w) 8 (QI X w post) σ 5 [(0, .ref (wAd w 0)), (1, .int a1), (2, .int a2), (3, .int a3), (4, .int a4)] [] :=
  LoopW (G := fun x : DD × Int32 × Int32 => gW X w (lim0 w) 8 (QI X w post) x.1 5 [(0, .ref (wAd w 0)), (1, .int a1), (2, .int a2), (3, .int x.2.1), (4, .int x.2.2)] []) (fun K x hK hF => t_M_wordOf_b5 C hL (fun σ a3 a4 q => hK (σ, a3, a4) q) hF) h
set_option maxRecDepth 20000 in
theorem m_M_wordOf {l : Launch} {w : WO} (hL : LyM w) {σ : DD} {a1 : Int32} {a2 : Int32} {post : Int32 → DD → Prop} (h : w_M_wordOf σ a1 a2 post) : MI l w yX11_wordOf cX11_wordOf 8 .int (rmK 0 0) σ [.ref (wAd w 0), .int a1, .int a2] post :=
  met_head (rt := (some .int)) (by decide) rfl (fun X hX C => by
  subst hX
  unfold w_M_wordOf at h
  show gW X w (lim0 w) 8 (QI X w post) σ 0 [(0, .ref (wAd w 0)), (1, .int a1), (2, .int a2)] []
  refine r_iconst C 1 (dk_at dk_M_wordOf_0 0 rfl) ?_
  refine r_istore_n C [(3, .int 1), (0, .ref (wAd w 0)), (1, .int a1), (2, .int a2)] rfl rfl (dk_at dk_M_wordOf_0 1 rfl) ?_
  refine r_iconst C 0 (dk_at dk_M_wordOf_0 2 rfl) ?_
  refine r_istore C [(4, .int 0), (3, .int 1), (0, .ref (wAd w 0)), (1, .int a1), (2, .int a2)] rfl rfl (dk_at dk_M_wordOf_0 3 rfl) ?_
  refine r_lv [2, 3, 4, 1, 0] rfl ?_
  exact t_M_wordOf_l5 C hL h
  )
set_option maxRecDepth 20000 in
theorem t_M_splits_j240 {X : CT} {w : WO} (C : CF X w (lim0 w) 6 cX11_splits RX11 none (.code yX11_splits cX11_splits 6 none) (rmK 1 27)) (hL : LyM w) {K7 : DD → Int32 → Prop} {K169 : DD → Int32 → Prop} {post : DD → Prop} {a1 : Int32} {a3 : Int32} {a4 : Int32} {a5 : Int32} {t1 : Int32} {t2 : Int32} (k7 : ∀ (σ : DD) (a2 : Int32), K7 σ a2 → gW X w (lim0 w) 6 (QV X w post) σ 7 [(0, .ref (wAd w 0)), (1, .int a1), (2, .int a2)] []) (k169 : ∀ (σ : DD) (a5 : Int32), K169 σ a5 → gW X w (lim0 w) 6 (QV X w post) σ 169 [(0, .ref (wAd w 0)), (1, .int a1), (3, .int a3), (4, .int a4), (5, .int a5)] []) {σ : DD} (h : w_M_splits_j240 K7 K169 post σ a1 a3 a4 a5 t1 t2) : gW X w (lim0 w) 6 (QV X w post) σ 240 [(0, .ref (wAd w 0)), (1, .int a1), (3, .int a3), (4, .int a4), (5, .int a5)] [.int t2, .int t1, .ref (wAd w 17)] := by
  unfold w_M_splits_j240 at h
  obtain ⟨q3, h⟩ := h
  refine r_iast C 17 (hL 17 _ rfl) q3 (dk_at dk_M_splits_3 4 rfl) (r_sg (fun σ1 e2 => ?_))
  replace h := h σ1 e2
  refine r_iinc C 4 rfl rfl [(5, .int (a5 + 1)), (0, .ref (wAd w 0)), (1, .int a1), (3, .int a3), (4, .int a4)] rfl rfl (dk_at dk_M_splits_3 5 rfl) ?_
  refine r_goto C 169 rfl (dk_at dk_M_splits_3 6 rfl) ?_
  refine r_lv [1, 2, 3, 4, 0] rfl ?_
  exact k169 _ _ h
set_option maxRecDepth 20000 in
theorem t_M_splits_j247 {X : CT} {w : WO} (C : CF X w (lim0 w) 6 cX11_splits RX11 none (.code yX11_splits cX11_splits 6 none) (rmK 1 27)) (hL : LyM w) {K7 : DD → Int32 → Prop} {post : DD → Prop} {a1 : Int32} {a4 : Int32} (k7 : ∀ (σ : DD) (a2 : Int32), K7 σ a2 → gW X w (lim0 w) 6 (QV X w post) σ 7 [(0, .ref (wAd w 0)), (1, .int a1), (2, .int a2)] []) {σ : DD} (h : w_M_splits_j247 K7 post σ a1 a4) : gW X w (lim0 w) 6 (QV X w post) σ 247 [(0, .ref (wAd w 0)), (1, .int a1), (4, .int a4)] [] := by
  unfold w_M_splits_j247 at h
  refine r_aload_n C 0 rfl (dk_at dk_M_splits_3 7 rfl) ?_
  refine r_dup C rfl (dk_at dk_M_splits_3 8 rfl) ?_
  refine r_getI C fl_M_146 0 (hL 0 _ rfl) rfl (dk_at dk_M_splits_3 9 rfl) ?_
  refine r_iconst C 1 (dk_at dk_M_splits_3 10 rfl) ?_
  refine r_iadd C (dk_at dk_M_splits_3 11 rfl) ?_
  refine r_putI C fl_M_146 0 (hL 0 _ rfl) rfl (dk_at dk_M_splits_3 12 rfl) (r_sg (fun σ4 e5 => ?_))
  replace h := h σ4 e5
  refine r_iload C 2 rfl (dk_at dk_M_splits_3 13 rfl) ?_
  refine r_istore_n C [(2, .int a4), (0, .ref (wAd w 0)), (1, .int a1), (4, .int a4)] rfl rfl (dk_at dk_M_splits_3 14 rfl) ?_
  refine r_goto C 7 rfl (dk_at dk_M_splits_3 15 rfl) ?_
  refine r_lv [1, 2, 0] rfl ?_
  exact k7 _ _ h
set_option maxRecDepth 20000 in
theorem t_M_splits_b169 {X : CT} {w : WO} (C : CF X w (lim0 w) 6 cX11_splits RX11 none (.code yX11_splits cX11_splits 6 none) (rmK 1 27)) (hL : LyM w) {K7 : DD → Int32 → Prop} {a1 : Int32} {a3 : Int32} {a4 : Int32} {K169 : DD → Int32 → Prop} {post : DD → Prop} (k7 : ∀ (σ : DD) (a2 : Int32), K7 σ a2 → gW X w (lim0 w) 6 (QV X w post) σ 7 [(0, .ref (wAd w 0)), (1, .int a1), (2, .int a2)] []) (k169 : ∀ (σ : DD) (a5 : Int32), K169 σ a5 → gW X w (lim0 w) 6 (QV X w post) σ 169 [(0, .ref (wAd w 0)), (1, .int a1), (3, .int a3), (4, .int a4), (5, .int a5)] []) {σ : DD} {a5 : Int32} (h : w_M_splits_b169 K7 a1 a3 a4 K169 post σ a5) : gW X w (lim0 w) 6 (QV X w post) σ 169 [(0, .ref (wAd w 0)), (1, .int a1), (3, .int a3), (4, .int a4), (5, .int a5)] [] := by
  unfold w_M_splits_b169 at h
  refine r_iload C 4 rfl (dk_at dk_M_splits_2 7 rfl) ?_
  refine r_iload C 3 rfl (dk_at dk_M_splits_2 8 rfl) ?_
  refine r_icmp_ge C 247 rfl (dk_at dk_M_splits_2 9 rfl) (fun c6 => ?_) (fun c6 => ?_)
  · replace h := h.1 c6
    refine r_lv [0, 1, 3] rfl ?_
    exact t_M_splits_j247 C hL k7 h
  · replace h := h.2 c6
    refine r_iload_n C 2 rfl (dk_at dk_M_splits_2 10 rfl) ?_
    refine r_csI C cs_M_152 [.int a3] (m_M_isDigit hL h) (rmK_ok rfl rfl) rfl rfl (Nat.le_of_ble_eq_true rfl) (dk_at dk_M_splits_2 11 rfl) (fun r7 σ8 h => ?_)
    refine r_if_eq C 247 rfl (dk_at dk_M_splits_2 12 rfl) (fun c9 => ?_) (fun c9 => ?_)
    · replace h := h.1 c9
      refine r_lv [0, 1, 3] rfl ?_
      exact t_M_splits_j247 C hL k7 h
    · replace h := h.2 c9
      refine r_aload_n C 0 rfl (dk_at dk_M_splits_2 13 rfl) ?_
      refine r_getR C fl_M_46 0 (hL 0 _ rfl) rfl (dk_at dk_M_splits_2 14 rfl) ?_
      refine r_aload_n C 0 rfl (dk_at dk_M_splits_2 15 rfl) ?_
      refine r_getI C fl_M_146 0 (hL 0 _ rfl) rfl (dk_at dk_M_splits_2 16 rfl) ?_
      refine r_aload_n C 0 rfl (dk_at dk_M_splits_2 17 rfl) ?_
      refine r_getR C fl_M_46 0 (hL 0 _ rfl) rfl (dk_at dk_M_splits_2 18 rfl) ?_
      refine r_aload_n C 0 rfl (dk_at dk_M_splits_2 19 rfl) ?_
      refine r_getI C fl_M_146 0 (hL 0 _ rfl) rfl (dk_at dk_M_splits_2 20 rfl) ?_
      obtain ⟨q10, h⟩ := h
      refine r_iald C 17 (hL 17 _ rfl) q10 (dk_at dk_M_splits_2 21 rfl) ?_
      refine r_ldc C tw_1464 (dk_at dk_M_splits_2 22 rfl) ?_
      refine r_icmp_le C 217 rfl (dk_at dk_M_splits_2 23 rfl) (fun c11 => ?_) (fun c11 => ?_)
      · replace h := h.1 c11
        refine r_bipush C 10 (dk_at dk_M_splits_2 30 rfl) ?_
        refine r_aload_n C 0 rfl (dk_at dk_M_splits_2 31 rfl) ?_
        refine r_getR C fl_M_46 0 (hL 0 _ rfl) rfl (dk_at dk_M_splits_2 32 rfl) ?_
        refine r_aload_n C 0 rfl (dk_at dk_M_splits_2 33 rfl) ?_
        refine r_getI C fl_M_146 0 (hL 0 _ rfl) rfl (dk_at dk_M_splits_2 34 rfl) ?_
        obtain ⟨q12, h⟩ := h
        refine r_iald C 17 (hL 17 _ rfl) q12 (dk_at dk_M_splits_2 35 rfl) ?_
        refine r_imul C (dk_at dk_M_splits_2 36 rfl) ?_
        refine r_aload_n C 0 rfl (dk_at dk_M_splits_2 37 rfl) ?_
        refine r_getR C fl_M_34 0 (hL 0 _ rfl) rfl (dk_at dk_M_splits_2 38 rfl) ?_
        refine r_iload C 4 rfl (dk_at dk_M_splits_2 39 rfl) ?_
        obtain ⟨q13, h⟩ := h
        refine r_bald C 12 (hL 12 _ rfl) q13 (dk_at dk_M_splits_3 0 rfl) ?_
        refine r_iadd C (dk_at dk_M_splits_3 1 rfl) ?_
        refine r_bipush C 48 (dk_at dk_M_splits_3 2 rfl) ?_
        refine r_isub C (dk_at dk_M_splits_3 3 rfl) ?_
        refine r_lv [0, 1, 2, 3, 4] rfl ?_
        exact t_M_splits_j240 C hL k7 k169 h
      · replace h := h.2 c11
        refine r_aload_n C 0 rfl (dk_at dk_M_splits_2 24 rfl) ?_
        refine r_getR C fl_M_46 0 (hL 0 _ rfl) rfl (dk_at dk_M_splits_2 25 rfl) ?_
        refine r_aload_n C 0 rfl (dk_at dk_M_splits_2 26 rfl) ?_
        refine r_getI C fl_M_146 0 (hL 0 _ rfl) rfl (dk_at dk_M_splits_2 27 rfl) ?_
        obtain ⟨q14, h⟩ := h
        refine r_iald C 17 (hL 17 _ rfl) q14 (dk_at dk_M_splits_2 28 rfl) ?_
        refine r_goto C 240 rfl (dk_at dk_M_splits_2 29 rfl) ?_
        refine r_lv [0, 1, 2, 3, 4] rfl ?_
        exact t_M_splits_j240 C hL k7 k169 h
set_option maxRecDepth 20000 in
theorem t_M_splits_l169 {X : CT} {w : WO} (C : CF X w (lim0 w) 6 cX11_splits RX11 none (.code yX11_splits cX11_splits 6 none) (rmK 1 27)) (hL : LyM w) {K7 : DD → Int32 → Prop} {a1 : Int32} {a3 : Int32} {a4 : Int32} {post : DD → Prop} (k7 : ∀ (σ : DD) (a2 : Int32), K7 σ a2 → gW X w (lim0 w) 6 (QV X w post) σ 7 [(0, .ref (wAd w 0)), (1, .int a1), (2, .int a2)] []) {σ : DD} {a5 : Int32} (h : w_M_splits_l169 K7 post σ a1 a3 a4 a5) : gW X w (lim0 w) 6 (QV X w post) σ 169 [(0, .ref (wAd w 0)), (1, .int a1), (3, .int a3), (4, .int a4), (5, .int a5)] [] :=
  LoopW (G := fun x : DD × Int32 => gW X w (lim0 w) 6 (QV X w post) x.1 169 [(0, .ref (wAd w 0)), (1, .int a1), (3, .int a3), (4, .int a4), (5, .int x.2)] []) (fun K x hK hF => t_M_splits_b169 C hL k7 (fun σ a5 q => hK (σ, a5) q) hF) h
set_option maxRecDepth 20000 in
theorem t_M_splits_j165 {X : CT} {w : WO} (C : CF X w (lim0 w) 6 cX11_splits RX11 none (.code yX11_splits cX11_splits 6 none) (rmK 1 27)) (hL : LyM w) {K7 : DD → Int32 → Prop} {post : DD → Prop} {a1 : Int32} {a2 : Int32} {a3 : Int32} {a4 : Int32} {t1 : Int32} {t2 : Int32} (k7 : ∀ (σ : DD) (a2 : Int32), K7 σ a2 → gW X w (lim0 w) 6 (QV X w post) σ 7 [(0, .ref (wAd w 0)), (1, .int a1), (2, .int a2)] []) {σ : DD} (h : w_M_splits_j165 K7 post σ a1 a2 a3 a4 t1 t2) : gW X w (lim0 w) 6 (QV X w post) σ 165 [(0, .ref (wAd w 0)), (1, .int a1), (2, .int a2), (3, .int a3), (4, .int a4)] [.int t2, .int t1, .ref (wAd w 16)] := by
  unfold w_M_splits_j165 at h
  obtain ⟨q17, h⟩ := h
  refine r_iast C 16 (hL 16 _ rfl) q17 (dk_at dk_M_splits_2 4 rfl) (r_sg (fun σ15 e16 => ?_))
  replace h := h σ15 e16
  refine r_iload_n C 2 rfl (dk_at dk_M_splits_2 5 rfl) ?_
  refine r_istore C [(5, .int a2), (0, .ref (wAd w 0)), (1, .int a1), (2, .int a2), (3, .int a3), (4, .int a4)] rfl rfl (dk_at dk_M_splits_2 6 rfl) ?_
  refine r_lv [1, 2, 4, 5, 0] rfl ?_
  exact t_M_splits_l169 C hL k7 h
set_option maxRecDepth 20000 in
theorem t_M_splits_j100 {X : CT} {w : WO} (C : CF X w (lim0 w) 6 cX11_splits RX11 none (.code yX11_splits cX11_splits 6 none) (rmK 1 27)) (hL : LyM w) {K7 : DD → Int32 → Prop} {post : DD → Prop} {a1 : Int32} {a2 : Int32} {a3 : Int32} {a4 : Int32} (k7 : ∀ (σ : DD) (a2 : Int32), K7 σ a2 → gW X w (lim0 w) 6 (QV X w post) σ 7 [(0, .ref (wAd w 0)), (1, .int a1), (2, .int a2)] []) {σ : DD} (h : w_M_splits_j100 K7 post σ a1 a2 a3 a4) : gW X w (lim0 w) 6 (QV X w post) σ 100 [(0, .ref (wAd w 0)), (1, .int a1), (2, .int a2), (3, .int a3), (4, .int a4)] [] := by
  unfold w_M_splits_j100 at h
  refine r_aload_n C 0 rfl (dk_at dk_M_splits_1 10 rfl) ?_
  refine r_getR C fl_M_49 0 (hL 0 _ rfl) rfl (dk_at dk_M_splits_1 11 rfl) ?_
  refine r_aload_n C 0 rfl (dk_at dk_M_splits_1 12 rfl) ?_
  refine r_getI C fl_M_146 0 (hL 0 _ rfl) rfl (dk_at dk_M_splits_1 13 rfl) ?_
  refine r_iload_n C 2 rfl (dk_at dk_M_splits_1 14 rfl) ?_
  obtain ⟨q20, h⟩ := h
  refine r_iast C 18 (hL 18 _ rfl) q20 (dk_at dk_M_splits_1 15 rfl) (r_sg (fun σ18 e19 => ?_))
  replace h := h σ18 e19
  refine r_aload_n C 0 rfl (dk_at dk_M_splits_1 16 rfl) ?_
  refine r_getR C fl_M_46 0 (hL 0 _ rfl) rfl (dk_at dk_M_splits_1 17 rfl) ?_
  refine r_aload_n C 0 rfl (dk_at dk_M_splits_1 18 rfl) ?_
  refine r_getI C fl_M_146 0 (hL 0 _ rfl) rfl (dk_at dk_M_splits_1 19 rfl) ?_
  refine r_iconst C 0 (dk_at dk_M_splits_1 20 rfl) ?_
  obtain ⟨q23, h⟩ := h
  refine r_iast C 17 (hL 17 _ rfl) q23 (dk_at dk_M_splits_1 21 rfl) (r_sg (fun σ21 e22 => ?_))
  replace h := h σ21 e22
  refine r_aload_n C 0 rfl (dk_at dk_M_splits_1 22 rfl) ?_
  refine r_getR C fl_M_43 0 (hL 0 _ rfl) rfl (dk_at dk_M_splits_1 23 rfl) ?_
  refine r_aload_n C 0 rfl (dk_at dk_M_splits_1 24 rfl) ?_
  refine r_getI C fl_M_146 0 (hL 0 _ rfl) rfl (dk_at dk_M_splits_1 25 rfl) ?_
  refine r_iload_n C 3 rfl (dk_at dk_M_splits_1 26 rfl) ?_
  refine r_csI C cs_M_149 [.int a3] (m_M_isSmall hL h) (rmK_ok rfl rfl) rfl rfl (Nat.le_of_ble_eq_true rfl) (dk_at dk_M_splits_1 27 rfl) (fun r24 σ25 h => ?_)
  refine r_if_eq C 145 rfl (dk_at dk_M_splits_1 28 rfl) (fun c26 => ?_) (fun c26 => ?_)
  · replace h := h.1 c26
    refine r_iload_n C 3 rfl (dk_at dk_M_splits_1 34 rfl) ?_
    refine r_csI C cs_M_152 [.int a3] (m_M_isDigit hL h) (rmK_ok rfl rfl) rfl rfl (Nat.le_of_ble_eq_true rfl) (dk_at dk_M_splits_1 35 rfl) (fun r27 σ28 h => ?_)
    refine r_if_eq C 157 rfl (dk_at dk_M_splits_1 36 rfl) (fun c29 => ?_) (fun c29 => ?_)
    · replace h := h.1 c29
      refine r_bipush C 100 (dk_at dk_M_splits_1 39 rfl) ?_
      refine r_iload_n C 3 rfl (dk_at dk_M_splits_2 0 rfl) ?_
      refine r_sipush C 255 (dk_at dk_M_splits_2 1 rfl) ?_
      refine r_iand C (dk_at dk_M_splits_2 2 rfl) ?_
      refine r_iadd C (dk_at dk_M_splits_2 3 rfl) ?_
      refine r_lv [0, 1, 2, 3, 4] rfl ?_
      exact t_M_splits_j165 C hL k7 h
    · replace h := h.2 c29
      refine r_bipush C 50 (dk_at dk_M_splits_1 37 rfl) ?_
      refine r_goto C 165 rfl (dk_at dk_M_splits_1 38 rfl) ?_
      refine r_lv [0, 1, 2, 3, 4] rfl ?_
      exact t_M_splits_j165 C hL k7 h
  · replace h := h.2 c26
    refine r_aload_n C 0 rfl (dk_at dk_M_splits_1 29 rfl) ?_
    refine r_iload_n C 2 rfl (dk_at dk_M_splits_1 30 rfl) ?_
    refine r_iload C 4 rfl (dk_at dk_M_splits_1 31 rfl) ?_
    refine r_cvI C cl_M_155 0 (hL 0 _ rfl) [.int a2, .int a4] (m_M_wordOf hL h) (rmK_ok rfl rfl) rfl rfl (Nat.le_of_ble_eq_true rfl) (dk_at dk_M_splits_1 32 rfl) (fun r30 σ31 h => ?_)
    refine r_goto C 165 rfl (dk_at dk_M_splits_1 33 rfl) ?_
    refine r_lv [0, 1, 2, 3, 4] rfl ?_
    exact t_M_splits_j165 C hL k7 h
set_option maxRecDepth 20000 in
theorem t_M_splits_b75 {X : CT} {w : WO} (C : CF X w (lim0 w) 6 cX11_splits RX11 none (.code yX11_splits cX11_splits 6 none) (rmK 1 27)) (hL : LyM w) {K7 : DD → Int32 → Prop} {a1 : Int32} {a2 : Int32} {a3 : Int32} {K75 : DD → Int32 → Prop} {post : DD → Prop} (k7 : ∀ (σ : DD) (a2 : Int32), K7 σ a2 → gW X w (lim0 w) 6 (QV X w post) σ 7 [(0, .ref (wAd w 0)), (1, .int a1), (2, .int a2)] []) (k75 : ∀ (σ : DD) (a4 : Int32), K75 σ a4 → gW X w (lim0 w) 6 (QV X w post) σ 75 [(0, .ref (wAd w 0)), (1, .int a1), (2, .int a2), (3, .int a3), (4, .int a4)] []) {σ : DD} {a4 : Int32} (h : w_M_splits_b75 K7 a1 a2 a3 K75 post σ a4) : gW X w (lim0 w) 6 (QV X w post) σ 75 [(0, .ref (wAd w 0)), (1, .int a1), (2, .int a2), (3, .int a3), (4, .int a4)] [] := by
  unfold w_M_splits_b75 at h
  refine r_iload C 4 rfl (dk_at dk_M_splits_0 39 rfl) ?_
  refine r_iload_n C 1 rfl (dk_at dk_M_splits_1 0 rfl) ?_
  refine r_icmp_ge C 100 rfl (dk_at dk_M_splits_1 1 rfl) (fun c32 => ?_) (fun c32 => ?_)
  · replace h := h.1 c32
    refine r_lv [0, 1, 2, 3, 4] rfl ?_
    exact t_M_splits_j100 C hL k7 h
  · replace h := h.2 c32
    refine r_aload_n C 0 rfl (dk_at dk_M_splits_1 2 rfl) ?_
    refine r_getR C fl_M_34 0 (hL 0 _ rfl) rfl (dk_at dk_M_splits_1 3 rfl) ?_
    refine r_iload C 4 rfl (dk_at dk_M_splits_1 4 rfl) ?_
    obtain ⟨q33, h⟩ := h
    refine r_bald C 12 (hL 12 _ rfl) q33 (dk_at dk_M_splits_1 5 rfl) ?_
    refine r_csI C cs_M_152 [.int (gI σ 12 a4.toNatClampNeg)] (m_M_isDigit hL h) (rmK_ok rfl rfl) rfl rfl (Nat.le_of_ble_eq_true rfl) (dk_at dk_M_splits_1 6 rfl) (fun r34 σ35 h => ?_)
    refine r_if_eq C 100 rfl (dk_at dk_M_splits_1 7 rfl) (fun c36 => ?_) (fun c36 => ?_)
    · replace h := h.1 c36
      refine r_lv [0, 1, 2, 3, 4] rfl ?_
      exact t_M_splits_j100 C hL k7 h
    · replace h := h.2 c36
      refine r_iinc C 4 rfl rfl [(4, .int (a4 + 1)), (0, .ref (wAd w 0)), (1, .int a1), (2, .int a2), (3, .int a3)] rfl rfl (dk_at dk_M_splits_1 8 rfl) ?_
      refine r_goto C 75 rfl (dk_at dk_M_splits_1 9 rfl) ?_
      refine r_lv [1, 2, 3, 4, 0] rfl ?_
      exact k75 _ _ h
set_option maxRecDepth 20000 in
theorem t_M_splits_l75 {X : CT} {w : WO} (C : CF X w (lim0 w) 6 cX11_splits RX11 none (.code yX11_splits cX11_splits 6 none) (rmK 1 27)) (hL : LyM w) {K7 : DD → Int32 → Prop} {a1 : Int32} {a2 : Int32} {a3 : Int32} {post : DD → Prop} (k7 : ∀ (σ : DD) (a2 : Int32), K7 σ a2 → gW X w (lim0 w) 6 (QV X w post) σ 7 [(0, .ref (wAd w 0)), (1, .int a1), (2, .int a2)] []) {σ : DD} {a4 : Int32} (h : w_M_splits_l75 K7 post σ a1 a2 a3 a4) : gW X w (lim0 w) 6 (QV X w post) σ 75 [(0, .ref (wAd w 0)), (1, .int a1), (2, .int a2), (3, .int a3), (4, .int a4)] [] :=
  LoopW (G := fun x : DD × Int32 => gW X w (lim0 w) 6 (QV X w post) x.1 75 [(0, .ref (wAd w 0)), (1, .int a1), (2, .int a2), (3, .int a3), (4, .int x.2)] []) (fun K x hK hF => t_M_splits_b75 C hL k7 (fun σ a4 q => hK (σ, a4) q) hF) h
set_option maxRecDepth 20000 in
theorem t_M_splits_j68 {X : CT} {w : WO} (C : CF X w (lim0 w) 6 cX11_splits RX11 none (.code yX11_splits cX11_splits 6 none) (rmK 1 27)) (hL : LyM w) {K7 : DD → Int32 → Prop} {post : DD → Prop} {a1 : Int32} {a2 : Int32} {a3 : Int32} {a4 : Int32} (k7 : ∀ (σ : DD) (a2 : Int32), K7 σ a2 → gW X w (lim0 w) 6 (QV X w post) σ 7 [(0, .ref (wAd w 0)), (1, .int a1), (2, .int a2)] []) {σ : DD} (h : w_M_splits_j68 K7 post σ a1 a2 a3 a4) : gW X w (lim0 w) 6 (QV X w post) σ 68 [(0, .ref (wAd w 0)), (1, .int a1), (2, .int a2), (3, .int a3), (4, .int a4)] [] := by
  unfold w_M_splits_j68 at h
  refine r_iload_n C 3 rfl (dk_at dk_M_splits_0 36 rfl) ?_
  refine r_csI C cs_M_152 [.int a3] (m_M_isDigit hL h) (rmK_ok rfl rfl) rfl rfl (Nat.le_of_ble_eq_true rfl) (dk_at dk_M_splits_0 37 rfl) (fun r37 σ38 h => ?_)
  refine r_if_eq C 100 rfl (dk_at dk_M_splits_0 38 rfl) (fun c39 => ?_) (fun c39 => ?_)
  · replace h := h.1 c39
    refine r_lv [0, 1, 2, 3, 4] rfl ?_
    exact t_M_splits_j100 C hL k7 h
  · replace h := h.2 c39
    refine r_lv [0, 1, 2, 3, 4] rfl ?_
    exact t_M_splits_l75 C hL k7 h
set_option maxRecDepth 20000 in
theorem t_M_splits_b43 {X : CT} {w : WO} (C : CF X w (lim0 w) 6 cX11_splits RX11 none (.code yX11_splits cX11_splits 6 none) (rmK 1 27)) (hL : LyM w) {K7 : DD → Int32 → Prop} {a1 : Int32} {a2 : Int32} {a3 : Int32} {K43 : DD → Int32 → Prop} {post : DD → Prop} (k7 : ∀ (σ : DD) (a2 : Int32), K7 σ a2 → gW X w (lim0 w) 6 (QV X w post) σ 7 [(0, .ref (wAd w 0)), (1, .int a1), (2, .int a2)] []) (k43 : ∀ (σ : DD) (a4 : Int32), K43 σ a4 → gW X w (lim0 w) 6 (QV X w post) σ 43 [(0, .ref (wAd w 0)), (1, .int a1), (2, .int a2), (3, .int a3), (4, .int a4)] []) {σ : DD} {a4 : Int32} (h : w_M_splits_b43 K7 a1 a2 a3 K43 post σ a4) : gW X w (lim0 w) 6 (QV X w post) σ 43 [(0, .ref (wAd w 0)), (1, .int a1), (2, .int a2), (3, .int a3), (4, .int a4)] [] := by
  unfold w_M_splits_b43 at h
  refine r_iload C 4 rfl (dk_at dk_M_splits_0 25 rfl) ?_
  refine r_iload_n C 1 rfl (dk_at dk_M_splits_0 26 rfl) ?_
  refine r_icmp_ge C 68 rfl (dk_at dk_M_splits_0 27 rfl) (fun c40 => ?_) (fun c40 => ?_)
  · replace h := h.1 c40
    refine r_lv [0, 1, 2, 3, 4] rfl ?_
    exact t_M_splits_j68 C hL k7 h
  · replace h := h.2 c40
    refine r_aload_n C 0 rfl (dk_at dk_M_splits_0 28 rfl) ?_
    refine r_getR C fl_M_34 0 (hL 0 _ rfl) rfl (dk_at dk_M_splits_0 29 rfl) ?_
    refine r_iload C 4 rfl (dk_at dk_M_splits_0 30 rfl) ?_
    obtain ⟨q41, h⟩ := h
    refine r_bald C 12 (hL 12 _ rfl) q41 (dk_at dk_M_splits_0 31 rfl) ?_
    refine r_csI C cs_M_149 [.int (gI σ 12 a4.toNatClampNeg)] (m_M_isSmall hL h) (rmK_ok rfl rfl) rfl rfl (Nat.le_of_ble_eq_true rfl) (dk_at dk_M_splits_0 32 rfl) (fun r42 σ43 h => ?_)
    refine r_if_eq C 68 rfl (dk_at dk_M_splits_0 33 rfl) (fun c44 => ?_) (fun c44 => ?_)
    · replace h := h.1 c44
      refine r_lv [0, 1, 2, 3, 4] rfl ?_
      exact t_M_splits_j68 C hL k7 h
    · replace h := h.2 c44
      refine r_iinc C 4 rfl rfl [(4, .int (a4 + 1)), (0, .ref (wAd w 0)), (1, .int a1), (2, .int a2), (3, .int a3)] rfl rfl (dk_at dk_M_splits_0 34 rfl) ?_
      refine r_goto C 43 rfl (dk_at dk_M_splits_0 35 rfl) ?_
      refine r_lv [1, 2, 3, 4, 0] rfl ?_
      exact k43 _ _ h
set_option maxRecDepth 20000 in
theorem t_M_splits_l43 {X : CT} {w : WO} (C : CF X w (lim0 w) 6 cX11_splits RX11 none (.code yX11_splits cX11_splits 6 none) (rmK 1 27)) (hL : LyM w) {K7 : DD → Int32 → Prop} {a1 : Int32} {a2 : Int32} {a3 : Int32} {post : DD → Prop} (k7 : ∀ (σ : DD) (a2 : Int32), K7 σ a2 → gW X w (lim0 w) 6 (QV X w post) σ 7 [(0, .ref (wAd w 0)), (1, .int a1), (2, .int a2)] []) {σ : DD} {a4 : Int32} (h : w_M_splits_l43 K7 post σ a1 a2 a3 a4) : gW X w (lim0 w) 6 (QV X w post) σ 43 [(0, .ref (wAd w 0)), (1, .int a1), (2, .int a2), (3, .int a3), (4, .int a4)] [] :=
  LoopW (G := fun x : DD × Int32 => gW X w (lim0 w) 6 (QV X w post) x.1 43 [(0, .ref (wAd w 0)), (1, .int a1), (2, .int a2), (3, .int a3), (4, .int x.2)] []) (fun K x hK hF => t_M_splits_b43 C hL k7 (fun σ a4 q => hK (σ, a4) q) hF) h
set_option maxRecDepth 20000 in
theorem t_M_splits_b7 {X : CT} {w : WO} (C : CF X w (lim0 w) 6 cX11_splits RX11 none (.code yX11_splits cX11_splits 6 none) (rmK 1 27)) (hL : LyM w) {a1 : Int32} {K7 : DD → Int32 → Prop} {post : DD → Prop} (k7 : ∀ (σ : DD) (a2 : Int32), K7 σ a2 → gW X w (lim0 w) 6 (QV X w post) σ 7 [(0, .ref (wAd w 0)), (1, .int a1), (2, .int a2)] []) {σ : DD} {a2 : Int32} (h : w_M_splits_b7 a1 K7 post σ a2) : gW X w (lim0 w) 6 (QV X w post) σ 7 [(0, .ref (wAd w 0)), (1, .int a1), (2, .int a2)] [] := by
  unfold w_M_splits_b7 at h
  refine r_iload_n C 2 rfl (dk_at dk_M_splits_0 5 rfl) ?_
  refine r_iload_n C 1 rfl (dk_at dk_M_splits_0 6 rfl) ?_
  refine r_icmp_ge C 263 rfl (dk_at dk_M_splits_0 7 rfl) (fun c45 => ?_) (fun c45 => ?_)
  · replace h := h.1 c45
    refine r_aload_n C 0 rfl (dk_at dk_M_splits_3 16 rfl) ?_
    refine r_getR C fl_M_49 0 (hL 0 _ rfl) rfl (dk_at dk_M_splits_3 17 rfl) ?_
    refine r_aload_n C 0 rfl (dk_at dk_M_splits_3 18 rfl) ?_
    refine r_getI C fl_M_146 0 (hL 0 _ rfl) rfl (dk_at dk_M_splits_3 19 rfl) ?_
    refine r_iload_n C 1 rfl (dk_at dk_M_splits_3 20 rfl) ?_
    obtain ⟨q48, h⟩ := h
    refine r_iast C 18 (hL 18 _ rfl) q48 (dk_at dk_M_splits_3 21 rfl) (r_sg (fun σ46 e47 => ?_))
    replace h := h σ46 e47
    refine r_aload_n C 0 rfl (dk_at dk_M_splits_3 22 rfl) ?_
    refine r_getR C fl_M_43 0 (hL 0 _ rfl) rfl (dk_at dk_M_splits_3 23 rfl) ?_
    refine r_aload_n C 0 rfl (dk_at dk_M_splits_3 24 rfl) ?_
    refine r_getI C fl_M_146 0 (hL 0 _ rfl) rfl (dk_at dk_M_splits_3 25 rfl) ?_
    refine r_iconst C 0 (dk_at dk_M_splits_3 26 rfl) ?_
    obtain ⟨q51, h⟩ := h
    refine r_iast C 16 (hL 16 _ rfl) q51 (dk_at dk_M_splits_3 27 rfl) (r_sg (fun σ49 e50 => ?_))
    replace h := h σ49 e50
    refine r_aload_n C 0 rfl (dk_at dk_M_splits_3 28 rfl) ?_
    refine r_getR C fl_M_46 0 (hL 0 _ rfl) rfl (dk_at dk_M_splits_3 29 rfl) ?_
    refine r_aload_n C 0 rfl (dk_at dk_M_splits_3 30 rfl) ?_
    refine r_getI C fl_M_146 0 (hL 0 _ rfl) rfl (dk_at dk_M_splits_3 31 rfl) ?_
    refine r_iconst C 0 (dk_at dk_M_splits_3 32 rfl) ?_
    obtain ⟨q54, h⟩ := h
    refine r_iast C 17 (hL 17 _ rfl) q54 (dk_at dk_M_splits_3 33 rfl) (r_sg (fun σ52 e53 => ?_))
    replace h := h σ52 e53
    exact r_vret C h (dk_at dk_M_splits_3 34 rfl)
  · replace h := h.2 c45
    refine r_aload_n C 0 rfl (dk_at dk_M_splits_0 8 rfl) ?_
    refine r_getR C fl_M_34 0 (hL 0 _ rfl) rfl (dk_at dk_M_splits_0 9 rfl) ?_
    refine r_iload_n C 2 rfl (dk_at dk_M_splits_0 10 rfl) ?_
    obtain ⟨q55, h⟩ := h
    refine r_bald C 12 (hL 12 _ rfl) q55 (dk_at dk_M_splits_0 11 rfl) ?_
    refine r_topi (fun v56 e57 => ?_)
    replace h := h v56 e57
    refine r_istore_n C [(3, .int v56), (0, .ref (wAd w 0)), (1, .int a1), (2, .int a2)] rfl rfl (dk_at dk_M_splits_0 12 rfl) ?_
    refine r_iload_n C 0 rfl (dk_at dk_M_splits_0 13 rfl) ?_
    refine r_bipush C 32 (dk_at dk_M_splits_0 14 rfl) ?_
    refine r_icmp_ne C 31 rfl (dk_at dk_M_splits_0 15 rfl) (fun c58 => ?_) (fun c58 => ?_)
    · replace h := h.1 c58
      refine r_iload_n C 3 rfl (dk_at dk_M_splits_0 18 rfl) ?_
      refine r_iconst C 1 (dk_at dk_M_splits_0 19 rfl) ?_
      refine r_iadd C (dk_at dk_M_splits_0 20 rfl) ?_
      refine r_topi (fun v59 e60 => ?_)
      replace h := h v59 e60
      refine r_istore C [(4, .int v59), (3, .int v56), (0, .ref (wAd w 0)), (1, .int a1), (2, .int a2)] rfl rfl (dk_at dk_M_splits_0 21 rfl) ?_
      refine r_iload_n C 1 rfl (dk_at dk_M_splits_0 22 rfl) ?_
      refine r_csI C cs_M_149 [.int v56] (m_M_isSmall hL h) (rmK_ok rfl rfl) rfl rfl (Nat.le_of_ble_eq_true rfl) (dk_at dk_M_splits_0 23 rfl) (fun r61 σ62 h => ?_)
      refine r_if_eq C 68 rfl (dk_at dk_M_splits_0 24 rfl) (fun c63 => ?_) (fun c63 => ?_)
      · replace h := h.1 c63
        refine r_lv [2, 3, 4, 1, 0] rfl ?_
        exact t_M_splits_j68 C hL k7 h
      · replace h := h.2 c63
        refine r_lv [2, 3, 4, 1, 0] rfl ?_
        exact t_M_splits_l43 C hL k7 h
    · replace h := h.2 c58
      refine r_iinc C 3 rfl rfl [(2, .int (a2 + 1)), (3, .int v56), (0, .ref (wAd w 0)), (1, .int a1)] rfl rfl (dk_at dk_M_splits_0 16 rfl) ?_
      refine r_goto C 7 rfl (dk_at dk_M_splits_0 17 rfl) ?_
      refine r_lv [2, 3, 0] rfl ?_
      exact k7 _ _ h
set_option maxRecDepth 20000 in
theorem t_M_splits_l7 {X : CT} {w : WO} (C : CF X w (lim0 w) 6 cX11_splits RX11 none (.code yX11_splits cX11_splits 6 none) (rmK 1 27)) (hL : LyM w) {a1 : Int32} {post : DD → Prop} {σ : DD} {a2 : Int32} (h : w_M_splits_l7 post σ a1 a2) : gW X w (lim0 w) 6 (QV X w post) σ 7 [(0, .ref (wAd w 0)), (1, .int a1), (2, .int a2)] [] :=
  LoopW (G := fun x : DD × Int32 => gW X w (lim0 w) 6 (QV X w post) x.1 7 [(0, .ref (wAd w 0)), (1, .int a1), (2, .int x.2)] []) (fun K x hK hF => t_M_splits_b7 C hL (fun σ a2 q => hK (σ, a2) q) hF) h
set_option maxRecDepth 20000 in
theorem m_M_splits {l : Launch} {w : WO} (hL : LyM w) {σ : DD} {a1 : Int32} {post : DD → Prop} (h : w_M_splits σ a1 post) : MV l w yX11_splits cX11_splits 6 (rmK 1 27) σ [.ref (wAd w 0), .int a1] post :=
  met_head (rt := none) (by decide) rfl (fun X hX C => by
  subst hX
  unfold w_M_splits at h
  show gW X w (lim0 w) 6 (QV X w post) σ 0 [(0, .ref (wAd w 0)), (1, .int a1)] []
  refine r_aload_n C 0 rfl (dk_at dk_M_splits_0 0 rfl) ?_
  refine r_iconst C 0 (dk_at dk_M_splits_0 1 rfl) ?_
  refine r_putI C fl_M_146 0 (hL 0 _ rfl) rfl (dk_at dk_M_splits_0 2 rfl) (r_sg (fun σ64 e65 => ?_))
  replace h := h σ64 e65
  refine r_iconst C 0 (dk_at dk_M_splits_0 3 rfl) ?_
  refine r_istore_n C [(2, .int 0), (0, .ref (wAd w 0)), (1, .int a1)] rfl rfl (dk_at dk_M_splits_0 4 rfl) ?_
  refine r_lv [1, 2, 0] rfl ?_
  exact t_M_splits_l7 C hL h
  )
set_option maxRecDepth 20000 in
theorem m_M_isFine {l : Launch} {w : WO} (hL : LyM w) {σ : DD} {post : Int32 → DD → Prop} (h : w_M_isFine σ post) : MI l w yX11_isFine cX11_isFine 1 .boolean (rmK 0 0) σ [.ref (wAd w 0)] post :=
  met_head (rt := (some .boolean)) (by decide) rfl (fun X hX C => by
  subst hX
  unfold w_M_isFine at h
  show gW X w (lim0 w) 1 (QI X w post) σ 0 [(0, .ref (wAd w 0))] []
  refine r_aload_n C 0 rfl (dk_at dk_M_isFine_0 0 rfl) ?_
  refine r_getI C fl_M_159 0 (hL 0 _ rfl) rfl (dk_at dk_M_isFine_0 1 rfl) ?_
  refine r_iconst C (-1) (dk_at dk_M_isFine_0 2 rfl) ?_
  refine r_icmp_ne C 12 rfl (dk_at dk_M_isFine_0 3 rfl) (fun c1 => ?_) (fun c1 => ?_)
  · replace h := h.1 c1
    refine r_iconst C 0 (dk_at dk_M_isFine_0 6 rfl) ?_
    exact r_zret C (Or.inl rfl) h (dk_at dk_M_isFine_0 7 rfl)
  · replace h := h.2 c1
    refine r_iconst C 1 (dk_at dk_M_isFine_0 4 rfl) ?_
    refine r_goto C 13 rfl (dk_at dk_M_isFine_0 5 rfl) ?_
    exact r_zret C (Or.inr rfl) h (dk_at dk_M_isFine_0 7 rfl)
  )
set_option maxRecDepth 20000 in
theorem m_M_faults {l : Launch} {w : WO} (hL : LyM w) {σ : DD} {post : DD → Prop} (h : w_M_faults σ post) : MV l w yX11_faults cX11_faults 1 (rmK 1 20) σ [.ref (wAd w 0)] post :=
  met_head (rt := none) (by decide) rfl (fun X hX C => by
  subst hX
  unfold w_M_faults at h
  show gW X w (lim0 w) 1 (QV X w post) σ 0 [(0, .ref (wAd w 0))] []
  refine r_aload_n C 0 rfl (dk_at dk_M_faults_0 0 rfl) ?_
  refine r_cvI C cl_M_162 0 (hL 0 _ rfl) [] (m_M_isFine hL h) (rmK_ok rfl rfl) rfl rfl (Nat.le_of_ble_eq_true rfl) (dk_at dk_M_faults_0 1 rfl) (fun r1 σ2 h => ?_)
  refine r_if_eq C 20 rfl (dk_at dk_M_faults_0 2 rfl) (fun c3 => ?_) (fun c3 => ?_)
  · replace h := h.1 c3
    exact r_vret C h (dk_at dk_M_faults_0 10 rfl)
  · replace h := h.2 c3
    refine r_aload_n C 0 rfl (dk_at dk_M_faults_0 3 rfl) ?_
    refine r_aload_n C 0 rfl (dk_at dk_M_faults_0 4 rfl) ?_
    refine r_getR C fl_M_49 0 (hL 0 _ rfl) rfl (dk_at dk_M_faults_0 5 rfl) ?_
    refine r_aload_n C 0 rfl (dk_at dk_M_faults_0 6 rfl) ?_
    refine r_getI C fl_M_166 0 (hL 0 _ rfl) rfl (dk_at dk_M_faults_0 7 rfl) ?_
    obtain ⟨q4, h⟩ := h
    refine r_iald C 18 (hL 18 _ rfl) q4 (dk_at dk_M_faults_0 8 rfl) ?_
    refine r_putI C fl_M_159 0 (hL 0 _ rfl) rfl (dk_at dk_M_faults_0 9 rfl) (r_sg (fun σ5 e6 => ?_))
    replace h := h σ5 e6
    exact r_vret C h (dk_at dk_M_faults_0 10 rfl)
  )
set_option maxRecDepth 20000 in
theorem t_M_takes0_j25 {X : CT} {w : WO} (C : CF X w (lim0 w) 3 cX11_takes0 RX11 (some .boolean) (.code yX11_takes0 cX11_takes0 3 (some .boolean)) (rmK 1 20)) (hL : LyM w) {post : Int32 → DD → Prop} {t0 : Int32} {σ : DD} (h : w_M_takes0_j25 post σ t0) : gW X w (lim0 w) 3 (QI X w post) σ 25 [(0, .ref (wAd w 0))] [.int t0] := by
  unfold w_M_takes0_j25 at h
  refine r_istore_n C [(2, .int t0), (0, .ref (wAd w 0))] rfl rfl (dk_at dk_M_takes0_0 13 rfl) ?_
  refine r_iload_n C 0 rfl (dk_at dk_M_takes0_0 14 rfl) ?_
  refine r_if_eq C 40 rfl (dk_at dk_M_takes0_0 15 rfl) (fun c1 => ?_) (fun c1 => ?_)
  · replace h := h.1 c1
    refine r_iload_n C 0 rfl (dk_at dk_M_takes0_0 22 rfl) ?_
    exact r_zret C h.1 h.2 (dk_at dk_M_takes0_0 23 rfl)
  · replace h := h.2 c1
    refine r_aload_n C 1 rfl (dk_at dk_M_takes0_0 16 rfl) ?_
    refine r_dup C rfl (dk_at dk_M_takes0_0 17 rfl) ?_
    refine r_getI C fl_M_166 0 (hL 0 _ rfl) rfl (dk_at dk_M_takes0_0 18 rfl) ?_
    refine r_iconst C 1 (dk_at dk_M_takes0_0 19 rfl) ?_
    refine r_iadd C (dk_at dk_M_takes0_0 20 rfl) ?_
    refine r_putI C fl_M_166 0 (hL 0 _ rfl) rfl (dk_at dk_M_takes0_0 21 rfl) (r_sg (fun σ2 e3 => ?_))
    replace h := h σ2 e3
    refine r_iload_n C 0 rfl (dk_at dk_M_takes0_0 22 rfl) ?_
    exact r_zret C h.1 h.2 (dk_at dk_M_takes0_0 23 rfl)
set_option maxRecDepth 20000 in
theorem t_M_takes0_j24 {X : CT} {w : WO} (C : CF X w (lim0 w) 3 cX11_takes0 RX11 (some .boolean) (.code yX11_takes0 cX11_takes0 3 (some .boolean)) (rmK 1 20)) (hL : LyM w) {post : Int32 → DD → Prop} {σ : DD} (h : w_M_takes0_j24 post σ) : gW X w (lim0 w) 3 (QI X w post) σ 24 [(0, .ref (wAd w 0))] [] := by
  unfold w_M_takes0_j24 at h
  refine r_iconst C 0 (dk_at dk_M_takes0_0 12 rfl) ?_
  refine r_lv [0] rfl ?_
  exact t_M_takes0_j25 C hL h
set_option maxRecDepth 20000 in
theorem m_M_takes0 {l : Launch} {w : WO} (hL : LyM w) {σ : DD} {a1 : Int32} {post : Int32 → DD → Prop} (h : w_M_takes0 σ a1 post) : MI l w yX11_takes0 cX11_takes0 3 .boolean (rmK 1 20) σ [.ref (wAd w 0), .int a1] post :=
  met_head (rt := (some .boolean)) (by decide) rfl (fun X hX C => by
  subst hX
  unfold w_M_takes0 at h
  show gW X w (lim0 w) 3 (QI X w post) σ 0 [(0, .ref (wAd w 0)), (1, .int a1)] []
  refine r_aload_n C 0 rfl (dk_at dk_M_takes0_0 0 rfl) ?_
  refine r_cvI C cl_M_162 0 (hL 0 _ rfl) [] (m_M_isFine hL h) (rmK_ok rfl rfl) rfl rfl (Nat.le_of_ble_eq_true rfl) (dk_at dk_M_takes0_0 1 rfl) (fun r4 σ5 h => ?_)
  refine r_if_eq C 24 rfl (dk_at dk_M_takes0_0 2 rfl) (fun c6 => ?_) (fun c6 => ?_)
  · replace h := h.1 c6
    refine r_lv [0] rfl ?_
    exact t_M_takes0_j24 C hL h
  · replace h := h.2 c6
    refine r_aload_n C 0 rfl (dk_at dk_M_takes0_0 3 rfl) ?_
    refine r_getR C fl_M_43 0 (hL 0 _ rfl) rfl (dk_at dk_M_takes0_0 4 rfl) ?_
    refine r_aload_n C 0 rfl (dk_at dk_M_takes0_0 5 rfl) ?_
    refine r_getI C fl_M_166 0 (hL 0 _ rfl) rfl (dk_at dk_M_takes0_0 6 rfl) ?_
    obtain ⟨q7, h⟩ := h
    refine r_iald C 16 (hL 16 _ rfl) q7 (dk_at dk_M_takes0_0 7 rfl) ?_
    refine r_iload_n C 1 rfl (dk_at dk_M_takes0_0 8 rfl) ?_
    refine r_icmp_ne C 24 rfl (dk_at dk_M_takes0_0 9 rfl) (fun c8 => ?_) (fun c8 => ?_)
    · replace h := h.1 c8
      refine r_lv [0] rfl ?_
      exact t_M_takes0_j24 C hL h
    · replace h := h.2 c8
      refine r_iconst C 1 (dk_at dk_M_takes0_0 10 rfl) ?_
      refine r_goto C 25 rfl (dk_at dk_M_takes0_0 11 rfl) ?_
      refine r_lv [0] rfl ?_
      exact t_M_takes0_j25 C hL h
  )
set_option maxRecDepth 20000 in
theorem m_M_must {l : Launch} {w : WO} (hL : LyM w) {σ : DD} {a1 : Int32} {post : DD → Prop} (h : w_M_must σ a1 post) : MV l w yX11_must cX11_must 2 (rmK 2 42) σ [.ref (wAd w 0), .int a1] post :=
  met_head (rt := none) (by decide) rfl (fun X hX C => by
  subst hX
  unfold w_M_must at h
  show gW X w (lim0 w) 2 (QV X w post) σ 0 [(0, .ref (wAd w 0)), (1, .int a1)] []
  refine r_aload_n C 0 rfl (dk_at dk_M_must_0 0 rfl) ?_
  refine r_iload_n C 1 rfl (dk_at dk_M_must_0 1 rfl) ?_
  refine r_cvI C cl_M_169 0 (hL 0 _ rfl) [.int a1] (m_M_takes0 hL h) (rmK_ok rfl rfl) rfl rfl (Nat.le_of_ble_eq_true rfl) (dk_at dk_M_must_0 2 rfl) (fun r1 σ2 h => ?_)
  refine r_if_ne C 12 rfl (dk_at dk_M_must_0 3 rfl) (fun c3 => ?_) (fun c3 => ?_)
  · replace h := h.1 c3
    exact r_vret C h (dk_at dk_M_must_0 6 rfl)
  · replace h := h.2 c3
    refine r_aload_n C 0 rfl (dk_at dk_M_must_0 4 rfl) ?_
    refine r_cvV C cl_M_172 0 (hL 0 _ rfl) [] (m_M_faults hL h) (rmK_ok rfl rfl) rfl rfl (Nat.le_of_ble_eq_true rfl) (dk_at dk_M_must_0 5 rfl) (fun σ5 h => ?_)
    exact r_vret C h (dk_at dk_M_must_0 6 rfl)
  )
