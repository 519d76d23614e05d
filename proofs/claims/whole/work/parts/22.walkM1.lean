set_option maxRecDepth 20000 in
theorem t_M_leaf_j13 {X : CT} {w : WO} (C : CF X w (lim0 w) 1 cX11_leaf RX11 none (.code yX11_leaf cX11_leaf 1 none) (rmK 2 40)) (hL : LyM w) {post : DD → Prop} {σ : DD} (h : w_M_leaf_j13 post σ) : gW X w (lim0 w) 1 (QV X w post) σ 13 [(0, .ref (wAd w 0))] [] := by
  unfold w_M_leaf_j13 at h
  refine r_aload_n C 0 rfl (dk_at dk_M_leaf_0 6 rfl) ?_
  refine r_dup C rfl (dk_at dk_M_leaf_0 7 rfl) ?_
  refine r_getI C fl_M_175 0 (hL 0 _ rfl) rfl (dk_at dk_M_leaf_0 8 rfl) ?_
  refine r_iconst C 1 (dk_at dk_M_leaf_0 9 rfl) ?_
  refine r_iadd C (dk_at dk_M_leaf_0 10 rfl) ?_
  refine r_putI C fl_M_175 0 (hL 0 _ rfl) rfl (dk_at dk_M_leaf_0 11 rfl) (r_sg (fun σ1 e2 => ?_))
  replace h := h σ1 e2
  refine r_aload_n C 0 rfl (dk_at dk_M_leaf_0 12 rfl) ?_
  refine r_cvI C cl_M_162 0 (hL 0 _ rfl) [] (m_M_isFine hL h) (rmK_ok rfl rfl) rfl rfl (Nat.le_of_ble_eq_true rfl) (dk_at dk_M_leaf_0 13 rfl) (fun r3 σ4 h => ?_)
  refine r_if_eq C 40 rfl (dk_at dk_M_leaf_0 14 rfl) (fun c5 => ?_) (fun c5 => ?_)
  · replace h := h.1 c5
    exact r_vret C h (dk_at dk_M_leaf_0 21 rfl)
  · replace h := h.2 c5
    refine r_aload_n C 0 rfl (dk_at dk_M_leaf_0 15 rfl) ?_
    refine r_dup C rfl (dk_at dk_M_leaf_0 16 rfl) ?_
    refine r_getI C fl_M_166 0 (hL 0 _ rfl) rfl (dk_at dk_M_leaf_0 17 rfl) ?_
    refine r_iconst C 1 (dk_at dk_M_leaf_0 18 rfl) ?_
    refine r_iadd C (dk_at dk_M_leaf_0 19 rfl) ?_
    refine r_putI C fl_M_166 0 (hL 0 _ rfl) rfl (dk_at dk_M_leaf_0 20 rfl) (r_sg (fun σ6 e7 => ?_))
    replace h := h σ6 e7
    exact r_vret C h (dk_at dk_M_leaf_0 21 rfl)
set_option maxRecDepth 20000 in
theorem m_M_leaf {l : Launch} {w : WO} (hL : LyM w) {σ : DD} {post : DD → Prop} (h : w_M_leaf σ post) : MV l w yX11_leaf cX11_leaf 1 (rmK 2 40) σ [.ref (wAd w 0)] post :=
  met_head (rt := none) (by decide) rfl (fun X hX C => by
  subst hX
  unfold w_M_leaf at h
  show gW X w (lim0 w) 1 (QV X w post) σ 0 [(0, .ref (wAd w 0))] []
  refine r_aload_n C 0 rfl (dk_at dk_M_leaf_0 0 rfl) ?_
  refine r_getI C fl_M_175 0 (hL 0 _ rfl) rfl (dk_at dk_M_leaf_0 1 rfl) ?_
  refine r_bipush C 50 (dk_at dk_M_leaf_0 2 rfl) ?_
  refine r_icmp_ne C 13 rfl (dk_at dk_M_leaf_0 3 rfl) (fun c8 => ?_) (fun c8 => ?_)
  · replace h := h.1 c8
    refine r_lv [0] rfl ?_
    exact t_M_leaf_j13 C hL h
  · replace h := h.2 c8
    refine r_aload_n C 0 rfl (dk_at dk_M_leaf_0 4 rfl) ?_
    refine r_cvV C cl_M_172 0 (hL 0 _ rfl) [] (m_M_faults hL h) (rmK_ok rfl rfl) rfl rfl (Nat.le_of_ble_eq_true rfl) (dk_at dk_M_leaf_0 5 rfl) (fun σ10 h => ?_)
    refine r_lv [0] rfl ?_
    exact t_M_leaf_j13 C hL h
  )
set_option maxRecDepth 20000 in
theorem m_M_sign {l : Launch} {w : WO} (hL : LyM w) {σ : DD} {a0 : Int32} {post : Int32 → DD → Prop} (h : w_M_sign σ a0 post) : MI l w yX11_sign cX11_sign 1 .int (rmK 0 0) σ [.int a0] post :=
  met_head (rt := (some .int)) (by decide) rfl (fun X hX C => by
  subst hX
  unfold w_M_sign at h
  show gW X w (lim0 w) 1 (QI X w post) σ 0 [(0, .int a0)] []
  refine r_bipush C 100 (dk_at dk_M_sign_0 0 rfl) ?_
  refine r_iload_n C 0 rfl (dk_at dk_M_sign_0 1 rfl) ?_
  refine r_iadd C (dk_at dk_M_sign_0 2 rfl) ?_
  exact r_iret C h (dk_at dk_M_sign_0 3 rfl)
  )
set_option maxRecDepth 20000 in
theorem t_M_mustNumber_j42 {X : CT} {w : WO} (C : CF X w (lim0 w) 3 cX11_mustNumber RX11 none (.code yX11_mustNumber cX11_mustNumber 3 none) (rmK 2 40)) (hL : LyM w) {post : DD → Prop} {σ : DD} (h : w_M_mustNumber_j42 post σ) : gW X w (lim0 w) 3 (QV X w post) σ 42 [(0, .ref (wAd w 0))] [] := by
  unfold w_M_mustNumber_j42 at h
  refine r_aload_n C 0 rfl (dk_at dk_M_mustNumber_0 21 rfl) ?_
  refine r_cvI C cl_M_162 0 (hL 0 _ rfl) [] (m_M_isFine hL h) (rmK_ok rfl rfl) rfl rfl (Nat.le_of_ble_eq_true rfl) (dk_at dk_M_mustNumber_0 22 rfl) (fun r1 σ2 h => ?_)
  refine r_if_eq C 59 rfl (dk_at dk_M_mustNumber_0 23 rfl) (fun c3 => ?_) (fun c3 => ?_)
  · replace h := h.1 c3
    exact r_vret C h (dk_at dk_M_mustNumber_0 30 rfl)
  · replace h := h.2 c3
    refine r_aload_n C 0 rfl (dk_at dk_M_mustNumber_0 24 rfl) ?_
    refine r_dup C rfl (dk_at dk_M_mustNumber_0 25 rfl) ?_
    refine r_getI C fl_M_166 0 (hL 0 _ rfl) rfl (dk_at dk_M_mustNumber_0 26 rfl) ?_
    refine r_iconst C 1 (dk_at dk_M_mustNumber_0 27 rfl) ?_
    refine r_iadd C (dk_at dk_M_mustNumber_0 28 rfl) ?_
    refine r_putI C fl_M_166 0 (hL 0 _ rfl) rfl (dk_at dk_M_mustNumber_0 29 rfl) (r_sg (fun σ4 e5 => ?_))
    replace h := h σ4 e5
    exact r_vret C h (dk_at dk_M_mustNumber_0 30 rfl)
set_option maxRecDepth 20000 in
theorem t_M_mustNumber_j38 {X : CT} {w : WO} (C : CF X w (lim0 w) 3 cX11_mustNumber RX11 none (.code yX11_mustNumber cX11_mustNumber 3 none) (rmK 2 40)) (hL : LyM w) {post : DD → Prop} {σ : DD} (h : w_M_mustNumber_j38 post σ) : gW X w (lim0 w) 3 (QV X w post) σ 38 [(0, .ref (wAd w 0))] [] := by
  unfold w_M_mustNumber_j38 at h
  refine r_aload_n C 0 rfl (dk_at dk_M_mustNumber_0 19 rfl) ?_
  refine r_cvV C cl_M_172 0 (hL 0 _ rfl) [] (m_M_faults hL h) (rmK_ok rfl rfl) rfl rfl (Nat.le_of_ble_eq_true rfl) (dk_at dk_M_mustNumber_0 20 rfl) (fun σ7 h => ?_)
  refine r_lv [0] rfl ?_
  exact t_M_mustNumber_j42 C hL h
set_option maxRecDepth 20000 in
theorem m_M_mustNumber {l : Launch} {w : WO} (hL : LyM w) {σ : DD} {a1 : Int32} {a2 : Int32} {post : DD → Prop} (h : w_M_mustNumber σ a1 a2 post) : MV l w yX11_mustNumber cX11_mustNumber 3 (rmK 2 40) σ [.ref (wAd w 0), .int a1, .int a2] post :=
  met_head (rt := none) (by decide) rfl (fun X hX C => by
  subst hX
  unfold w_M_mustNumber at h
  show gW X w (lim0 w) 3 (QV X w post) σ 0 [(0, .ref (wAd w 0)), (1, .int a1), (2, .int a2)] []
  refine r_aload_n C 0 rfl (dk_at dk_M_mustNumber_0 0 rfl) ?_
  refine r_cvI C cl_M_162 0 (hL 0 _ rfl) [] (m_M_isFine hL h) (rmK_ok rfl rfl) rfl rfl (Nat.le_of_ble_eq_true rfl) (dk_at dk_M_mustNumber_0 1 rfl) (fun r8 σ9 h => ?_)
  refine r_if_eq C 42 rfl (dk_at dk_M_mustNumber_0 2 rfl) (fun c10 => ?_) (fun c10 => ?_)
  · replace h := h.1 c10
    refine r_lv [0] rfl ?_
    exact t_M_mustNumber_j42 C hL h
  · replace h := h.2 c10
    refine r_aload_n C 0 rfl (dk_at dk_M_mustNumber_0 3 rfl) ?_
    refine r_getR C fl_M_43 0 (hL 0 _ rfl) rfl (dk_at dk_M_mustNumber_0 4 rfl) ?_
    refine r_aload_n C 0 rfl (dk_at dk_M_mustNumber_0 5 rfl) ?_
    refine r_getI C fl_M_166 0 (hL 0 _ rfl) rfl (dk_at dk_M_mustNumber_0 6 rfl) ?_
    obtain ⟨q11, h⟩ := h
    refine r_iald C 16 (hL 16 _ rfl) q11 (dk_at dk_M_mustNumber_0 7 rfl) ?_
    refine r_bipush C 50 (dk_at dk_M_mustNumber_0 8 rfl) ?_
    refine r_icmp_ne C 38 rfl (dk_at dk_M_mustNumber_0 9 rfl) (fun c12 => ?_) (fun c12 => ?_)
    · replace h := h.1 c12
      refine r_lv [0] rfl ?_
      exact t_M_mustNumber_j38 C hL h
    · replace h := h.2 c12
      refine r_aload_n C 0 rfl (dk_at dk_M_mustNumber_0 10 rfl) ?_
      refine r_getR C fl_M_46 0 (hL 0 _ rfl) rfl (dk_at dk_M_mustNumber_0 11 rfl) ?_
      refine r_aload_n C 0 rfl (dk_at dk_M_mustNumber_0 12 rfl) ?_
      refine r_getI C fl_M_166 0 (hL 0 _ rfl) rfl (dk_at dk_M_mustNumber_0 13 rfl) ?_
      obtain ⟨q13, h⟩ := h
      refine r_iald C 17 (hL 17 _ rfl) q13 (dk_at dk_M_mustNumber_0 14 rfl) ?_
      refine r_iload_n C 1 rfl (dk_at dk_M_mustNumber_0 15 rfl) ?_
      refine r_iload_n C 2 rfl (dk_at dk_M_mustNumber_0 16 rfl) ?_
      refine r_csI C cs_M_101 [.int (gI σ9 17 (gI σ9 0 19).toNatClampNeg), .int a1, .int a2] (m_M_lies hL h) (rmK_ok rfl rfl) rfl rfl (Nat.le_of_ble_eq_true rfl) (dk_at dk_M_mustNumber_0 17 rfl) (fun r14 σ15 h => ?_)
      refine r_if_ne C 42 rfl (dk_at dk_M_mustNumber_0 18 rfl) (fun c16 => ?_) (fun c16 => ?_)
      · replace h := h.1 c16
        refine r_lv [0] rfl ?_
        exact t_M_mustNumber_j42 C hL h
      · replace h := h.2 c16
        refine r_lv [0] rfl ?_
        exact t_M_mustNumber_j38 C hL h
  )
set_option maxRecDepth 20000 in
theorem t_M_readPart_j37 {o_readSum : DD → Int32 → (DD → Prop) → Prop} {f0 q0 f_readSum q_readSum : Nat} {X : CT} {w : WO} (C : CF X w (lim0 w) 3 cX11_readPart RX11 none (.code yX11_readPart cX11_readPart 3 none) (rmK f0 q0)) (hL : LyM w) (hr0 : 3 ≤ f0 ∧ 63 ≤ q0) (hr_readSum : f_readSum + 1 ≤ f0 ∧ 8 + (2 + 11) + q_readSum ≤ q0) (ho_readSum : ∀ (σ : DD) (a1 : Int32) (post : DD → Prop), o_readSum σ a1 post → MV X.l w yX11_readSum cX11_readSum 2 (rmK f_readSum q_readSum) σ [.ref (wAd w 0), .int a1] post) {post : DD → Prop} {a1 : Int32} {σ : DD} (h : w_M_readPart_j37 o_readSum post σ a1) : gW X w (lim0 w) 3 (QV X w post) σ 37 [(0, .ref (wAd w 0)), (1, .int a1)] [] := by
  unfold w_M_readPart_j37 at h
  refine r_aload_n C 0 rfl (dk_at dk_M_readPart_0 19 rfl) ?_
  refine r_cvI C cl_M_162 0 (hL 0 _ rfl) [] (m_M_isFine hL h) (rmK_ok2 (f := f0) (q := q0) (f' := 0) (q' := 0) (by omega) (by omega)) rfl rfl (Nat.le_of_ble_eq_true rfl) (dk_at dk_M_readPart_0 20 rfl) (fun r1 σ2 h => ?_)
  refine r_if_ne C 45 rfl (dk_at dk_M_readPart_0 21 rfl) (fun c3 => ?_) (fun c3 => ?_)
  · replace h := h.1 c3
    refine r_aload_n C 0 rfl (dk_at dk_M_readPart_0 23 rfl) ?_
    refine r_dup C rfl (dk_at dk_M_readPart_0 24 rfl) ?_
    refine r_getI C fl_M_166 0 (hL 0 _ rfl) rfl (dk_at dk_M_readPart_0 25 rfl) ?_
    refine r_iconst C 1 (dk_at dk_M_readPart_0 26 rfl) ?_
    refine r_iadd C (dk_at dk_M_readPart_0 27 rfl) ?_
    refine r_putI C fl_M_166 0 (hL 0 _ rfl) rfl (dk_at dk_M_readPart_0 28 rfl) (r_sg (fun σ4 e5 => ?_))
    replace h := h σ4 e5
    refine r_aload_n C 0 rfl (dk_at dk_M_readPart_0 29 rfl) ?_
    refine r_iload_n C 1 rfl (dk_at dk_M_readPart_0 30 rfl) ?_
    refine r_iconst C 1 (dk_at dk_M_readPart_0 31 rfl) ?_
    refine r_iadd C (dk_at dk_M_readPart_0 32 rfl) ?_
    refine r_cvV C cl_M_178 0 (hL 0 _ rfl) [.int (a1 + 1)] (ho_readSum _ _ _ h) (rmK_ok2 hr_readSum.1 hr_readSum.2) rfl rfl (Nat.le_of_ble_eq_true rfl) (dk_at dk_M_readPart_0 33 rfl) (fun σ7 h => ?_)
    refine r_aload_n C 0 rfl (dk_at dk_M_readPart_0 34 rfl) ?_
    refine r_bipush C 93 (dk_at dk_M_readPart_0 35 rfl) ?_
    refine r_csI C cs_M_208 [.int 93] (m_M_sign hL h) (rmK_ok2 (f := f0) (q := q0) (f' := 0) (q' := 0) (by omega) (by omega)) rfl rfl (Nat.le_of_ble_eq_true rfl) (dk_at dk_M_readPart_0 36 rfl) (fun r8 σ9 h => ?_)
    refine r_cvV C cl_M_182 0 (hL 0 _ rfl) [.int r8] (m_M_must hL h) (rmK_ok2 (f := f0) (q := q0) (f' := 2) (q' := 42) (by omega) (by omega)) rfl rfl (Nat.le_of_ble_eq_true rfl) (dk_at dk_M_readPart_0 37 rfl) (fun σ11 h => ?_)
    refine r_goto C 147 rfl (dk_at dk_M_readPart_0 38 rfl) ?_
    exact r_vret C h (dk_at dk_M_readPart_1 36 rfl)
  · replace h := h.2 c3
    exact r_vret C h (dk_at dk_M_readPart_0 22 rfl)
set_option maxRecDepth 20000 in
theorem t_M_readPart_j128 {o_readSum : DD → Int32 → (DD → Prop) → Prop} {f0 q0 f_readSum q_readSum : Nat} {X : CT} {w : WO} (C : CF X w (lim0 w) 3 cX11_readPart RX11 none (.code yX11_readPart cX11_readPart 3 none) (rmK f0 q0)) (hL : LyM w) (hr0 : 3 ≤ f0 ∧ 63 ≤ q0) (hr_readSum : f_readSum + 1 ≤ f0 ∧ 8 + (2 + 11) + q_readSum ≤ q0) (ho_readSum : ∀ (σ : DD) (a1 : Int32) (post : DD → Prop), o_readSum σ a1 post → MV X.l w yX11_readSum cX11_readSum 2 (rmK f_readSum q_readSum) σ [.ref (wAd w 0), .int a1] post) {post : DD → Prop} {a2 : Int32} {σ : DD} (h : w_M_readPart_j128 o_readSum post σ a2) : gW X w (lim0 w) 3 (QV X w post) σ 128 [(0, .ref (wAd w 0)), (2, .int a2)] [] := by
  unfold w_M_readPart_j128 at h
  refine r_iload_n C 1 rfl (dk_at dk_M_readPart_1 26 rfl) ?_
  refine r_bipush C 21 (dk_at dk_M_readPart_1 27 rfl) ?_
  refine r_icmp_ne C 147 rfl (dk_at dk_M_readPart_1 28 rfl) (fun c12 => ?_) (fun c12 => ?_)
  · replace h := h.1 c12
    exact r_vret C h (dk_at dk_M_readPart_1 36 rfl)
  · replace h := h.2 c12
    refine r_aload_n C 0 rfl (dk_at dk_M_readPart_1 29 rfl) ?_
    refine r_iconst C 0 (dk_at dk_M_readPart_1 30 rfl) ?_
    refine r_iconst C 3 (dk_at dk_M_readPart_1 31 rfl) ?_
    refine r_cvV C cl_M_188 0 (hL 0 _ rfl) [.int 0, .int 3] (m_M_mustNumber hL h) (rmK_ok2 (f := f0) (q := q0) (f' := 2) (q' := 40) (by omega) (by omega)) rfl rfl (Nat.le_of_ble_eq_true rfl) (dk_at dk_M_readPart_1 32 rfl) (fun σ14 h => ?_)
    refine r_goto C 147 rfl (dk_at dk_M_readPart_1 33 rfl) ?_
    exact r_vret C h (dk_at dk_M_readPart_1 36 rfl)
set_option maxRecDepth 20000 in
theorem t_M_readPart_j111 {o_readSum : DD → Int32 → (DD → Prop) → Prop} {f0 q0 f_readSum q_readSum : Nat} {X : CT} {w : WO} (C : CF X w (lim0 w) 3 cX11_readPart RX11 none (.code yX11_readPart cX11_readPart 3 none) (rmK f0 q0)) (hL : LyM w) (hr0 : 3 ≤ f0 ∧ 63 ≤ q0) (hr_readSum : f_readSum + 1 ≤ f0 ∧ 8 + (2 + 11) + q_readSum ≤ q0) (ho_readSum : ∀ (σ : DD) (a1 : Int32) (post : DD → Prop), o_readSum σ a1 post → MV X.l w yX11_readSum cX11_readSum 2 (rmK f_readSum q_readSum) σ [.ref (wAd w 0), .int a1] post) {post : DD → Prop} {a2 : Int32} {σ : DD} (h : w_M_readPart_j111 o_readSum post σ a2) : gW X w (lim0 w) 3 (QV X w post) σ 111 [(0, .ref (wAd w 0)), (2, .int a2)] [] := by
  unfold w_M_readPart_j111 at h
  refine r_aload_n C 0 rfl (dk_at dk_M_readPart_1 17 rfl) ?_
  refine r_cvV C cl_M_224 0 (hL 0 _ rfl) [] (m_M_leaf hL h) (rmK_ok2 (f := f0) (q := q0) (f' := 2) (q' := 40) (by omega) (by omega)) rfl rfl (Nat.le_of_ble_eq_true rfl) (dk_at dk_M_readPart_1 18 rfl) (fun σ16 h => ?_)
  refine r_iload_n C 1 rfl (dk_at dk_M_readPart_1 19 rfl) ?_
  refine r_bipush C 20 (dk_at dk_M_readPart_1 20 rfl) ?_
  refine r_icmp_ne C 128 rfl (dk_at dk_M_readPart_1 21 rfl) (fun c17 => ?_) (fun c17 => ?_)
  · replace h := h.1 c17
    refine r_lv [0, 1] rfl ?_
    exact t_M_readPart_j128 C hL hr0 hr_readSum ho_readSum h
  · replace h := h.2 c17
    refine r_aload_n C 0 rfl (dk_at dk_M_readPart_1 22 rfl) ?_
    refine r_iconst C 0 (dk_at dk_M_readPart_1 23 rfl) ?_
    refine r_bipush C 7 (dk_at dk_M_readPart_1 24 rfl) ?_
    refine r_cvV C cl_M_188 0 (hL 0 _ rfl) [.int 0, .int 7] (m_M_mustNumber hL h) (rmK_ok2 (f := f0) (q := q0) (f' := 2) (q' := 40) (by omega) (by omega)) rfl rfl (Nat.le_of_ble_eq_true rfl) (dk_at dk_M_readPart_1 25 rfl) (fun σ19 h => ?_)
    refine r_lv [0, 1] rfl ?_
    exact t_M_readPart_j128 C hL hr0 hr_readSum ho_readSum h
set_option maxRecDepth 20000 in
theorem t_M_readPart_j143 {o_readSum : DD → Int32 → (DD → Prop) → Prop} {f0 q0 f_readSum q_readSum : Nat} {X : CT} {w : WO} (C : CF X w (lim0 w) 3 cX11_readPart RX11 none (.code yX11_readPart cX11_readPart 3 none) (rmK f0 q0)) (hL : LyM w) (hr0 : 3 ≤ f0 ∧ 63 ≤ q0) (hr_readSum : f_readSum + 1 ≤ f0 ∧ 8 + (2 + 11) + q_readSum ≤ q0) (ho_readSum : ∀ (σ : DD) (a1 : Int32) (post : DD → Prop), o_readSum σ a1 post → MV X.l w yX11_readSum cX11_readSum 2 (rmK f_readSum q_readSum) σ [.ref (wAd w 0), .int a1] post) {post : DD → Prop} {σ : DD} (h : w_M_readPart_j143 o_readSum post σ) : gW X w (lim0 w) 3 (QV X w post) σ 143 [(0, .ref (wAd w 0))] [] := by
  unfold w_M_readPart_j143 at h
  refine r_aload_n C 0 rfl (dk_at dk_M_readPart_1 34 rfl) ?_
  refine r_cvV C cl_M_172 0 (hL 0 _ rfl) [] (m_M_faults hL h) (rmK_ok2 (f := f0) (q := q0) (f' := 1) (q' := 20) (by omega) (by omega)) rfl rfl (Nat.le_of_ble_eq_true rfl) (dk_at dk_M_readPart_1 35 rfl) (fun σ21 h => ?_)
  exact r_vret C h (dk_at dk_M_readPart_1 36 rfl)
set_option maxRecDepth 20000 in
theorem t_M_readPart_j95 {o_readSum : DD → Int32 → (DD → Prop) → Prop} {f0 q0 f_readSum q_readSum : Nat} {X : CT} {w : WO} (C : CF X w (lim0 w) 3 cX11_readPart RX11 none (.code yX11_readPart cX11_readPart 3 none) (rmK f0 q0)) (hL : LyM w) (hr0 : 3 ≤ f0 ∧ 63 ≤ q0) (hr_readSum : f_readSum + 1 ≤ f0 ∧ 8 + (2 + 11) + q_readSum ≤ q0) (ho_readSum : ∀ (σ : DD) (a1 : Int32) (post : DD → Prop), o_readSum σ a1 post → MV X.l w yX11_readSum cX11_readSum 2 (rmK f_readSum q_readSum) σ [.ref (wAd w 0), .int a1] post) {post : DD → Prop} {a2 : Int32} {σ : DD} (h : w_M_readPart_j95 o_readSum post σ a2) : gW X w (lim0 w) 3 (QV X w post) σ 95 [(0, .ref (wAd w 0)), (2, .int a2)] [] := by
  unfold w_M_readPart_j95 at h
  refine r_iload_n C 1 rfl (dk_at dk_M_readPart_1 9 rfl) ?_
  refine r_aload_n C 0 rfl (dk_at dk_M_readPart_1 10 rfl) ?_
  refine r_getI C fl_M_218 0 (hL 0 _ rfl) rfl (dk_at dk_M_readPart_1 11 rfl) ?_
  refine r_icmp_lt C 143 rfl (dk_at dk_M_readPart_1 12 rfl) (fun c22 => ?_) (fun c22 => ?_)
  · replace h := h.1 c22
    refine r_lv [0] rfl ?_
    exact t_M_readPart_j143 C hL hr0 hr_readSum ho_readSum h
  · replace h := h.2 c22
    refine r_iload_n C 1 rfl (dk_at dk_M_readPart_1 13 rfl) ?_
    refine r_aload_n C 0 rfl (dk_at dk_M_readPart_1 14 rfl) ?_
    refine r_getI C fl_M_221 0 (hL 0 _ rfl) rfl (dk_at dk_M_readPart_1 15 rfl) ?_
    refine r_icmp_gt C 143 rfl (dk_at dk_M_readPart_1 16 rfl) (fun c23 => ?_) (fun c23 => ?_)
    · replace h := h.1 c23
      refine r_lv [0] rfl ?_
      exact t_M_readPart_j143 C hL hr0 hr_readSum ho_readSum h
    · replace h := h.2 c23
      refine r_lv [0, 1] rfl ?_
      exact t_M_readPart_j111 C hL hr0 hr_readSum ho_readSum h
set_option maxRecDepth 20000 in
theorem m_M_readPart_o {l : Launch} {w : WO} (hL : LyM w) {o_readSum : DD → Int32 → (DD → Prop) → Prop} {f0 q0 f_readSum q_readSum : Nat} (hr0 : 3 ≤ f0 ∧ 63 ≤ q0) (hr_readSum : f_readSum + 1 ≤ f0 ∧ 8 + (2 + 11) + q_readSum ≤ q0) (ho_readSum : ∀ (σ : DD) (a1 : Int32) (post : DD → Prop), o_readSum σ a1 post → MV l w yX11_readSum cX11_readSum 2 (rmK f_readSum q_readSum) σ [.ref (wAd w 0), .int a1] post) {σ : DD} {a1 : Int32} {post : DD → Prop} (h : w_M_readPart_o o_readSum σ a1 post) : MV l w yX11_readPart cX11_readPart 3 (rmK f0 q0) σ [.ref (wAd w 0), .int a1] post :=
  met_head (rt := none) (by decide) rfl (fun X hX C => by
  subst hX
  unfold w_M_readPart_o at h
  show gW X w (lim0 w) 3 (QV X w post) σ 0 [(0, .ref (wAd w 0)), (1, .int a1)] []
  refine r_aload_n C 0 rfl (dk_at dk_M_readPart_0 0 rfl) ?_
  refine r_cvI C cl_M_162 0 (hL 0 _ rfl) [] (m_M_isFine hL h) (rmK_ok2 (f := f0) (q := q0) (f' := 0) (q' := 0) (by omega) (by omega)) rfl rfl (Nat.le_of_ble_eq_true rfl) (dk_at dk_M_readPart_0 1 rfl) (fun r24 σ25 h => ?_)
  refine r_if_ne C 8 rfl (dk_at dk_M_readPart_0 2 rfl) (fun c26 => ?_) (fun c26 => ?_)
  · replace h := h.1 c26
    refine r_aload_n C 0 rfl (dk_at dk_M_readPart_0 4 rfl) ?_
    refine r_getR C fl_M_43 0 (hL 0 _ rfl) rfl (dk_at dk_M_readPart_0 5 rfl) ?_
    refine r_aload_n C 0 rfl (dk_at dk_M_readPart_0 6 rfl) ?_
    refine r_getI C fl_M_166 0 (hL 0 _ rfl) rfl (dk_at dk_M_readPart_0 7 rfl) ?_
    obtain ⟨q27, h⟩ := h
    refine r_iald C 16 (hL 16 _ rfl) q27 (dk_at dk_M_readPart_0 8 rfl) ?_
    refine r_topi (fun v28 e29 => ?_)
    replace h := h v28 e29
    refine r_istore_n C [(2, .int v28), (0, .ref (wAd w 0)), (1, .int a1)] rfl rfl (dk_at dk_M_readPart_0 9 rfl) ?_
    refine r_iload_n C 0 rfl (dk_at dk_M_readPart_0 10 rfl) ?_
    refine r_bipush C 91 (dk_at dk_M_readPart_0 11 rfl) ?_
    refine r_csI C cs_M_208 [.int 91] (m_M_sign hL h) (rmK_ok2 (f := f0) (q := q0) (f' := 0) (q' := 0) (by omega) (by omega)) rfl rfl (Nat.le_of_ble_eq_true rfl) (dk_at dk_M_readPart_0 12 rfl) (fun r30 σ31 h => ?_)
    refine r_icmp_ne C 74 rfl (dk_at dk_M_readPart_0 13 rfl) (fun c32 => ?_) (fun c32 => ?_)
    · replace h := h.1 c32
      refine r_iload_n C 0 rfl (dk_at dk_M_readPart_0 39 rfl) ?_
      refine r_bipush C 50 (dk_at dk_M_readPart_1 0 rfl) ?_
      refine r_icmp_ne C 95 rfl (dk_at dk_M_readPart_1 1 rfl) (fun c33 => ?_) (fun c33 => ?_)
      · replace h := h.1 c33
        refine r_lv [1, 0] rfl ?_
        exact t_M_readPart_j95 C hL hr0 hr_readSum ho_readSum h
      · replace h := h.2 c33
        refine r_aload_n C 1 rfl (dk_at dk_M_readPart_1 2 rfl) ?_
        refine r_getR C fl_M_46 0 (hL 0 _ rfl) rfl (dk_at dk_M_readPart_1 3 rfl) ?_
        refine r_aload_n C 1 rfl (dk_at dk_M_readPart_1 4 rfl) ?_
        refine r_getI C fl_M_166 0 (hL 0 _ rfl) rfl (dk_at dk_M_readPart_1 5 rfl) ?_
        obtain ⟨q34, h⟩ := h
        refine r_iald C 17 (hL 17 _ rfl) q34 (dk_at dk_M_readPart_1 6 rfl) ?_
        refine r_sipush C 1000 (dk_at dk_M_readPart_1 7 rfl) ?_
        refine r_icmp_le C 111 rfl (dk_at dk_M_readPart_1 8 rfl) (fun c35 => ?_) (fun c35 => ?_)
        · replace h := h.1 c35
          refine r_lv [1, 0] rfl ?_
          exact t_M_readPart_j111 C hL hr0 hr_readSum ho_readSum h
        · replace h := h.2 c35
          refine r_lv [1, 0] rfl ?_
          exact t_M_readPart_j95 C hL hr0 hr_readSum ho_readSum h
    · replace h := h.2 c32
      refine r_iload_n C 2 rfl (dk_at dk_M_readPart_0 14 rfl) ?_
      refine r_bipush C 8 (dk_at dk_M_readPart_0 15 rfl) ?_
      refine r_icmp_ne C 37 rfl (dk_at dk_M_readPart_0 16 rfl) (fun c36 => ?_) (fun c36 => ?_)
      · replace h := h.1 c36
        refine r_lv [1, 2] rfl ?_
        exact t_M_readPart_j37 C hL hr0 hr_readSum ho_readSum h
      · replace h := h.2 c36
        refine r_aload_n C 1 rfl (dk_at dk_M_readPart_0 17 rfl) ?_
        refine r_cvV C cl_M_172 0 (hL 0 _ rfl) [] (m_M_faults hL h) (rmK_ok2 (f := f0) (q := q0) (f' := 1) (q' := 20) (by omega) (by omega)) rfl rfl (Nat.le_of_ble_eq_true rfl) (dk_at dk_M_readPart_0 18 rfl) (fun σ38 h => ?_)
        refine r_lv [1, 2] rfl ?_
        exact t_M_readPart_j37 C hL hr0 hr_readSum ho_readSum h
  · replace h := h.2 c26
    exact r_vret C h (dk_at dk_M_readPart_0 3 rfl)
  )
set_option maxRecDepth 20000 in
theorem t_M_readSum_j29 {o_readTerm : DD → Int32 → (DD → Prop) → Prop} {f0 q0 f_readTerm q_readTerm : Nat} {X : CT} {w : WO} (C : CF X w (lim0 w) 2 cX11_readSum RX11 none (.code yX11_readSum cX11_readSum 2 none) (rmK f0 q0)) (hL : LyM w) (hr0 : 2 ≤ f0 ∧ 42 ≤ q0) (hr_readTerm : f_readTerm + 1 ≤ f0 ∧ 8 + (2 + 11) + q_readTerm ≤ q0) (ho_readTerm : ∀ (σ : DD) (a1 : Int32) (post : DD → Prop), o_readTerm σ a1 post → MV X.l w yX11_readTerm cX11_readTerm 2 (rmK f_readTerm q_readTerm) σ [.ref (wAd w 0), .int a1] post) {K5 : DD → Prop} {post : DD → Prop} {a1 : Int32} (k5 : ∀ (σ : DD), K5 σ → gW X w (lim0 w) 2 (QV X w post) σ 5 [(0, .ref (wAd w 0)), (1, .int a1)] []) {σ : DD} (h : w_M_readSum_j29 o_readTerm K5 post σ a1) : gW X w (lim0 w) 2 (QV X w post) σ 29 [(0, .ref (wAd w 0)), (1, .int a1)] [] := by
  unfold w_M_readSum_j29 at h
  refine r_aload_n C 0 rfl (dk_at dk_M_readSum_0 13 rfl) ?_
  refine r_iload_n C 1 rfl (dk_at dk_M_readSum_0 14 rfl) ?_
  refine r_cvV C cl_M_212 0 (hL 0 _ rfl) [.int a1] (ho_readTerm _ _ _ h) (rmK_ok2 hr_readTerm.1 hr_readTerm.2) rfl rfl (Nat.le_of_ble_eq_true rfl) (dk_at dk_M_readSum_0 15 rfl) (fun σ2 h => ?_)
  refine r_goto C 5 rfl (dk_at dk_M_readSum_0 16 rfl) ?_
  refine r_lv [0, 1] rfl ?_
  exact k5 _  h
set_option maxRecDepth 20000 in
theorem t_M_readSum_b5 {o_readTerm : DD → Int32 → (DD → Prop) → Prop} {f0 q0 f_readTerm q_readTerm : Nat} {X : CT} {w : WO} (C : CF X w (lim0 w) 2 cX11_readSum RX11 none (.code yX11_readSum cX11_readSum 2 none) (rmK f0 q0)) (hL : LyM w) (hr0 : 2 ≤ f0 ∧ 42 ≤ q0) (hr_readTerm : f_readTerm + 1 ≤ f0 ∧ 8 + (2 + 11) + q_readTerm ≤ q0) (ho_readTerm : ∀ (σ : DD) (a1 : Int32) (post : DD → Prop), o_readTerm σ a1 post → MV X.l w yX11_readTerm cX11_readTerm 2 (rmK f_readTerm q_readTerm) σ [.ref (wAd w 0), .int a1] post) {a1 : Int32} {K5 : DD → Prop} {post : DD → Prop} (k5 : ∀ (σ : DD), K5 σ → gW X w (lim0 w) 2 (QV X w post) σ 5 [(0, .ref (wAd w 0)), (1, .int a1)] []) {σ : DD} (h : w_M_readSum_b5 o_readTerm a1 K5 post σ) : gW X w (lim0 w) 2 (QV X w post) σ 5 [(0, .ref (wAd w 0)), (1, .int a1)] [] := by
  unfold w_M_readSum_b5 at h
  refine r_aload_n C 0 rfl (dk_at dk_M_readSum_0 3 rfl) ?_
  refine r_bipush C 43 (dk_at dk_M_readSum_0 4 rfl) ?_
  refine r_csI C cs_M_208 [.int 43] (m_M_sign hL h) (rmK_ok2 (f := f0) (q := q0) (f' := 0) (q' := 0) (by omega) (by omega)) rfl rfl (Nat.le_of_ble_eq_true rfl) (dk_at dk_M_readSum_0 5 rfl) (fun r3 σ4 h => ?_)
  refine r_cvI C cl_M_169 0 (hL 0 _ rfl) [.int r3] (m_M_takes0 hL h) (rmK_ok2 (f := f0) (q := q0) (f' := 1) (q' := 20) (by omega) (by omega)) rfl rfl (Nat.le_of_ble_eq_true rfl) (dk_at dk_M_readSum_0 6 rfl) (fun r5 σ6 h => ?_)
  refine r_if_ne C 29 rfl (dk_at dk_M_readSum_0 7 rfl) (fun c7 => ?_) (fun c7 => ?_)
  · replace h := h.1 c7
    refine r_lv [0, 1] rfl ?_
    exact t_M_readSum_j29 C hL hr0 hr_readTerm ho_readTerm k5 h
  · replace h := h.2 c7
    refine r_aload_n C 0 rfl (dk_at dk_M_readSum_0 8 rfl) ?_
    refine r_bipush C 45 (dk_at dk_M_readSum_0 9 rfl) ?_
    refine r_csI C cs_M_208 [.int 45] (m_M_sign hL h) (rmK_ok2 (f := f0) (q := q0) (f' := 0) (q' := 0) (by omega) (by omega)) rfl rfl (Nat.le_of_ble_eq_true rfl) (dk_at dk_M_readSum_0 10 rfl) (fun r8 σ9 h => ?_)
    refine r_cvI C cl_M_169 0 (hL 0 _ rfl) [.int r8] (m_M_takes0 hL h) (rmK_ok2 (f := f0) (q := q0) (f' := 1) (q' := 20) (by omega) (by omega)) rfl rfl (Nat.le_of_ble_eq_true rfl) (dk_at dk_M_readSum_0 11 rfl) (fun r10 σ11 h => ?_)
    refine r_if_eq C 37 rfl (dk_at dk_M_readSum_0 12 rfl) (fun c12 => ?_) (fun c12 => ?_)
    · replace h := h.1 c12
      exact r_vret C h (dk_at dk_M_readSum_0 17 rfl)
    · replace h := h.2 c12
      refine r_lv [0, 1] rfl ?_
      exact t_M_readSum_j29 C hL hr0 hr_readTerm ho_readTerm k5 h
set_option maxRecDepth 20000 in
theorem t_M_readSum_l5 {o_readTerm : DD → Int32 → (DD → Prop) → Prop} {f0 q0 f_readTerm q_readTerm : Nat} {X : CT} {w : WO} (C : CF X w (lim0 w) 2 cX11_readSum RX11 none (.code yX11_readSum cX11_readSum 2 none) (rmK f0 q0)) (hL : LyM w) (hr0 : 2 ≤ f0 ∧ 42 ≤ q0) (hr_readTerm : f_readTerm + 1 ≤ f0 ∧ 8 + (2 + 11) + q_readTerm ≤ q0) (ho_readTerm : ∀ (σ : DD) (a1 : Int32) (post : DD → Prop), o_readTerm σ a1 post → MV X.l w yX11_readTerm cX11_readTerm 2 (rmK f_readTerm q_readTerm) σ [.ref (wAd w 0), .int a1] post) {a1 : Int32} {post : DD → Prop} {σ : DD} (h : w_M_readSum_l5 o_readTerm post σ a1) : gW X w (lim0 w) 2 (QV X w post) σ 5 [(0, .ref (wAd w 0)), (1, .int a1)] [] :=
  LoopW (G := fun x : DD => gW X w (lim0 w) 2 (QV X w post) x 5 [(0, .ref (wAd w 0)), (1, .int a1)] []) (fun K x hK hF => t_M_readSum_b5 C hL hr0 hr_readTerm ho_readTerm (fun σ q => hK (σ) q) hF) h
set_option maxRecDepth 20000 in
theorem m_M_readSum_o {l : Launch} {w : WO} (hL : LyM w) {o_readTerm : DD → Int32 → (DD → Prop) → Prop} {f0 q0 f_readTerm q_readTerm : Nat} (hr0 : 2 ≤ f0 ∧ 42 ≤ q0) (hr_readTerm : f_readTerm + 1 ≤ f0 ∧ 8 + (2 + 11) + q_readTerm ≤ q0) (ho_readTerm : ∀ (σ : DD) (a1 : Int32) (post : DD → Prop), o_readTerm σ a1 post → MV l w yX11_readTerm cX11_readTerm 2 (rmK f_readTerm q_readTerm) σ [.ref (wAd w 0), .int a1] post) {σ : DD} {a1 : Int32} {post : DD → Prop} (h : w_M_readSum_o o_readTerm σ a1 post) : MV l w yX11_readSum cX11_readSum 2 (rmK f0 q0) σ [.ref (wAd w 0), .int a1] post :=
  met_head (rt := none) (by decide) rfl (fun X hX C => by
  subst hX
  unfold w_M_readSum_o at h
  show gW X w (lim0 w) 2 (QV X w post) σ 0 [(0, .ref (wAd w 0)), (1, .int a1)] []
  refine r_aload_n C 0 rfl (dk_at dk_M_readSum_0 0 rfl) ?_
  refine r_iload_n C 1 rfl (dk_at dk_M_readSum_0 1 rfl) ?_
  refine r_cvV C cl_M_212 0 (hL 0 _ rfl) [.int a1] (ho_readTerm _ _ _ h) (rmK_ok2 hr_readTerm.1 hr_readTerm.2) rfl rfl (Nat.le_of_ble_eq_true rfl) (dk_at dk_M_readSum_0 2 rfl) (fun σ14 h => ?_)
  refine r_lv [0, 1] rfl ?_
  exact t_M_readSum_l5 C hL hr0 hr_readTerm ho_readTerm h
  )
set_option maxRecDepth 20000 in
theorem t_M_readTerm_j41 {o_readPart : DD → Int32 → (DD → Prop) → Prop} {f0 q0 f_readPart q_readPart : Nat} {X : CT} {w : WO} (C : CF X w (lim0 w) 2 cX11_readTerm RX11 none (.code yX11_readTerm cX11_readTerm 2 none) (rmK f0 q0)) (hL : LyM w) (hr0 : 2 ≤ f0 ∧ 42 ≤ q0) (hr_readPart : f_readPart + 1 ≤ f0 ∧ 8 + (3 + 11) + q_readPart ≤ q0) (ho_readPart : ∀ (σ : DD) (a1 : Int32) (post : DD → Prop), o_readPart σ a1 post → MV X.l w yX11_readPart cX11_readPart 3 (rmK f_readPart q_readPart) σ [.ref (wAd w 0), .int a1] post) {K5 : DD → Prop} {post : DD → Prop} {a1 : Int32} (k5 : ∀ (σ : DD), K5 σ → gW X w (lim0 w) 2 (QV X w post) σ 5 [(0, .ref (wAd w 0)), (1, .int a1)] []) {σ : DD} (h : w_M_readTerm_j41 o_readPart K5 post σ a1) : gW X w (lim0 w) 2 (QV X w post) σ 41 [(0, .ref (wAd w 0)), (1, .int a1)] [] := by
  unfold w_M_readTerm_j41 at h
  refine r_aload_n C 0 rfl (dk_at dk_M_readTerm_0 18 rfl) ?_
  refine r_iload_n C 1 rfl (dk_at dk_M_readTerm_0 19 rfl) ?_
  refine r_cvV C cl_M_215 0 (hL 0 _ rfl) [.int a1] (ho_readPart _ _ _ h) (rmK_ok2 hr_readPart.1 hr_readPart.2) rfl rfl (Nat.le_of_ble_eq_true rfl) (dk_at dk_M_readTerm_0 20 rfl) (fun σ2 h => ?_)
  refine r_goto C 5 rfl (dk_at dk_M_readTerm_0 21 rfl) ?_
  refine r_lv [0, 1] rfl ?_
  exact k5 _  h
set_option maxRecDepth 20000 in
theorem t_M_readTerm_b5 {o_readPart : DD → Int32 → (DD → Prop) → Prop} {f0 q0 f_readPart q_readPart : Nat} {X : CT} {w : WO} (C : CF X w (lim0 w) 2 cX11_readTerm RX11 none (.code yX11_readTerm cX11_readTerm 2 none) (rmK f0 q0)) (hL : LyM w) (hr0 : 2 ≤ f0 ∧ 42 ≤ q0) (hr_readPart : f_readPart + 1 ≤ f0 ∧ 8 + (3 + 11) + q_readPart ≤ q0) (ho_readPart : ∀ (σ : DD) (a1 : Int32) (post : DD → Prop), o_readPart σ a1 post → MV X.l w yX11_readPart cX11_readPart 3 (rmK f_readPart q_readPart) σ [.ref (wAd w 0), .int a1] post) {a1 : Int32} {K5 : DD → Prop} {post : DD → Prop} (k5 : ∀ (σ : DD), K5 σ → gW X w (lim0 w) 2 (QV X w post) σ 5 [(0, .ref (wAd w 0)), (1, .int a1)] []) {σ : DD} (h : w_M_readTerm_b5 o_readPart a1 K5 post σ) : gW X w (lim0 w) 2 (QV X w post) σ 5 [(0, .ref (wAd w 0)), (1, .int a1)] [] := by
  unfold w_M_readTerm_b5 at h
  refine r_aload_n C 0 rfl (dk_at dk_M_readTerm_0 3 rfl) ?_
  refine r_bipush C 42 (dk_at dk_M_readTerm_0 4 rfl) ?_
  refine r_csI C cs_M_208 [.int 42] (m_M_sign hL h) (rmK_ok2 (f := f0) (q := q0) (f' := 0) (q' := 0) (by omega) (by omega)) rfl rfl (Nat.le_of_ble_eq_true rfl) (dk_at dk_M_readTerm_0 5 rfl) (fun r3 σ4 h => ?_)
  refine r_cvI C cl_M_169 0 (hL 0 _ rfl) [.int r3] (m_M_takes0 hL h) (rmK_ok2 (f := f0) (q := q0) (f' := 1) (q' := 20) (by omega) (by omega)) rfl rfl (Nat.le_of_ble_eq_true rfl) (dk_at dk_M_readTerm_0 6 rfl) (fun r5 σ6 h => ?_)
  refine r_if_ne C 41 rfl (dk_at dk_M_readTerm_0 7 rfl) (fun c7 => ?_) (fun c7 => ?_)
  · replace h := h.1 c7
    refine r_lv [0, 1] rfl ?_
    exact t_M_readTerm_j41 C hL hr0 hr_readPart ho_readPart k5 h
  · replace h := h.2 c7
    refine r_aload_n C 0 rfl (dk_at dk_M_readTerm_0 8 rfl) ?_
    refine r_bipush C 47 (dk_at dk_M_readTerm_0 9 rfl) ?_
    refine r_csI C cs_M_208 [.int 47] (m_M_sign hL h) (rmK_ok2 (f := f0) (q := q0) (f' := 0) (q' := 0) (by omega) (by omega)) rfl rfl (Nat.le_of_ble_eq_true rfl) (dk_at dk_M_readTerm_0 10 rfl) (fun r8 σ9 h => ?_)
    refine r_cvI C cl_M_169 0 (hL 0 _ rfl) [.int r8] (m_M_takes0 hL h) (rmK_ok2 (f := f0) (q := q0) (f' := 1) (q' := 20) (by omega) (by omega)) rfl rfl (Nat.le_of_ble_eq_true rfl) (dk_at dk_M_readTerm_0 11 rfl) (fun r10 σ11 h => ?_)
    refine r_if_ne C 41 rfl (dk_at dk_M_readTerm_0 12 rfl) (fun c12 => ?_) (fun c12 => ?_)
    · replace h := h.1 c12
      refine r_lv [0, 1] rfl ?_
      exact t_M_readTerm_j41 C hL hr0 hr_readPart ho_readPart k5 h
    · replace h := h.2 c12
      refine r_aload_n C 0 rfl (dk_at dk_M_readTerm_0 13 rfl) ?_
      refine r_bipush C 37 (dk_at dk_M_readTerm_0 14 rfl) ?_
      refine r_csI C cs_M_208 [.int 37] (m_M_sign hL h) (rmK_ok2 (f := f0) (q := q0) (f' := 0) (q' := 0) (by omega) (by omega)) rfl rfl (Nat.le_of_ble_eq_true rfl) (dk_at dk_M_readTerm_0 15 rfl) (fun r13 σ14 h => ?_)
      refine r_cvI C cl_M_169 0 (hL 0 _ rfl) [.int r13] (m_M_takes0 hL h) (rmK_ok2 (f := f0) (q := q0) (f' := 1) (q' := 20) (by omega) (by omega)) rfl rfl (Nat.le_of_ble_eq_true rfl) (dk_at dk_M_readTerm_0 16 rfl) (fun r15 σ16 h => ?_)
      refine r_if_eq C 49 rfl (dk_at dk_M_readTerm_0 17 rfl) (fun c17 => ?_) (fun c17 => ?_)
      · replace h := h.1 c17
        exact r_vret C h (dk_at dk_M_readTerm_0 22 rfl)
      · replace h := h.2 c17
        refine r_lv [0, 1] rfl ?_
        exact t_M_readTerm_j41 C hL hr0 hr_readPart ho_readPart k5 h
set_option maxRecDepth 20000 in
theorem t_M_readTerm_l5 {o_readPart : DD → Int32 → (DD → Prop) → Prop} {f0 q0 f_readPart q_readPart : Nat} {X : CT} {w : WO} (C : CF X w (lim0 w) 2 cX11_readTerm RX11 none (.code yX11_readTerm cX11_readTerm 2 none) (rmK f0 q0)) (hL : LyM w) (hr0 : 2 ≤ f0 ∧ 42 ≤ q0) (hr_readPart : f_readPart + 1 ≤ f0 ∧ 8 + (3 + 11) + q_readPart ≤ q0) (ho_readPart : ∀ (σ : DD) (a1 : Int32) (post : DD → Prop), o_readPart σ a1 post → MV X.l w yX11_readPart cX11_readPart 3 (rmK f_readPart q_readPart) σ [.ref (wAd w 0), .int a1] post) {a1 : Int32} {post : DD → Prop} {σ : DD} (h : w_M_readTerm_l5 o_readPart post σ a1) : gW X w (lim0 w) 2 (QV X w post) σ 5 [(0, .ref (wAd w 0)), (1, .int a1)] [] :=
  LoopW (G := fun x : DD => gW X w (lim0 w) 2 (QV X w post) x 5 [(0, .ref (wAd w 0)), (1, .int a1)] []) (fun K x hK hF => t_M_readTerm_b5 C hL hr0 hr_readPart ho_readPart (fun σ q => hK (σ) q) hF) h
set_option maxRecDepth 20000 in
theorem m_M_readTerm_o {l : Launch} {w : WO} (hL : LyM w) {o_readPart : DD → Int32 → (DD → Prop) → Prop} {f0 q0 f_readPart q_readPart : Nat} (hr0 : 2 ≤ f0 ∧ 42 ≤ q0) (hr_readPart : f_readPart + 1 ≤ f0 ∧ 8 + (3 + 11) + q_readPart ≤ q0) (ho_readPart : ∀ (σ : DD) (a1 : Int32) (post : DD → Prop), o_readPart σ a1 post → MV l w yX11_readPart cX11_readPart 3 (rmK f_readPart q_readPart) σ [.ref (wAd w 0), .int a1] post) {σ : DD} {a1 : Int32} {post : DD → Prop} (h : w_M_readTerm_o o_readPart σ a1 post) : MV l w yX11_readTerm cX11_readTerm 2 (rmK f0 q0) σ [.ref (wAd w 0), .int a1] post :=
  met_head (rt := none) (by decide) rfl (fun X hX C => by
  subst hX
  unfold w_M_readTerm_o at h
  show gW X w (lim0 w) 2 (QV X w post) σ 0 [(0, .ref (wAd w 0)), (1, .int a1)] []
  refine r_aload_n C 0 rfl (dk_at dk_M_readTerm_0 0 rfl) ?_
  refine r_iload_n C 1 rfl (dk_at dk_M_readTerm_0 1 rfl) ?_
  refine r_cvV C cl_M_215 0 (hL 0 _ rfl) [.int a1] (ho_readPart _ _ _ h) (rmK_ok2 hr_readPart.1 hr_readPart.2) rfl rfl (Nat.le_of_ble_eq_true rfl) (dk_at dk_M_readTerm_0 2 rfl) (fun σ19 h => ?_)
  refine r_lv [0, 1] rfl ?_
  exact t_M_readTerm_l5 C hL hr0 hr_readPart ho_readPart h
  )
set_option maxRecDepth 20000 in
theorem m_M_readSum_d {l : Launch} {w : WO} (hL : LyM w) : ∀ d : Nat, ∀ (σ : DD) (a1 : Int32) (post : DD → Prop), w_M_readSum_d d σ a1 post → MV l w yX11_readSum cX11_readSum 2 (rmK (3 + 3 * d) (63 + 64 * d)) σ [.ref (wAd w 0), .int a1] post := by
  intro d
  induction d with
  | zero => exact fun _ _ _ h => h.elim
  | succ n ih =>
    rw [show 3 + 3 * (n + 1) = 3 + 3 * n + 3 by omega, show 63 + 64 * (n + 1) = 63 + 64 * n + 64 by omega]
    exact (fun _ _ _ h => m_M_readSum_o hL (f0 := 3 + 3 * n + 3) (q0 := 63 + 64 * n + 64) (f_readTerm := 3 + 3 * n + 2) (q_readTerm := 63 + 64 * n + 43) (by omega) (by omega) (fun _ _ _ h => m_M_readTerm_o hL (f0 := 3 + 3 * n + 2) (q0 := 63 + 64 * n + 43) (f_readPart := 3 + 3 * n + 1) (q_readPart := 63 + 64 * n + 21) (by omega) (by omega) (fun _ _ _ h => m_M_readPart_o hL (f0 := 3 + 3 * n + 1) (q0 := 63 + 64 * n + 21) (f_readSum := 3 + 3 * n + 0) (q_readSum := 63 + 64 * n + 0) (by omega) (by omega) ih h) h) h)
set_option maxRecDepth 20000 in
theorem m_M_readSum {l : Launch} {w : WO} (hL : LyM w) {σ : DD} {a1 : Int32} {post : DD → Prop} (h : w_M_readSum σ a1 post) : MV l w yX11_readSum cX11_readSum 2 (rmK 39 831) σ [.ref (wAd w 0), .int a1] post :=
  m_M_readSum_d hL 12 _ _ _ h
set_option maxRecDepth 20000 in
theorem t_M_readBoth_b5 {o_readPlain : DD → Int32 → (DD → Prop) → Prop} {f0 q0 f_readPlain q_readPlain : Nat} {X : CT} {w : WO} (C : CF X w (lim0 w) 2 cX11_readBoth RX11 none (.code yX11_readBoth cX11_readBoth 2 none) (rmK f0 q0)) (hL : LyM w) (hr0 : 2 ≤ f0 ∧ 42 ≤ q0) (hr_readPlain : f_readPlain + 1 ≤ f0 ∧ 8 + (4 + 11) + q_readPlain ≤ q0) (ho_readPlain : ∀ (σ : DD) (a1 : Int32) (post : DD → Prop), o_readPlain σ a1 post → MV X.l w yX11_readPlain cX11_readPlain 4 (rmK f_readPlain q_readPlain) σ [.ref (wAd w 0), .int a1] post) {a1 : Int32} {K5 : DD → Prop} {post : DD → Prop} (k5 : ∀ (σ : DD), K5 σ → gW X w (lim0 w) 2 (QV X w post) σ 5 [(0, .ref (wAd w 0)), (1, .int a1)] []) {σ : DD} (h : w_M_readBoth_b5 o_readPlain a1 K5 post σ) : gW X w (lim0 w) 2 (QV X w post) σ 5 [(0, .ref (wAd w 0)), (1, .int a1)] [] := by
  unfold w_M_readBoth_b5 at h
  refine r_aload_n C 0 rfl (dk_at dk_M_readBoth_0 3 rfl) ?_
  refine r_bipush C 6 (dk_at dk_M_readBoth_0 4 rfl) ?_
  refine r_cvI C cl_M_169 0 (hL 0 _ rfl) [.int 6] (m_M_takes0 hL h) (rmK_ok2 (f := f0) (q := q0) (f' := 1) (q' := 20) (by omega) (by omega)) rfl rfl (Nat.le_of_ble_eq_true rfl) (dk_at dk_M_readBoth_0 5 rfl) (fun r1 σ2 h => ?_)
  refine r_if_eq C 22 rfl (dk_at dk_M_readBoth_0 6 rfl) (fun c3 => ?_) (fun c3 => ?_)
  · replace h := h.1 c3
    exact r_vret C h (dk_at dk_M_readBoth_0 11 rfl)
  · replace h := h.2 c3
    refine r_aload_n C 0 rfl (dk_at dk_M_readBoth_0 7 rfl) ?_
    refine r_iload_n C 1 rfl (dk_at dk_M_readBoth_0 8 rfl) ?_
    refine r_cvV C cl_M_205 0 (hL 0 _ rfl) [.int a1] (ho_readPlain _ _ _ h) (rmK_ok2 hr_readPlain.1 hr_readPlain.2) rfl rfl (Nat.le_of_ble_eq_true rfl) (dk_at dk_M_readBoth_0 9 rfl) (fun σ5 h => ?_)
    refine r_goto C 5 rfl (dk_at dk_M_readBoth_0 10 rfl) ?_
    refine r_lv [0, 1] rfl ?_
    exact k5 _  h
set_option maxRecDepth 20000 in
theorem t_M_readBoth_l5 {o_readPlain : DD → Int32 → (DD → Prop) → Prop} {f0 q0 f_readPlain q_readPlain : Nat} {X : CT} {w : WO} (C : CF X w (lim0 w) 2 cX11_readBoth RX11 none (.code yX11_readBoth cX11_readBoth 2 none) (rmK f0 q0)) (hL : LyM w) (hr0 : 2 ≤ f0 ∧ 42 ≤ q0) (hr_readPlain : f_readPlain + 1 ≤ f0 ∧ 8 + (4 + 11) + q_readPlain ≤ q0) (ho_readPlain : ∀ (σ : DD) (a1 : Int32) (post : DD → Prop), o_readPlain σ a1 post → MV X.l w yX11_readPlain cX11_readPlain 4 (rmK f_readPlain q_readPlain) σ [.ref (wAd w 0), .int a1] post) {a1 : Int32} {post : DD → Prop} {σ : DD} (h : w_M_readBoth_l5 o_readPlain post σ a1) : gW X w (lim0 w) 2 (QV X w post) σ 5 [(0, .ref (wAd w 0)), (1, .int a1)] [] :=
  LoopW (G := fun x : DD => gW X w (lim0 w) 2 (QV X w post) x 5 [(0, .ref (wAd w 0)), (1, .int a1)] []) (fun K x hK hF => t_M_readBoth_b5 C hL hr0 hr_readPlain ho_readPlain (fun σ q => hK (σ) q) hF) h
set_option maxRecDepth 20000 in
theorem m_M_readBoth_o {l : Launch} {w : WO} (hL : LyM w) {o_readPlain : DD → Int32 → (DD → Prop) → Prop} {f0 q0 f_readPlain q_readPlain : Nat} (hr0 : 2 ≤ f0 ∧ 42 ≤ q0) (hr_readPlain : f_readPlain + 1 ≤ f0 ∧ 8 + (4 + 11) + q_readPlain ≤ q0) (ho_readPlain : ∀ (σ : DD) (a1 : Int32) (post : DD → Prop), o_readPlain σ a1 post → MV l w yX11_readPlain cX11_readPlain 4 (rmK f_readPlain q_readPlain) σ [.ref (wAd w 0), .int a1] post) {σ : DD} {a1 : Int32} {post : DD → Prop} (h : w_M_readBoth_o o_readPlain σ a1 post) : MV l w yX11_readBoth cX11_readBoth 2 (rmK f0 q0) σ [.ref (wAd w 0), .int a1] post :=
  met_head (rt := none) (by decide) rfl (fun X hX C => by
  subst hX
  unfold w_M_readBoth_o at h
  show gW X w (lim0 w) 2 (QV X w post) σ 0 [(0, .ref (wAd w 0)), (1, .int a1)] []
  refine r_aload_n C 0 rfl (dk_at dk_M_readBoth_0 0 rfl) ?_
  refine r_iload_n C 1 rfl (dk_at dk_M_readBoth_0 1 rfl) ?_
  refine r_cvV C cl_M_205 0 (hL 0 _ rfl) [.int a1] (ho_readPlain _ _ _ h) (rmK_ok2 hr_readPlain.1 hr_readPlain.2) rfl rfl (Nat.le_of_ble_eq_true rfl) (dk_at dk_M_readBoth_0 2 rfl) (fun σ7 h => ?_)
  refine r_lv [0, 1] rfl ?_
  exact t_M_readBoth_l5 C hL hr0 hr_readPlain ho_readPlain h
  )
set_option maxRecDepth 20000 in
theorem t_M_readPlain_j53 {o_readTest : DD → Int32 → (DD → Prop) → Prop} {f0 q0 f_readTest q_readTest : Nat} {X : CT} {w : WO} (C : CF X w (lim0 w) 4 cX11_readPlain RX11 none (.code yX11_readPlain cX11_readPlain 4 none) (rmK f0 q0)) (hL : LyM w) (hr0 : 40 ≤ f0 ∧ 852 ≤ q0) (hr_readTest : f_readTest + 1 ≤ f0 ∧ 8 + (2 + 11) + q_readTest ≤ q0) (ho_readTest : ∀ (σ : DD) (a1 : Int32) (post : DD → Prop), o_readTest σ a1 post → MV X.l w yX11_readTest cX11_readTest 2 (rmK f_readTest q_readTest) σ [.ref (wAd w 0), .int a1] post) {post : DD → Prop} {a1 : Int32} {σ : DD} (h : w_M_readPlain_j53 o_readTest post σ a1) : gW X w (lim0 w) 4 (QV X w post) σ 53 [(0, .ref (wAd w 0)), (1, .int a1)] [] := by
  unfold w_M_readPlain_j53 at h
  refine r_aload_n C 0 rfl (dk_at dk_M_readPlain_0 28 rfl) ?_
  refine r_cvI C cl_M_162 0 (hL 0 _ rfl) [] (m_M_isFine hL h) (rmK_ok2 (f := f0) (q := q0) (f' := 0) (q' := 0) (by omega) (by omega)) rfl rfl (Nat.le_of_ble_eq_true rfl) (dk_at dk_M_readPlain_0 29 rfl) (fun r1 σ2 h => ?_)
  refine r_if_ne C 61 rfl (dk_at dk_M_readPlain_0 30 rfl) (fun c3 => ?_) (fun c3 => ?_)
  · replace h := h.1 c3
    refine r_aload_n C 0 rfl (dk_at dk_M_readPlain_0 32 rfl) ?_
    refine r_dup C rfl (dk_at dk_M_readPlain_0 33 rfl) ?_
    refine r_getI C fl_M_166 0 (hL 0 _ rfl) rfl (dk_at dk_M_readPlain_0 34 rfl) ?_
    refine r_iconst C 1 (dk_at dk_M_readPlain_0 35 rfl) ?_
    refine r_iadd C (dk_at dk_M_readPlain_0 36 rfl) ?_
    refine r_putI C fl_M_166 0 (hL 0 _ rfl) rfl (dk_at dk_M_readPlain_0 37 rfl) (r_sg (fun σ4 e5 => ?_))
    replace h := h σ4 e5
    refine r_aload_n C 0 rfl (dk_at dk_M_readPlain_0 38 rfl) ?_
    refine r_iload_n C 1 rfl (dk_at dk_M_readPlain_0 39 rfl) ?_
    refine r_iconst C 1 (dk_at dk_M_readPlain_1 0 rfl) ?_
    refine r_iadd C (dk_at dk_M_readPlain_1 1 rfl) ?_
    refine r_cvV C cl_M_185 0 (hL 0 _ rfl) [.int (a1 + 1)] (ho_readTest _ _ _ h) (rmK_ok2 hr_readTest.1 hr_readTest.2) rfl rfl (Nat.le_of_ble_eq_true rfl) (dk_at dk_M_readPlain_1 2 rfl) (fun σ7 h => ?_)
    refine r_aload_n C 0 rfl (dk_at dk_M_readPlain_1 3 rfl) ?_
    refine r_bipush C 41 (dk_at dk_M_readPlain_1 4 rfl) ?_
    refine r_csI C cs_M_208 [.int 41] (m_M_sign hL h) (rmK_ok2 (f := f0) (q := q0) (f' := 0) (q' := 0) (by omega) (by omega)) rfl rfl (Nat.le_of_ble_eq_true rfl) (dk_at dk_M_readPlain_1 5 rfl) (fun r8 σ9 h => ?_)
    refine r_cvV C cl_M_182 0 (hL 0 _ rfl) [.int r8] (m_M_must hL h) (rmK_ok2 (f := f0) (q := q0) (f' := 2) (q' := 42) (by omega) (by omega)) rfl rfl (Nat.le_of_ble_eq_true rfl) (dk_at dk_M_readPlain_1 6 rfl) (fun σ11 h => ?_)
    refine r_goto C 133 rfl (dk_at dk_M_readPlain_1 7 rfl) ?_
    exact r_vret C h (dk_at dk_M_readPlain_1 28 rfl)
  · replace h := h.2 c3
    exact r_vret C h (dk_at dk_M_readPlain_0 31 rfl)
set_option maxRecDepth 20000 in
theorem t_M_readPlain_j128 {o_readTest : DD → Int32 → (DD → Prop) → Prop} {f0 q0 f_readTest q_readTest : Nat} {X : CT} {w : WO} (C : CF X w (lim0 w) 4 cX11_readPlain RX11 none (.code yX11_readPlain cX11_readPlain 4 none) (rmK f0 q0)) (hL : LyM w) (hr0 : 40 ≤ f0 ∧ 852 ≤ q0) (hr_readTest : f_readTest + 1 ≤ f0 ∧ 8 + (2 + 11) + q_readTest ≤ q0) (ho_readTest : ∀ (σ : DD) (a1 : Int32) (post : DD → Prop), o_readTest σ a1 post → MV X.l w yX11_readTest cX11_readTest 2 (rmK f_readTest q_readTest) σ [.ref (wAd w 0), .int a1] post) {post : DD → Prop} {a1 : Int32} {σ : DD} (h : w_M_readPlain_j128 o_readTest post σ a1) : gW X w (lim0 w) 4 (QV X w post) σ 128 [(0, .ref (wAd w 0)), (1, .int a1)] [] := by
  unfold w_M_readPlain_j128 at h
  refine r_aload_n C 0 rfl (dk_at dk_M_readPlain_1 25 rfl) ?_
  refine r_iload_n C 1 rfl (dk_at dk_M_readPlain_1 26 rfl) ?_
  refine r_cvV C cl_M_178 0 (hL 0 _ rfl) [.int a1] (m_M_readSum hL h) (rmK_ok2 (f := f0) (q := q0) (f' := 39) (q' := 831) (by omega) (by omega)) rfl rfl (Nat.le_of_ble_eq_true rfl) (dk_at dk_M_readPlain_1 27 rfl) (fun σ13 h => ?_)
  exact r_vret C h (dk_at dk_M_readPlain_1 28 rfl)
set_option maxRecDepth 20000 in
theorem t_M_readPlain_b2 {o_readTest : DD → Int32 → (DD → Prop) → Prop} {f0 q0 f_readTest q_readTest : Nat} {X : CT} {w : WO} (C : CF X w (lim0 w) 4 cX11_readPlain RX11 none (.code yX11_readPlain cX11_readPlain 4 none) (rmK f0 q0)) (hL : LyM w) (hr0 : 40 ≤ f0 ∧ 852 ≤ q0) (hr_readTest : f_readTest + 1 ≤ f0 ∧ 8 + (2 + 11) + q_readTest ≤ q0) (ho_readTest : ∀ (σ : DD) (a1 : Int32) (post : DD → Prop), o_readTest σ a1 post → MV X.l w yX11_readTest cX11_readTest 2 (rmK f_readTest q_readTest) σ [.ref (wAd w 0), .int a1] post) {a1 : Int32} {K2 : DD → Int32 → Prop} {post : DD → Prop} (k2 : ∀ (σ : DD) (a2 : Int32), K2 σ a2 → gW X w (lim0 w) 4 (QV X w post) σ 2 [(0, .ref (wAd w 0)), (1, .int a1), (2, .int a2)] []) {σ : DD} {a2 : Int32} (h : w_M_readPlain_b2 o_readTest a1 K2 post σ a2) : gW X w (lim0 w) 4 (QV X w post) σ 2 [(0, .ref (wAd w 0)), (1, .int a1), (2, .int a2)] [] := by
  unfold w_M_readPlain_b2 at h
  refine r_iload_n C 2 rfl (dk_at dk_M_readPlain_0 2 rfl) ?_
  refine r_if_eq C 16 rfl (dk_at dk_M_readPlain_0 3 rfl) (fun c14 => ?_) (fun c14 => ?_)
  · replace h := h.1 c14
    refine r_aload_n C 0 rfl (dk_at dk_M_readPlain_0 9 rfl) ?_
    refine r_cvI C cl_M_162 0 (hL 0 _ rfl) [] (m_M_isFine hL h) (rmK_ok2 (f := f0) (q := q0) (f' := 0) (q' := 0) (by omega) (by omega)) rfl rfl (Nat.le_of_ble_eq_true rfl) (dk_at dk_M_readPlain_0 10 rfl) (fun r15 σ16 h => ?_)
    refine r_if_ne C 24 rfl (dk_at dk_M_readPlain_0 11 rfl) (fun c17 => ?_) (fun c17 => ?_)
    · replace h := h.1 c17
      refine r_aload_n C 0 rfl (dk_at dk_M_readPlain_0 13 rfl) ?_
      refine r_getR C fl_M_43 0 (hL 0 _ rfl) rfl (dk_at dk_M_readPlain_0 14 rfl) ?_
      refine r_aload_n C 0 rfl (dk_at dk_M_readPlain_0 15 rfl) ?_
      refine r_getI C fl_M_166 0 (hL 0 _ rfl) rfl (dk_at dk_M_readPlain_0 16 rfl) ?_
      obtain ⟨q18, h⟩ := h
      refine r_iald C 16 (hL 16 _ rfl) q18 (dk_at dk_M_readPlain_0 17 rfl) ?_
      refine r_topi (fun v19 e20 => ?_)
      replace h := h v19 e20
      refine r_istore_n C [(3, .int v19), (0, .ref (wAd w 0)), (1, .int a1), (2, .int a2)] rfl rfl (dk_at dk_M_readPlain_0 18 rfl) ?_
      refine r_iload_n C 0 rfl (dk_at dk_M_readPlain_0 19 rfl) ?_
      refine r_bipush C 40 (dk_at dk_M_readPlain_0 20 rfl) ?_
      refine r_csI C cs_M_208 [.int 40] (m_M_sign hL h) (rmK_ok2 (f := f0) (q := q0) (f' := 0) (q' := 0) (by omega) (by omega)) rfl rfl (Nat.le_of_ble_eq_true rfl) (dk_at dk_M_readPlain_0 21 rfl) (fun r21 σ22 h => ?_)
      refine r_icmp_ne C 90 rfl (dk_at dk_M_readPlain_0 22 rfl) (fun c23 => ?_) (fun c23 => ?_)
      · replace h := h.1 c23
        refine r_aload_n C 1 rfl (dk_at dk_M_readPlain_1 8 rfl) ?_
        refine r_iload_n C 2 rfl (dk_at dk_M_readPlain_1 9 rfl) ?_
        refine r_cvV C cl_M_178 0 (hL 0 _ rfl) [.int a1] (m_M_readSum hL h) (rmK_ok2 (f := f0) (q := q0) (f' := 39) (q' := 831) (by omega) (by omega)) rfl rfl (Nat.le_of_ble_eq_true rfl) (dk_at dk_M_readPlain_1 10 rfl) (fun σ25 h => ?_)
        refine r_aload_n C 1 rfl (dk_at dk_M_readPlain_1 11 rfl) ?_
        refine r_bipush C 60 (dk_at dk_M_readPlain_1 12 rfl) ?_
        refine r_csI C cs_M_208 [.int 60] (m_M_sign hL h) (rmK_ok2 (f := f0) (q := q0) (f' := 0) (q' := 0) (by omega) (by omega)) rfl rfl (Nat.le_of_ble_eq_true rfl) (dk_at dk_M_readPlain_1 13 rfl) (fun r26 σ27 h => ?_)
        refine r_cvI C cl_M_169 0 (hL 0 _ rfl) [.int r26] (m_M_takes0 hL h) (rmK_ok2 (f := f0) (q := q0) (f' := 1) (q' := 20) (by omega) (by omega)) rfl rfl (Nat.le_of_ble_eq_true rfl) (dk_at dk_M_readPlain_1 14 rfl) (fun r28 σ29 h => ?_)
        refine r_if_ne C 128 rfl (dk_at dk_M_readPlain_1 15 rfl) (fun c30 => ?_) (fun c30 => ?_)
        · replace h := h.1 c30
          refine r_lv [1, 2] rfl ?_
          exact t_M_readPlain_j128 C hL hr0 hr_readTest ho_readTest h
        · replace h := h.2 c30
          refine r_aload_n C 1 rfl (dk_at dk_M_readPlain_1 16 rfl) ?_
          refine r_bipush C 62 (dk_at dk_M_readPlain_1 17 rfl) ?_
          refine r_csI C cs_M_208 [.int 62] (m_M_sign hL h) (rmK_ok2 (f := f0) (q := q0) (f' := 0) (q' := 0) (by omega) (by omega)) rfl rfl (Nat.le_of_ble_eq_true rfl) (dk_at dk_M_readPlain_1 18 rfl) (fun r31 σ32 h => ?_)
          refine r_cvI C cl_M_169 0 (hL 0 _ rfl) [.int r31] (m_M_takes0 hL h) (rmK_ok2 (f := f0) (q := q0) (f' := 1) (q' := 20) (by omega) (by omega)) rfl rfl (Nat.le_of_ble_eq_true rfl) (dk_at dk_M_readPlain_1 19 rfl) (fun r33 σ34 h => ?_)
          refine r_if_ne C 128 rfl (dk_at dk_M_readPlain_1 20 rfl) (fun c35 => ?_) (fun c35 => ?_)
          · replace h := h.1 c35
            refine r_lv [1, 2] rfl ?_
            exact t_M_readPlain_j128 C hL hr0 hr_readTest ho_readTest h
          · replace h := h.2 c35
            refine r_aload_n C 1 rfl (dk_at dk_M_readPlain_1 21 rfl) ?_
            refine r_bipush C 61 (dk_at dk_M_readPlain_1 22 rfl) ?_
            refine r_csI C cs_M_208 [.int 61] (m_M_sign hL h) (rmK_ok2 (f := f0) (q := q0) (f' := 0) (q' := 0) (by omega) (by omega)) rfl rfl (Nat.le_of_ble_eq_true rfl) (dk_at dk_M_readPlain_1 23 rfl) (fun r36 σ37 h => ?_)
            refine r_cvV C cl_M_182 0 (hL 0 _ rfl) [.int r36] (m_M_must hL h) (rmK_ok2 (f := f0) (q := q0) (f' := 2) (q' := 42) (by omega) (by omega)) rfl rfl (Nat.le_of_ble_eq_true rfl) (dk_at dk_M_readPlain_1 24 rfl) (fun σ39 h => ?_)
            refine r_lv [1, 2] rfl ?_
            exact t_M_readPlain_j128 C hL hr0 hr_readTest ho_readTest h
      · replace h := h.2 c23
        refine r_iload_n C 2 rfl (dk_at dk_M_readPlain_0 23 rfl) ?_
        refine r_bipush C 8 (dk_at dk_M_readPlain_0 24 rfl) ?_
        refine r_icmp_ne C 53 rfl (dk_at dk_M_readPlain_0 25 rfl) (fun c40 => ?_) (fun c40 => ?_)
        · replace h := h.1 c40
          refine r_lv [1, 2] rfl ?_
          exact t_M_readPlain_j53 C hL hr0 hr_readTest ho_readTest h
        · replace h := h.2 c40
          refine r_aload_n C 1 rfl (dk_at dk_M_readPlain_0 26 rfl) ?_
          refine r_cvV C cl_M_172 0 (hL 0 _ rfl) [] (m_M_faults hL h) (rmK_ok2 (f := f0) (q := q0) (f' := 1) (q' := 20) (by omega) (by omega)) rfl rfl (Nat.le_of_ble_eq_true rfl) (dk_at dk_M_readPlain_0 27 rfl) (fun σ42 h => ?_)
          refine r_lv [1, 2] rfl ?_
          exact t_M_readPlain_j53 C hL hr0 hr_readTest ho_readTest h
    · replace h := h.2 c17
      exact r_vret C h (dk_at dk_M_readPlain_0 12 rfl)
  · replace h := h.2 c14
    refine r_aload_n C 0 rfl (dk_at dk_M_readPlain_0 4 rfl) ?_
    refine r_bipush C 7 (dk_at dk_M_readPlain_0 5 rfl) ?_
    refine r_cvI C cl_M_169 0 (hL 0 _ rfl) [.int 7] (m_M_takes0 hL h) (rmK_ok2 (f := f0) (q := q0) (f' := 1) (q' := 20) (by omega) (by omega)) rfl rfl (Nat.le_of_ble_eq_true rfl) (dk_at dk_M_readPlain_0 6 rfl) (fun r43 σ44 h => ?_)
    refine r_istore_n C [(2, .int r43), (0, .ref (wAd w 0)), (1, .int a1)] rfl rfl (dk_at dk_M_readPlain_0 7 rfl) ?_
    refine r_goto C 2 rfl (dk_at dk_M_readPlain_0 8 rfl) ?_
    refine r_lv [1, 2, 0] rfl ?_
    exact k2 _ _ h
set_option maxRecDepth 20000 in
theorem t_M_readPlain_l2 {o_readTest : DD → Int32 → (DD → Prop) → Prop} {f0 q0 f_readTest q_readTest : Nat} {X : CT} {w : WO} (C : CF X w (lim0 w) 4 cX11_readPlain RX11 none (.code yX11_readPlain cX11_readPlain 4 none) (rmK f0 q0)) (hL : LyM w) (hr0 : 40 ≤ f0 ∧ 852 ≤ q0) (hr_readTest : f_readTest + 1 ≤ f0 ∧ 8 + (2 + 11) + q_readTest ≤ q0) (ho_readTest : ∀ (σ : DD) (a1 : Int32) (post : DD → Prop), o_readTest σ a1 post → MV X.l w yX11_readTest cX11_readTest 2 (rmK f_readTest q_readTest) σ [.ref (wAd w 0), .int a1] post) {a1 : Int32} {post : DD → Prop} {σ : DD} {a2 : Int32} (h : w_M_readPlain_l2 o_readTest post σ a1 a2) : gW X w (lim0 w) 4 (QV X w post) σ 2 [(0, .ref (wAd w 0)), (1, .int a1), (2, .int a2)] [] :=
  LoopW (G := fun x : DD × Int32 => gW X w (lim0 w) 4 (QV X w post) x.1 2 [(0, .ref (wAd w 0)), (1, .int a1), (2, .int x.2)] []) (fun K x hK hF => t_M_readPlain_b2 C hL hr0 hr_readTest ho_readTest (fun σ a2 q => hK (σ, a2) q) hF) h
set_option maxRecDepth 20000 in
theorem m_M_readPlain_o {l : Launch} {w : WO} (hL : LyM w) {o_readTest : DD → Int32 → (DD → Prop) → Prop} {f0 q0 f_readTest q_readTest : Nat} (hr0 : 40 ≤ f0 ∧ 852 ≤ q0) (hr_readTest : f_readTest + 1 ≤ f0 ∧ 8 + (2 + 11) + q_readTest ≤ q0) (ho_readTest : ∀ (σ : DD) (a1 : Int32) (post : DD → Prop), o_readTest σ a1 post → MV l w yX11_readTest cX11_readTest 2 (rmK f_readTest q_readTest) σ [.ref (wAd w 0), .int a1] post) {σ : DD} {a1 : Int32} {post : DD → Prop} (h : w_M_readPlain_o o_readTest σ a1 post) : MV l w yX11_readPlain cX11_readPlain 4 (rmK f0 q0) σ [.ref (wAd w 0), .int a1] post :=
  met_head (rt := none) (by decide) rfl (fun X hX C => by
  subst hX
  unfold w_M_readPlain_o at h
  show gW X w (lim0 w) 4 (QV X w post) σ 0 [(0, .ref (wAd w 0)), (1, .int a1)] []
  refine r_iconst C 1 (dk_at dk_M_readPlain_0 0 rfl) ?_
  refine r_istore_n C [(2, .int 1), (0, .ref (wAd w 0)), (1, .int a1)] rfl rfl (dk_at dk_M_readPlain_0 1 rfl) ?_
  refine r_lv [1, 2, 0] rfl ?_
  exact t_M_readPlain_l2 C hL hr0 hr_readTest ho_readTest h
  )
set_option maxRecDepth 20000 in
theorem t_M_readTest_b5 {o_readBoth : DD → Int32 → (DD → Prop) → Prop} {f0 q0 f_readBoth q_readBoth : Nat} {X : CT} {w : WO} (C : CF X w (lim0 w) 2 cX11_readTest RX11 none (.code yX11_readTest cX11_readTest 2 none) (rmK f0 q0)) (hL : LyM w) (hr0 : 2 ≤ f0 ∧ 42 ≤ q0) (hr_readBoth : f_readBoth + 1 ≤ f0 ∧ 8 + (2 + 11) + q_readBoth ≤ q0) (ho_readBoth : ∀ (σ : DD) (a1 : Int32) (post : DD → Prop), o_readBoth σ a1 post → MV X.l w yX11_readBoth cX11_readBoth 2 (rmK f_readBoth q_readBoth) σ [.ref (wAd w 0), .int a1] post) {a1 : Int32} {K5 : DD → Prop} {post : DD → Prop} (k5 : ∀ (σ : DD), K5 σ → gW X w (lim0 w) 2 (QV X w post) σ 5 [(0, .ref (wAd w 0)), (1, .int a1)] []) {σ : DD} (h : w_M_readTest_b5 o_readBoth a1 K5 post σ) : gW X w (lim0 w) 2 (QV X w post) σ 5 [(0, .ref (wAd w 0)), (1, .int a1)] [] := by
  unfold w_M_readTest_b5 at h
  refine r_aload_n C 0 rfl (dk_at dk_M_readTest_0 3 rfl) ?_
  refine r_iconst C 5 (dk_at dk_M_readTest_0 4 rfl) ?_
  refine r_cvI C cl_M_169 0 (hL 0 _ rfl) [.int 5] (m_M_takes0 hL h) (rmK_ok2 (f := f0) (q := q0) (f' := 1) (q' := 20) (by omega) (by omega)) rfl rfl (Nat.le_of_ble_eq_true rfl) (dk_at dk_M_readTest_0 5 rfl) (fun r1 σ2 h => ?_)
  refine r_if_eq C 21 rfl (dk_at dk_M_readTest_0 6 rfl) (fun c3 => ?_) (fun c3 => ?_)
  · replace h := h.1 c3
    exact r_vret C h (dk_at dk_M_readTest_0 11 rfl)
  · replace h := h.2 c3
    refine r_aload_n C 0 rfl (dk_at dk_M_readTest_0 7 rfl) ?_
    refine r_iload_n C 1 rfl (dk_at dk_M_readTest_0 8 rfl) ?_
    refine r_cvV C cl_M_202 0 (hL 0 _ rfl) [.int a1] (ho_readBoth _ _ _ h) (rmK_ok2 hr_readBoth.1 hr_readBoth.2) rfl rfl (Nat.le_of_ble_eq_true rfl) (dk_at dk_M_readTest_0 9 rfl) (fun σ5 h => ?_)
    refine r_goto C 5 rfl (dk_at dk_M_readTest_0 10 rfl) ?_
    refine r_lv [0, 1] rfl ?_
    exact k5 _  h
set_option maxRecDepth 20000 in
theorem t_M_readTest_l5 {o_readBoth : DD → Int32 → (DD → Prop) → Prop} {f0 q0 f_readBoth q_readBoth : Nat} {X : CT} {w : WO} (C : CF X w (lim0 w) 2 cX11_readTest RX11 none (.code yX11_readTest cX11_readTest 2 none) (rmK f0 q0)) (hL : LyM w) (hr0 : 2 ≤ f0 ∧ 42 ≤ q0) (hr_readBoth : f_readBoth + 1 ≤ f0 ∧ 8 + (2 + 11) + q_readBoth ≤ q0) (ho_readBoth : ∀ (σ : DD) (a1 : Int32) (post : DD → Prop), o_readBoth σ a1 post → MV X.l w yX11_readBoth cX11_readBoth 2 (rmK f_readBoth q_readBoth) σ [.ref (wAd w 0), .int a1] post) {a1 : Int32} {post : DD → Prop} {σ : DD} (h : w_M_readTest_l5 o_readBoth post σ a1) : gW X w (lim0 w) 2 (QV X w post) σ 5 [(0, .ref (wAd w 0)), (1, .int a1)] [] :=
  LoopW (G := fun x : DD => gW X w (lim0 w) 2 (QV X w post) x 5 [(0, .ref (wAd w 0)), (1, .int a1)] []) (fun K x hK hF => t_M_readTest_b5 C hL hr0 hr_readBoth ho_readBoth (fun σ q => hK (σ) q) hF) h
set_option maxRecDepth 20000 in
theorem m_M_readTest_o {l : Launch} {w : WO} (hL : LyM w) {o_readBoth : DD → Int32 → (DD → Prop) → Prop} {f0 q0 f_readBoth q_readBoth : Nat} (hr0 : 2 ≤ f0 ∧ 42 ≤ q0) (hr_readBoth : f_readBoth + 1 ≤ f0 ∧ 8 + (2 + 11) + q_readBoth ≤ q0) (ho_readBoth : ∀ (σ : DD) (a1 : Int32) (post : DD → Prop), o_readBoth σ a1 post → MV l w yX11_readBoth cX11_readBoth 2 (rmK f_readBoth q_readBoth) σ [.ref (wAd w 0), .int a1] post) {σ : DD} {a1 : Int32} {post : DD → Prop} (h : w_M_readTest_o o_readBoth σ a1 post) : MV l w yX11_readTest cX11_readTest 2 (rmK f0 q0) σ [.ref (wAd w 0), .int a1] post :=
  met_head (rt := none) (by decide) rfl (fun X hX C => by
  subst hX
  unfold w_M_readTest_o at h
  show gW X w (lim0 w) 2 (QV X w post) σ 0 [(0, .ref (wAd w 0)), (1, .int a1)] []
  refine r_aload_n C 0 rfl (dk_at dk_M_readTest_0 0 rfl) ?_
  refine r_iload_n C 1 rfl (dk_at dk_M_readTest_0 1 rfl) ?_
  refine r_cvV C cl_M_202 0 (hL 0 _ rfl) [.int a1] (ho_readBoth _ _ _ h) (rmK_ok2 hr_readBoth.1 hr_readBoth.2) rfl rfl (Nat.le_of_ble_eq_true rfl) (dk_at dk_M_readTest_0 2 rfl) (fun σ7 h => ?_)
  refine r_lv [0, 1] rfl ?_
  exact t_M_readTest_l5 C hL hr0 hr_readBoth ho_readBoth h
  )
set_option maxRecDepth 20000 in
theorem m_M_readTest_d {l : Launch} {w : WO} (hL : LyM w) : ∀ d : Nat, ∀ (σ : DD) (a1 : Int32) (post : DD → Prop), w_M_readTest_d d σ a1 post → MV l w yX11_readTest cX11_readTest 2 (rmK (40 + 3 * d) (852 + 65 * d)) σ [.ref (wAd w 0), .int a1] post := by
  intro d
  induction d with
  | zero => exact fun _ _ _ h => h.elim
  | succ n ih =>
    rw [show 40 + 3 * (n + 1) = 40 + 3 * n + 3 by omega, show 852 + 65 * (n + 1) = 852 + 65 * n + 65 by omega]
    exact (fun _ _ _ h => m_M_readTest_o hL (f0 := 40 + 3 * n + 3) (q0 := 852 + 65 * n + 65) (f_readBoth := 40 + 3 * n + 2) (q_readBoth := 852 + 65 * n + 44) (by omega) (by omega) (fun _ _ _ h => m_M_readBoth_o hL (f0 := 40 + 3 * n + 2) (q0 := 852 + 65 * n + 44) (f_readPlain := 40 + 3 * n + 1) (q_readPlain := 852 + 65 * n + 21) (by omega) (by omega) (fun _ _ _ h => m_M_readPlain_o hL (f0 := 40 + 3 * n + 1) (q0 := 852 + 65 * n + 21) (f_readTest := 40 + 3 * n + 0) (q_readTest := 852 + 65 * n + 0) (by omega) (by omega) ih h) h) h)
set_option maxRecDepth 20000 in
theorem m_M_readTest {l : Launch} {w : WO} (hL : LyM w) {σ : DD} {a1 : Int32} {post : DD → Prop} (h : w_M_readTest σ a1 post) : MV l w yX11_readTest cX11_readTest 2 (rmK 76 1632) σ [.ref (wAd w 0), .int a1] post :=
  m_M_readTest_d hL 12 _ _ _ h
set_option maxRecDepth 20000 in
theorem t_M_readClause_j29 {X : CT} {w : WO} (C : CF X w (lim0 w) 1 cX11_readClause RX11 none (.code yX11_readClause cX11_readClause 1 none) (rmK 77 1653)) (hL : LyM w) {post : DD → Prop} {σ : DD} (h : w_M_readClause_j29 post σ) : gW X w (lim0 w) 1 (QV X w post) σ 29 [(0, .ref (wAd w 0))] [] := by
  unfold w_M_readClause_j29 at h
  refine r_aload_n C 0 rfl (dk_at dk_M_readClause_0 15 rfl) ?_
  refine r_iconst C 4 (dk_at dk_M_readClause_0 16 rfl) ?_
  refine r_cvI C cl_M_169 0 (hL 0 _ rfl) [.int 4] (m_M_takes0 hL h) (rmK_ok rfl rfl) rfl rfl (Nat.le_of_ble_eq_true rfl) (dk_at dk_M_readClause_0 17 rfl) (fun r1 σ2 h => ?_)
  refine r_if_eq C 42 rfl (dk_at dk_M_readClause_0 18 rfl) (fun c3 => ?_) (fun c3 => ?_)
  · replace h := h.1 c3
    exact r_vret C h (dk_at dk_M_readClause_0 22 rfl)
  · replace h := h.2 c3
    refine r_aload_n C 0 rfl (dk_at dk_M_readClause_0 19 rfl) ?_
    refine r_iconst C 0 (dk_at dk_M_readClause_0 20 rfl) ?_
    refine r_cvV C cl_M_185 0 (hL 0 _ rfl) [.int 0] (m_M_readTest hL h) (rmK_ok rfl rfl) rfl rfl (Nat.le_of_ble_eq_true rfl) (dk_at dk_M_readClause_0 21 rfl) (fun σ5 h => ?_)
    exact r_vret C h (dk_at dk_M_readClause_0 22 rfl)
set_option maxRecDepth 20000 in
theorem t_M_readClause_j16 {X : CT} {w : WO} (C : CF X w (lim0 w) 1 cX11_readClause RX11 none (.code yX11_readClause cX11_readClause 1 none) (rmK 77 1653)) (hL : LyM w) {post : DD → Prop} {σ : DD} (h : w_M_readClause_j16 post σ) : gW X w (lim0 w) 1 (QV X w post) σ 16 [(0, .ref (wAd w 0))] [] := by
  unfold w_M_readClause_j16 at h
  refine r_aload_n C 0 rfl (dk_at dk_M_readClause_0 8 rfl) ?_
  refine r_iconst C 0 (dk_at dk_M_readClause_0 9 rfl) ?_
  refine r_cvV C cl_M_178 0 (hL 0 _ rfl) [.int 0] (m_M_readSum hL h) (rmK_ok rfl rfl) rfl rfl (Nat.le_of_ble_eq_true rfl) (dk_at dk_M_readClause_0 10 rfl) (fun σ7 h => ?_)
  refine r_goto C 29 rfl (dk_at dk_M_readClause_0 11 rfl) ?_
  refine r_lv [0] rfl ?_
  exact t_M_readClause_j29 C hL h
set_option maxRecDepth 20000 in
theorem m_M_readClause {l : Launch} {w : WO} (hL : LyM w) {σ : DD} {post : DD → Prop} (h : w_M_readClause σ post) : MV l w yX11_readClause cX11_readClause 1 (rmK 77 1653) σ [.ref (wAd w 0)] post :=
  met_head (rt := none) (by decide) rfl (fun X hX C => by
  subst hX
  unfold w_M_readClause at h
  show gW X w (lim0 w) 1 (QV X w post) σ 0 [(0, .ref (wAd w 0))] []
  refine r_aload_n C 0 rfl (dk_at dk_M_readClause_0 0 rfl) ?_
  refine r_iconst C 1 (dk_at dk_M_readClause_0 1 rfl) ?_
  refine r_cvI C cl_M_169 0 (hL 0 _ rfl) [.int 1] (m_M_takes0 hL h) (rmK_ok rfl rfl) rfl rfl (Nat.le_of_ble_eq_true rfl) (dk_at dk_M_readClause_0 2 rfl) (fun r8 σ9 h => ?_)
  refine r_if_ne C 16 rfl (dk_at dk_M_readClause_0 3 rfl) (fun c10 => ?_) (fun c10 => ?_)
  · replace h := h.1 c10
    refine r_lv [0] rfl ?_
    exact t_M_readClause_j16 C hL h
  · replace h := h.2 c10
    refine r_aload_n C 0 rfl (dk_at dk_M_readClause_0 4 rfl) ?_
    refine r_iconst C 2 (dk_at dk_M_readClause_0 5 rfl) ?_
    refine r_cvI C cl_M_169 0 (hL 0 _ rfl) [.int 2] (m_M_takes0 hL h) (rmK_ok rfl rfl) rfl rfl (Nat.le_of_ble_eq_true rfl) (dk_at dk_M_readClause_0 6 rfl) (fun r11 σ12 h => ?_)
    refine r_if_eq C 24 rfl (dk_at dk_M_readClause_0 7 rfl) (fun c13 => ?_) (fun c13 => ?_)
    · replace h := h.1 c13
      refine r_aload_n C 0 rfl (dk_at dk_M_readClause_0 12 rfl) ?_
      refine r_iconst C 3 (dk_at dk_M_readClause_0 13 rfl) ?_
      refine r_cvV C cl_M_182 0 (hL 0 _ rfl) [.int 3] (m_M_must hL h) (rmK_ok rfl rfl) rfl rfl (Nat.le_of_ble_eq_true rfl) (dk_at dk_M_readClause_0 14 rfl) (fun σ15 h => ?_)
      refine r_lv [0] rfl ?_
      exact t_M_readClause_j29 C hL h
    · replace h := h.2 c13
      refine r_lv [0] rfl ?_
      exact t_M_readClause_j16 C hL h
  )
set_option maxRecDepth 20000 in
theorem t_M_readOrder_j50 {X : CT} {w : WO} (C : CF X w (lim0 w) 1 cX11_readOrder RX11 none (.code yX11_readOrder cX11_readOrder 1 none) (rmK 77 1653)) (hL : LyM w) {post : DD → Prop} {σ : DD} (h : w_M_readOrder_j50 post σ) : gW X w (lim0 w) 1 (QV X w post) σ 50 [(0, .ref (wAd w 0))] [] := by
  unfold w_M_readOrder_j50 at h
  refine r_aload_n C 0 rfl (dk_at dk_M_readOrder_0 25 rfl) ?_
  refine r_iconst C 4 (dk_at dk_M_readOrder_0 26 rfl) ?_
  refine r_cvI C cl_M_169 0 (hL 0 _ rfl) [.int 4] (m_M_takes0 hL h) (rmK_ok rfl rfl) rfl rfl (Nat.le_of_ble_eq_true rfl) (dk_at dk_M_readOrder_0 27 rfl) (fun r1 σ2 h => ?_)
  refine r_if_eq C 63 rfl (dk_at dk_M_readOrder_0 28 rfl) (fun c3 => ?_) (fun c3 => ?_)
  · replace h := h.1 c3
    exact r_vret C h (dk_at dk_M_readOrder_0 32 rfl)
  · replace h := h.2 c3
    refine r_aload_n C 0 rfl (dk_at dk_M_readOrder_0 29 rfl) ?_
    refine r_iconst C 0 (dk_at dk_M_readOrder_0 30 rfl) ?_
    refine r_cvV C cl_M_185 0 (hL 0 _ rfl) [.int 0] (m_M_readTest hL h) (rmK_ok rfl rfl) rfl rfl (Nat.le_of_ble_eq_true rfl) (dk_at dk_M_readOrder_0 31 rfl) (fun σ5 h => ?_)
    exact r_vret C h (dk_at dk_M_readOrder_0 32 rfl)
set_option maxRecDepth 20000 in
theorem t_M_readOrder_j34 {X : CT} {w : WO} (C : CF X w (lim0 w) 1 cX11_readOrder RX11 none (.code yX11_readOrder cX11_readOrder 1 none) (rmK 77 1653)) (hL : LyM w) {post : DD → Prop} {σ : DD} (h : w_M_readOrder_j34 post σ) : gW X w (lim0 w) 1 (QV X w post) σ 34 [(0, .ref (wAd w 0))] [] := by
  unfold w_M_readOrder_j34 at h
  refine r_aload_n C 0 rfl (dk_at dk_M_readOrder_0 17 rfl) ?_
  refine r_bipush C 25 (dk_at dk_M_readOrder_0 18 rfl) ?_
  refine r_cvI C cl_M_169 0 (hL 0 _ rfl) [.int 25] (m_M_takes0 hL h) (rmK_ok rfl rfl) rfl rfl (Nat.le_of_ble_eq_true rfl) (dk_at dk_M_readOrder_0 19 rfl) (fun r6 σ7 h => ?_)
  refine r_if_eq C 50 rfl (dk_at dk_M_readOrder_0 20 rfl) (fun c8 => ?_) (fun c8 => ?_)
  · replace h := h.1 c8
    refine r_lv [0] rfl ?_
    exact t_M_readOrder_j50 C hL h
  · replace h := h.2 c8
    refine r_aload_n C 0 rfl (dk_at dk_M_readOrder_0 21 rfl) ?_
    refine r_iconst C 1 (dk_at dk_M_readOrder_0 22 rfl) ?_
    refine r_bipush C 20 (dk_at dk_M_readOrder_0 23 rfl) ?_
    refine r_cvV C cl_M_188 0 (hL 0 _ rfl) [.int 1, .int 20] (m_M_mustNumber hL h) (rmK_ok rfl rfl) rfl rfl (Nat.le_of_ble_eq_true rfl) (dk_at dk_M_readOrder_0 24 rfl) (fun σ10 h => ?_)
    refine r_lv [0] rfl ?_
    exact t_M_readOrder_j50 C hL h
set_option maxRecDepth 20000 in
theorem m_M_readOrder {l : Launch} {w : WO} (hL : LyM w) {σ : DD} {post : DD → Prop} (h : w_M_readOrder σ post) : MV l w yX11_readOrder cX11_readOrder 1 (rmK 77 1653) σ [.ref (wAd w 0)] post :=
  met_head (rt := none) (by decide) rfl (fun X hX C => by
  subst hX
  unfold w_M_readOrder at h
  show gW X w (lim0 w) 1 (QV X w post) σ 0 [(0, .ref (wAd w 0))] []
  refine r_aload_n C 0 rfl (dk_at dk_M_readOrder_0 0 rfl) ?_
  refine r_bipush C 22 (dk_at dk_M_readOrder_0 1 rfl) ?_
  refine r_cvI C cl_M_169 0 (hL 0 _ rfl) [.int 22] (m_M_takes0 hL h) (rmK_ok rfl rfl) rfl rfl (Nat.le_of_ble_eq_true rfl) (dk_at dk_M_readOrder_0 2 rfl) (fun r11 σ12 h => ?_)
  refine r_if_eq C 28 rfl (dk_at dk_M_readOrder_0 3 rfl) (fun c13 => ?_) (fun c13 => ?_)
  · replace h := h.1 c13
    refine r_aload_n C 0 rfl (dk_at dk_M_readOrder_0 14 rfl) ?_
    refine r_bipush C 24 (dk_at dk_M_readOrder_0 15 rfl) ?_
    refine r_cvV C cl_M_182 0 (hL 0 _ rfl) [.int 24] (m_M_must hL h) (rmK_ok rfl rfl) rfl rfl (Nat.le_of_ble_eq_true rfl) (dk_at dk_M_readOrder_0 16 rfl) (fun σ15 h => ?_)
    refine r_lv [0] rfl ?_
    exact t_M_readOrder_j34 C hL h
  · replace h := h.2 c13
    refine r_aload_n C 0 rfl (dk_at dk_M_readOrder_0 4 rfl) ?_
    refine r_iconst C 0 (dk_at dk_M_readOrder_0 5 rfl) ?_
    refine r_cvV C cl_M_178 0 (hL 0 _ rfl) [.int 0] (m_M_readSum hL h) (rmK_ok rfl rfl) rfl rfl (Nat.le_of_ble_eq_true rfl) (dk_at dk_M_readOrder_0 6 rfl) (fun σ17 h => ?_)
    refine r_aload_n C 0 rfl (dk_at dk_M_readOrder_0 7 rfl) ?_
    refine r_bipush C 23 (dk_at dk_M_readOrder_0 8 rfl) ?_
    refine r_cvV C cl_M_182 0 (hL 0 _ rfl) [.int 23] (m_M_must hL h) (rmK_ok rfl rfl) rfl rfl (Nat.le_of_ble_eq_true rfl) (dk_at dk_M_readOrder_0 9 rfl) (fun σ19 h => ?_)
    refine r_aload_n C 0 rfl (dk_at dk_M_readOrder_0 10 rfl) ?_
    refine r_iconst C 0 (dk_at dk_M_readOrder_0 11 rfl) ?_
    refine r_cvV C cl_M_178 0 (hL 0 _ rfl) [.int 0] (m_M_readSum hL h) (rmK_ok rfl rfl) rfl rfl (Nat.le_of_ble_eq_true rfl) (dk_at dk_M_readOrder_0 12 rfl) (fun σ21 h => ?_)
    refine r_goto C 34 rfl (dk_at dk_M_readOrder_0 13 rfl) ?_
    refine r_lv [0] rfl ?_
    exact t_M_readOrder_j34 C hL h
  )
set_option maxRecDepth 20000 in
theorem m_M_readOne {l : Launch} {w : WO} (hL : LyM w) {σ : DD} {post : DD → Prop} (h : w_M_readOne σ post) : MV l w yX11_readOne cX11_readOne 1 (rmK 78 1673) σ [.ref (wAd w 0)] post :=
  met_head (rt := none) (by decide) rfl (fun X hX C => by
  subst hX
  unfold w_M_readOne at h
  show gW X w (lim0 w) 1 (QV X w post) σ 0 [(0, .ref (wAd w 0))] []
  refine r_aload_n C 0 rfl (dk_at dk_M_readOne_0 0 rfl) ?_
  refine r_getI C fl_M_192 0 (hL 0 _ rfl) rfl (dk_at dk_M_readOne_0 1 rfl) ?_
  refine r_if_eq C 14 rfl (dk_at dk_M_readOne_0 2 rfl) (fun c1 => ?_) (fun c1 => ?_)
  · replace h := h.1 c1
    refine r_aload_n C 0 rfl (dk_at dk_M_readOne_0 6 rfl) ?_
    refine r_cvV C cl_M_199 0 (hL 0 _ rfl) [] (m_M_readClause hL h) (rmK_ok rfl rfl) rfl rfl (Nat.le_of_ble_eq_true rfl) (dk_at dk_M_readOne_0 7 rfl) (fun σ3 h => ?_)
    exact r_vret C h (dk_at dk_M_readOne_0 8 rfl)
  · replace h := h.2 c1
    refine r_aload_n C 0 rfl (dk_at dk_M_readOne_0 3 rfl) ?_
    refine r_cvV C cl_M_196 0 (hL 0 _ rfl) [] (m_M_readOrder hL h) (rmK_ok rfl rfl) rfl rfl (Nat.le_of_ble_eq_true rfl) (dk_at dk_M_readOne_0 4 rfl) (fun σ5 h => ?_)
    refine r_goto C 18 rfl (dk_at dk_M_readOne_0 5 rfl) ?_
    exact r_vret C h (dk_at dk_M_readOne_0 8 rfl)
  )
set_option maxRecDepth 20000 in
theorem t_M_reads_j56 {X : CT} {w : WO} (C : CF X w (lim0 w) 2 cX11_reads RX11 (some .boolean) (.code yX11_reads cX11_reads 2 (some .boolean)) (rmK 79 1693)) (hL : LyM w) {K34 : DD → Int32 → Prop} {post : Int32 → DD → Prop} {a1 : Int32} (k34 : ∀ (σ : DD) (a1 : Int32), K34 σ a1 → gW X w (lim0 w) 2 (QI X w post) σ 34 [(0, .ref (wAd w 0)), (1, .int a1)] []) {σ : DD} (h : w_M_reads_j56 K34 post σ a1) : gW X w (lim0 w) 2 (QI X w post) σ 56 [(0, .ref (wAd w 0)), (1, .int a1)] [] := by
  unfold w_M_reads_j56 at h
  refine r_aload_n C 0 rfl (dk_at dk_M_reads_0 30 rfl) ?_
  refine r_cvI C cl_M_162 0 (hL 0 _ rfl) [] (m_M_isFine hL h) (rmK_ok rfl rfl) rfl rfl (Nat.le_of_ble_eq_true rfl) (dk_at dk_M_reads_0 31 rfl) (fun r1 σ2 h => ?_)
  refine r_if_eq C 67 rfl (dk_at dk_M_reads_0 32 rfl) (fun c3 => ?_) (fun c3 => ?_)
  · replace h := h.1 c3
    refine r_iinc C 1 rfl rfl [(1, .int (a1 + 1)), (0, .ref (wAd w 0))] rfl rfl (dk_at dk_M_reads_0 35 rfl) ?_
    refine r_goto C 34 rfl (dk_at dk_M_reads_0 36 rfl) ?_
    refine r_lv [1, 0] rfl ?_
    exact k34 _ _ h
  · replace h := h.2 c3
    refine r_aload_n C 0 rfl (dk_at dk_M_reads_0 33 rfl) ?_
    refine r_cvV C cl_M_230 0 (hL 0 _ rfl) [] (m_M_readOne hL h) (rmK_ok rfl rfl) rfl rfl (Nat.le_of_ble_eq_true rfl) (dk_at dk_M_reads_0 34 rfl) (fun σ5 h => ?_)
    refine r_iinc C 1 rfl rfl [(1, .int (a1 + 1)), (0, .ref (wAd w 0))] rfl rfl (dk_at dk_M_reads_0 35 rfl) ?_
    refine r_goto C 34 rfl (dk_at dk_M_reads_0 36 rfl) ?_
    refine r_lv [1, 0] rfl ?_
    exact k34 _ _ h
set_option maxRecDepth 20000 in
theorem t_M_reads_j95 {X : CT} {w : WO} (C : CF X w (lim0 w) 2 cX11_reads RX11 (some .boolean) (.code yX11_reads cX11_reads 2 (some .boolean)) (rmK 79 1693)) (hL : LyM w) {post : Int32 → DD → Prop} {σ : DD} (h : w_M_reads_j95 post σ) : gW X w (lim0 w) 2 (QI X w post) σ 95 [(0, .ref (wAd w 0))] [] := by
  unfold w_M_reads_j95 at h
  refine r_aload_n C 0 rfl (dk_at dk_M_reads_1 7 rfl) ?_
  refine r_aload_n C 0 rfl (dk_at dk_M_reads_1 8 rfl) ?_
  refine r_getI C fl_M_159 0 (hL 0 _ rfl) rfl (dk_at dk_M_reads_1 9 rfl) ?_
  refine r_putI C fl_M_40 0 (hL 0 _ rfl) rfl (dk_at dk_M_reads_1 10 rfl) (r_sg (fun σ6 e7 => ?_))
  replace h := h σ6 e7
  refine r_aload_n C 0 rfl (dk_at dk_M_reads_1 11 rfl) ?_
  refine r_cvI C cl_M_162 0 (hL 0 _ rfl) [] (m_M_isFine hL h) (rmK_ok rfl rfl) rfl rfl (Nat.le_of_ble_eq_true rfl) (dk_at dk_M_reads_1 12 rfl) (fun r8 σ9 h => ?_)
  exact r_zret C h.1 h.2 (dk_at dk_M_reads_1 13 rfl)
set_option maxRecDepth 20000 in
theorem t_M_reads_b34 {X : CT} {w : WO} (C : CF X w (lim0 w) 2 cX11_reads RX11 (some .boolean) (.code yX11_reads cX11_reads 2 (some .boolean)) (rmK 79 1693)) (hL : LyM w) {K34 : DD → Int32 → Prop} {post : Int32 → DD → Prop} (k34 : ∀ (σ : DD) (a1 : Int32), K34 σ a1 → gW X w (lim0 w) 2 (QI X w post) σ 34 [(0, .ref (wAd w 0)), (1, .int a1)] []) {σ : DD} {a1 : Int32} (h : w_M_reads_b34 K34 post σ a1) : gW X w (lim0 w) 2 (QI X w post) σ 34 [(0, .ref (wAd w 0)), (1, .int a1)] [] := by
  unfold w_M_reads_b34 at h
  refine r_aload_n C 0 rfl (dk_at dk_M_reads_0 20 rfl) ?_
  refine r_bipush C 59 (dk_at dk_M_reads_0 21 rfl) ?_
  refine r_csI C cs_M_208 [.int 59] (m_M_sign hL h) (rmK_ok rfl rfl) rfl rfl (Nat.le_of_ble_eq_true rfl) (dk_at dk_M_reads_0 22 rfl) (fun r10 σ11 h => ?_)
  refine r_cvI C cl_M_169 0 (hL 0 _ rfl) [.int r10] (m_M_takes0 hL h) (rmK_ok rfl rfl) rfl rfl (Nat.le_of_ble_eq_true rfl) (dk_at dk_M_reads_0 23 rfl) (fun r12 σ13 h => ?_)
  refine r_if_eq C 73 rfl (dk_at dk_M_reads_0 24 rfl) (fun c14 => ?_) (fun c14 => ?_)
  · replace h := h.1 c14
    refine r_aload_n C 0 rfl (dk_at dk_M_reads_0 37 rfl) ?_
    refine r_cvI C cl_M_162 0 (hL 0 _ rfl) [] (m_M_isFine hL h) (rmK_ok rfl rfl) rfl rfl (Nat.le_of_ble_eq_true rfl) (dk_at dk_M_reads_0 38 rfl) (fun r15 σ16 h => ?_)
    refine r_if_eq C 95 rfl (dk_at dk_M_reads_0 39 rfl) (fun c17 => ?_) (fun c17 => ?_)
    · replace h := h.1 c17
      refine r_lv [0] rfl ?_
      exact t_M_reads_j95 C hL h
    · replace h := h.2 c17
      refine r_aload_n C 0 rfl (dk_at dk_M_reads_1 0 rfl) ?_
      refine r_getI C fl_M_166 0 (hL 0 _ rfl) rfl (dk_at dk_M_reads_1 1 rfl) ?_
      refine r_aload_n C 0 rfl (dk_at dk_M_reads_1 2 rfl) ?_
      refine r_getI C fl_M_146 0 (hL 0 _ rfl) rfl (dk_at dk_M_reads_1 3 rfl) ?_
      refine r_icmp_ge C 95 rfl (dk_at dk_M_reads_1 4 rfl) (fun c18 => ?_) (fun c18 => ?_)
      · replace h := h.1 c18
        refine r_lv [0] rfl ?_
        exact t_M_reads_j95 C hL h
      · replace h := h.2 c18
        refine r_aload_n C 0 rfl (dk_at dk_M_reads_1 5 rfl) ?_
        refine r_cvV C cl_M_172 0 (hL 0 _ rfl) [] (m_M_faults hL h) (rmK_ok rfl rfl) rfl rfl (Nat.le_of_ble_eq_true rfl) (dk_at dk_M_reads_1 6 rfl) (fun σ20 h => ?_)
        refine r_lv [0] rfl ?_
        exact t_M_reads_j95 C hL h
  · replace h := h.2 c14
    refine r_iload_n C 1 rfl (dk_at dk_M_reads_0 25 rfl) ?_
    refine r_bipush C 12 (dk_at dk_M_reads_0 26 rfl) ?_
    refine r_icmp_ne C 56 rfl (dk_at dk_M_reads_0 27 rfl) (fun c21 => ?_) (fun c21 => ?_)
    · replace h := h.1 c21
      refine r_lv [0, 1] rfl ?_
      exact t_M_reads_j56 C hL k34 h
    · replace h := h.2 c21
      refine r_aload_n C 0 rfl (dk_at dk_M_reads_0 28 rfl) ?_
      refine r_cvV C cl_M_172 0 (hL 0 _ rfl) [] (m_M_faults hL h) (rmK_ok rfl rfl) rfl rfl (Nat.le_of_ble_eq_true rfl) (dk_at dk_M_reads_0 29 rfl) (fun σ23 h => ?_)
      refine r_lv [0, 1] rfl ?_
      exact t_M_reads_j56 C hL k34 h
set_option maxRecDepth 20000 in
theorem t_M_reads_l34 {X : CT} {w : WO} (C : CF X w (lim0 w) 2 cX11_reads RX11 (some .boolean) (.code yX11_reads cX11_reads 2 (some .boolean)) (rmK 79 1693)) (hL : LyM w) {post : Int32 → DD → Prop} {σ : DD} {a1 : Int32} (h : w_M_reads_l34 post σ a1) : gW X w (lim0 w) 2 (QI X w post) σ 34 [(0, .ref (wAd w 0)), (1, .int a1)] [] :=
  LoopW (G := fun x : DD × Int32 => gW X w (lim0 w) 2 (QI X w post) x.1 34 [(0, .ref (wAd w 0)), (1, .int x.2)] []) (fun K x hK hF => t_M_reads_b34 C hL (fun σ a1 q => hK (σ, a1) q) hF) h
set_option maxRecDepth 20000 in
theorem m_M_reads {l : Launch} {w : WO} (hL : LyM w) {σ : DD} {post : Int32 → DD → Prop} (h : w_M_reads σ post) : MI l w yX11_reads cX11_reads 2 .boolean (rmK 79 1693) σ [.ref (wAd w 0)] post :=
  met_head (rt := (some .boolean)) (by decide) rfl (fun X hX C => by
  subst hX
  unfold w_M_reads at h
  show gW X w (lim0 w) 2 (QI X w post) σ 0 [(0, .ref (wAd w 0))] []
  refine r_aload_n C 0 rfl (dk_at dk_M_reads_0 0 rfl) ?_
  refine r_aload_n C 0 rfl (dk_at dk_M_reads_0 1 rfl) ?_
  refine r_getI C fl_M_140 0 (hL 0 _ rfl) rfl (dk_at dk_M_reads_0 2 rfl) ?_
  refine r_cvV C cl_M_227 0 (hL 0 _ rfl) [.int (gI σ 0 13)] (m_M_splits hL h) (rmK_ok rfl rfl) rfl rfl (Nat.le_of_ble_eq_true rfl) (dk_at dk_M_reads_0 3 rfl) (fun σ25 h => ?_)
  refine r_aload_n C 0 rfl (dk_at dk_M_reads_0 4 rfl) ?_
  refine r_iconst C 0 (dk_at dk_M_reads_0 5 rfl) ?_
  refine r_putI C fl_M_140 0 (hL 0 _ rfl) rfl (dk_at dk_M_reads_0 6 rfl) (r_sg (fun σ26 e27 => ?_))
  replace h := h σ26 e27
  refine r_aload_n C 0 rfl (dk_at dk_M_reads_0 7 rfl) ?_
  refine r_iconst C 0 (dk_at dk_M_reads_0 8 rfl) ?_
  refine r_putI C fl_M_166 0 (hL 0 _ rfl) rfl (dk_at dk_M_reads_0 9 rfl) (r_sg (fun σ28 e29 => ?_))
  replace h := h σ28 e29
  refine r_aload_n C 0 rfl (dk_at dk_M_reads_0 10 rfl) ?_
  refine r_iconst C 0 (dk_at dk_M_reads_0 11 rfl) ?_
  refine r_putI C fl_M_175 0 (hL 0 _ rfl) rfl (dk_at dk_M_reads_0 12 rfl) (r_sg (fun σ30 e31 => ?_))
  replace h := h σ30 e31
  refine r_aload_n C 0 rfl (dk_at dk_M_reads_0 13 rfl) ?_
  refine r_iconst C (-1) (dk_at dk_M_reads_0 14 rfl) ?_
  refine r_putI C fl_M_159 0 (hL 0 _ rfl) rfl (dk_at dk_M_reads_0 15 rfl) (r_sg (fun σ32 e33 => ?_))
  replace h := h σ32 e33
  refine r_aload_n C 0 rfl (dk_at dk_M_reads_0 16 rfl) ?_
  refine r_cvV C cl_M_230 0 (hL 0 _ rfl) [] (m_M_readOne hL h) (rmK_ok rfl rfl) rfl rfl (Nat.le_of_ble_eq_true rfl) (dk_at dk_M_reads_0 17 rfl) (fun σ35 h => ?_)
  refine r_iconst C 1 (dk_at dk_M_reads_0 18 rfl) ?_
  refine r_istore_n C [(1, .int 1), (0, .ref (wAd w 0))] rfl rfl (dk_at dk_M_reads_0 19 rfl) ?_
  refine r_lv [1, 0] rfl ?_
  exact t_M_reads_l34 C hL h
  )
set_option maxRecDepth 20000 in
theorem t_M_readsAs_j32 {X : CT} {w : WO} (C : CF X w (lim0 w) 2 cX11_readsAs RX11 (some .boolean) (.code yX11_readsAs cX11_readsAs 2 (some .boolean)) (rmK 80 1714)) (hL : LyM w) {post : Int32 → DD → Prop} {t1 : Int32} {σ : DD} (h : w_M_readsAs_j32 post σ t1) : gW X w (lim0 w) 2 (QI X w post) σ 32 [(0, .ref (wAd w 0))] [.int t1, .ref (wAd w 0)] := by
  unfold w_M_readsAs_j32 at h
  refine r_putI C fl_M_221 0 (hL 0 _ rfl) rfl (dk_at dk_M_readsAs_0 16 rfl) (r_sg (fun σ1 e2 => ?_))
  replace h := h σ1 e2
  refine r_aload_n C 0 rfl (dk_at dk_M_readsAs_0 17 rfl) ?_
  refine r_cvI C cl_M_233 0 (hL 0 _ rfl) [] (m_M_reads hL h) (rmK_ok rfl rfl) rfl rfl (Nat.le_of_ble_eq_true rfl) (dk_at dk_M_readsAs_0 18 rfl) (fun r3 σ4 h => ?_)
  exact r_zret C h.1 h.2 (dk_at dk_M_readsAs_0 19 rfl)
set_option maxRecDepth 20000 in
theorem t_M_readsAs_j17 {X : CT} {w : WO} (C : CF X w (lim0 w) 2 cX11_readsAs RX11 (some .boolean) (.code yX11_readsAs cX11_readsAs 2 (some .boolean)) (rmK 80 1714)) (hL : LyM w) {post : Int32 → DD → Prop} {a1 : Int32} {t1 : Int32} {σ : DD} (h : w_M_readsAs_j17 post σ a1 t1) : gW X w (lim0 w) 2 (QI X w post) σ 17 [(0, .ref (wAd w 0)), (1, .int a1)] [.int t1, .ref (wAd w 0)] := by
  unfold w_M_readsAs_j17 at h
  refine r_putI C fl_M_218 0 (hL 0 _ rfl) rfl (dk_at dk_M_readsAs_0 9 rfl) (r_sg (fun σ5 e6 => ?_))
  replace h := h σ5 e6
  refine r_aload_n C 0 rfl (dk_at dk_M_readsAs_0 10 rfl) ?_
  refine r_iload_n C 1 rfl (dk_at dk_M_readsAs_0 11 rfl) ?_
  refine r_if_eq C 30 rfl (dk_at dk_M_readsAs_0 12 rfl) (fun c7 => ?_) (fun c7 => ?_)
  · replace h := h.1 c7
    refine r_bipush C 15 (dk_at dk_M_readsAs_0 15 rfl) ?_
    refine r_lv [0] rfl ?_
    exact t_M_readsAs_j32 C hL h
  · replace h := h.2 c7
    refine r_bipush C 21 (dk_at dk_M_readsAs_0 13 rfl) ?_
    refine r_goto C 32 rfl (dk_at dk_M_readsAs_0 14 rfl) ?_
    refine r_lv [0] rfl ?_
    exact t_M_readsAs_j32 C hL h
set_option maxRecDepth 20000 in
theorem m_M_readsAs {l : Launch} {w : WO} (hL : LyM w) {σ : DD} {a1 : Int32} {post : Int32 → DD → Prop} (h : w_M_readsAs σ a1 post) : MI l w yX11_readsAs cX11_readsAs 2 .boolean (rmK 80 1714) σ [.ref (wAd w 0), .int a1] post :=
  met_head (rt := (some .boolean)) (by decide) rfl (fun X hX C => by
  subst hX
  unfold w_M_readsAs at h
  show gW X w (lim0 w) 2 (QI X w post) σ 0 [(0, .ref (wAd w 0)), (1, .int a1)] []
  refine r_aload_n C 0 rfl (dk_at dk_M_readsAs_0 0 rfl) ?_
  refine r_iload_n C 1 rfl (dk_at dk_M_readsAs_0 1 rfl) ?_
  obtain ⟨q8, h⟩ := h
  refine r_putZ C fl_M_192 0 (hL 0 _ rfl) rfl q8 (dk_at dk_M_readsAs_0 2 rfl) (r_sg (fun σ9 e10 => ?_))
  replace h := h σ9 e10
  refine r_aload_n C 0 rfl (dk_at dk_M_readsAs_0 3 rfl) ?_
  refine r_iload_n C 1 rfl (dk_at dk_M_readsAs_0 4 rfl) ?_
  refine r_if_eq C 15 rfl (dk_at dk_M_readsAs_0 5 rfl) (fun c11 => ?_) (fun c11 => ?_)
  · replace h := h.1 c11
    refine r_bipush C 8 (dk_at dk_M_readsAs_0 8 rfl) ?_
    refine r_lv [0, 1] rfl ?_
    exact t_M_readsAs_j17 C hL h
  · replace h := h.2 c11
    refine r_bipush C 16 (dk_at dk_M_readsAs_0 6 rfl) ?_
    refine r_goto C 17 rfl (dk_at dk_M_readsAs_0 7 rfl) ?_
    refine r_lv [0, 1] rfl ?_
    exact t_M_readsAs_j17 C hL h
  )
set_option maxRecDepth 20000 in
theorem t_M_lays_b16 {X : CT} {w : WO} (C : CF X w (lim0 w) 3 cX11_lays RX11 none (.code yX11_lays cX11_lays 3 none) (rmK 0 0)) (hL : LyM w) {a1 : Int32} {K16 : DD → Int32 → Prop} {post : DD → Prop} (k16 : ∀ (σ : DD) (a2 : Int32), K16 σ a2 → gW X w (lim0 w) 3 (QV X w post) σ 16 [(0, .ref (wAd w 0)), (1, .int a1), (2, .int a2)] []) {σ : DD} {a2 : Int32} (h : w_M_lays_b16 a1 K16 post σ a2) : gW X w (lim0 w) 3 (QV X w post) σ 16 [(0, .ref (wAd w 0)), (1, .int a1), (2, .int a2)] [] := by
  unfold w_M_lays_b16 at h
  refine r_iload_n C 2 rfl (dk_at dk_M_lays_0 10 rfl) ?_
  refine r_aload_n C 0 rfl (dk_at dk_M_lays_0 11 rfl) ?_
  refine r_getI C fl_M_146 0 (hL 0 _ rfl) rfl (dk_at dk_M_lays_0 12 rfl) ?_
  refine r_icmp_ge C 74 rfl (dk_at dk_M_lays_0 13 rfl) (fun c1 => ?_) (fun c1 => ?_)
  · replace h := h.1 c1
    exact r_vret C h (dk_at dk_M_lays_1 4 rfl)
  · replace h := h.2 c1
    refine r_aload_n C 0 rfl (dk_at dk_M_lays_0 14 rfl) ?_
    refine r_getR C fl_M_20 0 (hL 0 _ rfl) rfl (dk_at dk_M_lays_0 15 rfl) ?_
    refine r_sipush C 412 (dk_at dk_M_lays_0 16 rfl) ?_
    refine r_sipush C 400 (dk_at dk_M_lays_0 17 rfl) ?_
    refine r_iload_n C 1 rfl (dk_at dk_M_lays_0 18 rfl) ?_
    refine r_imul C (dk_at dk_M_lays_0 19 rfl) ?_
    refine r_iadd C (dk_at dk_M_lays_0 20 rfl) ?_
    refine r_iload_n C 2 rfl (dk_at dk_M_lays_0 21 rfl) ?_
    refine r_iadd C (dk_at dk_M_lays_0 22 rfl) ?_
    refine r_aload_n C 0 rfl (dk_at dk_M_lays_0 23 rfl) ?_
    refine r_getR C fl_M_43 0 (hL 0 _ rfl) rfl (dk_at dk_M_lays_0 24 rfl) ?_
    refine r_iload_n C 2 rfl (dk_at dk_M_lays_0 25 rfl) ?_
    obtain ⟨q2, h⟩ := h
    refine r_iald C 16 (hL 16 _ rfl) q2 (dk_at dk_M_lays_0 26 rfl) ?_
    obtain ⟨q5, h⟩ := h
    refine r_iast C 4 (hL 4 _ rfl) q5 (dk_at dk_M_lays_0 27 rfl) (r_sg (fun σ3 e4 => ?_))
    replace h := h σ3 e4
    refine r_aload_n C 0 rfl (dk_at dk_M_lays_0 28 rfl) ?_
    refine r_getR C fl_M_20 0 (hL 0 _ rfl) rfl (dk_at dk_M_lays_0 29 rfl) ?_
    refine r_sipush C 3212 (dk_at dk_M_lays_0 30 rfl) ?_
    refine r_sipush C 400 (dk_at dk_M_lays_0 31 rfl) ?_
    refine r_iload_n C 1 rfl (dk_at dk_M_lays_0 32 rfl) ?_
    refine r_imul C (dk_at dk_M_lays_0 33 rfl) ?_
    refine r_iadd C (dk_at dk_M_lays_0 34 rfl) ?_
    refine r_iload_n C 2 rfl (dk_at dk_M_lays_0 35 rfl) ?_
    refine r_iadd C (dk_at dk_M_lays_0 36 rfl) ?_
    refine r_aload_n C 0 rfl (dk_at dk_M_lays_0 37 rfl) ?_
    refine r_getR C fl_M_46 0 (hL 0 _ rfl) rfl (dk_at dk_M_lays_0 38 rfl) ?_
    refine r_iload_n C 2 rfl (dk_at dk_M_lays_0 39 rfl) ?_
    obtain ⟨q6, h⟩ := h
    refine r_iald C 17 (hL 17 _ rfl) q6 (dk_at dk_M_lays_1 0 rfl) ?_
    obtain ⟨q9, h⟩ := h
    refine r_iast C 4 (hL 4 _ rfl) q9 (dk_at dk_M_lays_1 1 rfl) (r_sg (fun σ7 e8 => ?_))
    replace h := h σ7 e8
    refine r_iinc C 2 rfl rfl [(2, .int (a2 + 1)), (0, .ref (wAd w 0)), (1, .int a1)] rfl rfl (dk_at dk_M_lays_1 2 rfl) ?_
    refine r_goto C 16 rfl (dk_at dk_M_lays_1 3 rfl) ?_
    refine r_lv [1, 2, 0] rfl ?_
    exact k16 _ _ h
set_option maxRecDepth 20000 in
theorem t_M_lays_l16 {X : CT} {w : WO} (C : CF X w (lim0 w) 3 cX11_lays RX11 none (.code yX11_lays cX11_lays 3 none) (rmK 0 0)) (hL : LyM w) {a1 : Int32} {post : DD → Prop} {σ : DD} {a2 : Int32} (h : w_M_lays_l16 post σ a1 a2) : gW X w (lim0 w) 3 (QV X w post) σ 16 [(0, .ref (wAd w 0)), (1, .int a1), (2, .int a2)] [] :=
  LoopW (G := fun x : DD × Int32 => gW X w (lim0 w) 3 (QV X w post) x.1 16 [(0, .ref (wAd w 0)), (1, .int a1), (2, .int x.2)] []) (fun K x hK hF => t_M_lays_b16 C hL (fun σ a2 q => hK (σ, a2) q) hF) h
set_option maxRecDepth 20000 in
theorem m_M_lays {l : Launch} {w : WO} (hL : LyM w) {σ : DD} {a1 : Int32} {post : DD → Prop} (h : w_M_lays σ a1 post) : MV l w yX11_lays cX11_lays 3 (rmK 0 0) σ [.ref (wAd w 0), .int a1] post :=
  met_head (rt := none) (by decide) rfl (fun X hX C => by
  subst hX
  unfold w_M_lays at h
  show gW X w (lim0 w) 3 (QV X w post) σ 0 [(0, .ref (wAd w 0)), (1, .int a1)] []
  refine r_aload_n C 0 rfl (dk_at dk_M_lays_0 0 rfl) ?_
  refine r_getR C fl_M_20 0 (hL 0 _ rfl) rfl (dk_at dk_M_lays_0 1 rfl) ?_
  refine r_sipush C 405 (dk_at dk_M_lays_0 2 rfl) ?_
  refine r_iload_n C 1 rfl (dk_at dk_M_lays_0 3 rfl) ?_
  refine r_iadd C (dk_at dk_M_lays_0 4 rfl) ?_
  refine r_aload_n C 0 rfl (dk_at dk_M_lays_0 5 rfl) ?_
  refine r_getI C fl_M_146 0 (hL 0 _ rfl) rfl (dk_at dk_M_lays_0 6 rfl) ?_
  obtain ⟨q12, h⟩ := h
  refine r_iast C 4 (hL 4 _ rfl) q12 (dk_at dk_M_lays_0 7 rfl) (r_sg (fun σ10 e11 => ?_))
  replace h := h σ10 e11
  refine r_iconst C 0 (dk_at dk_M_lays_0 8 rfl) ?_
  refine r_istore_n C [(2, .int 0), (0, .ref (wAd w 0)), (1, .int a1)] rfl rfl (dk_at dk_M_lays_0 9 rfl) ?_
  refine r_lv [1, 2, 0] rfl ?_
  exact t_M_lays_l16 C hL h
  )
set_option maxRecDepth 20000 in
theorem m_M_law {l : Launch} {w : WO} (hL : LyM w) {σ : DD} {post : Int32 → DD → Prop} (h : w_M_law σ post) : MI l w yX11_law cX11_law 1 .int (rmK 81 1735) σ [.ref (wAd w 0)] post :=
  met_head (rt := (some .int)) (by decide) rfl (fun X hX C => by
  subst hX
  unfold w_M_law at h
  show gW X w (lim0 w) 1 (QI X w post) σ 0 [(0, .ref (wAd w 0))] []
  refine r_aload_n C 0 rfl (dk_at dk_M_law_0 0 rfl) ?_
  refine r_getR C fl_M_20 0 (hL 0 _ rfl) rfl (dk_at dk_M_law_0 1 rfl) ?_
  refine r_sipush C 403 (dk_at dk_M_law_0 2 rfl) ?_
  refine r_ialdK C 4 (hL 4 _ rfl) lk_403 (vk_403_6012) (dk_at dk_M_law_0 3 rfl) ?_
  refine r_bipush C 6 (dk_at dk_M_law_0 4 rfl) ?_
  refine r_icmp_ne C 25 rfl (dk_at dk_M_law_0 5 rfl) (fun c1 => ?_) (fun c1 => ?_)
  · replace h := h.1 c1
    refine r_aload_n C 0 rfl (dk_at dk_M_law_0 13 rfl) ?_
    refine r_iconst C 0 (dk_at dk_M_law_0 14 rfl) ?_
    refine r_cvI C cl_M_236 0 (hL 0 _ rfl) [.int 0] (m_M_readsAs hL h) (rmK_ok rfl rfl) rfl rfl (Nat.le_of_ble_eq_true rfl) (dk_at dk_M_law_0 15 rfl) (fun r2 σ3 h => ?_)
    refine r_if_ne C 40 rfl (dk_at dk_M_law_0 16 rfl) (fun c4 => ?_) (fun c4 => ?_)
    · replace h := h.1 c4
      refine r_aload_n C 0 rfl (dk_at dk_M_law_0 21 rfl) ?_
      refine r_aload_n C 0 rfl (dk_at dk_M_law_0 22 rfl) ?_
      refine r_getR C fl_M_20 0 (hL 0 _ rfl) rfl (dk_at dk_M_law_0 23 rfl) ?_
      refine r_sipush C 403 (dk_at dk_M_law_0 24 rfl) ?_
      refine r_ialdK C 4 (hL 4 _ rfl) lk_403 (vk_403_6012) (dk_at dk_M_law_0 25 rfl) ?_
      refine r_cvV C cl_M_240 0 (hL 0 _ rfl) [.int (gI σ3 4 403)] (m_M_lays hL h) (rmK_ok rfl rfl) rfl rfl (Nat.le_of_ble_eq_true rfl) (dk_at dk_M_law_0 26 rfl) (fun σ6 h => ?_)
      refine r_aload_n C 0 rfl (dk_at dk_M_law_0 27 rfl) ?_
      refine r_getR C fl_M_20 0 (hL 0 _ rfl) rfl (dk_at dk_M_law_0 28 rfl) ?_
      refine r_sipush C 403 (dk_at dk_M_law_0 29 rfl) ?_
      refine r_dup2 C rfl rfl (dk_at dk_M_law_0 30 rfl) ?_
      refine r_ialdK C 4 (hL 4 _ rfl) lk_403 (vk_403_6012) (dk_at dk_M_law_0 31 rfl) ?_
      refine r_iconst C 1 (dk_at dk_M_law_0 32 rfl) ?_
      refine r_iadd C (dk_at dk_M_law_0 33 rfl) ?_
      refine r_iastK C 4 (hL 4 _ rfl) lk_403 vk_403_6012 (dk_at dk_M_law_0 34 rfl) (r_sg (fun σ7 e8 => ?_))
      replace h := h σ7 e8
      refine r_aload_n C 0 rfl (dk_at dk_M_law_0 35 rfl) ?_
      refine r_aload_n C 0 rfl (dk_at dk_M_law_0 36 rfl) ?_
      refine r_getR C fl_M_20 0 (hL 0 _ rfl) rfl (dk_at dk_M_law_0 37 rfl) ?_
      refine r_sipush C 403 (dk_at dk_M_law_0 38 rfl) ?_
      refine r_ialdK C 4 (hL 4 _ rfl) lk_403 (vk_403_6012) (dk_at dk_M_law_0 39 rfl) ?_
      refine r_iconst C 1 (dk_at dk_M_law_1 0 rfl) ?_
      refine r_isub C (dk_at dk_M_law_1 1 rfl) ?_
      refine r_cvI C cl_M_109 0 (hL 0 _ rfl) [.int ((gI σ7 4 403) - 1)] (m_M_good hL h) (rmK_ok rfl rfl) rfl rfl (Nat.le_of_ble_eq_true rfl) (dk_at dk_M_law_1 2 rfl) (fun r9 σ10 h => ?_)
      exact r_iret C h (dk_at dk_M_law_1 3 rfl)
    · replace h := h.2 c4
      refine r_aload_n C 0 rfl (dk_at dk_M_law_0 17 rfl) ?_
      refine r_bipush C (-6) (dk_at dk_M_law_0 18 rfl) ?_
      refine r_cvI C cl_M_105 0 (hL 0 _ rfl) [.int (-6)] (m_M_refuses hL h) (rmK_ok rfl rfl) rfl rfl (Nat.le_of_ble_eq_true rfl) (dk_at dk_M_law_0 19 rfl) (fun r11 σ12 h => ?_)
      exact r_iret C h (dk_at dk_M_law_0 20 rfl)
  · replace h := h.2 c1
    refine r_aload_n C 0 rfl (dk_at dk_M_law_0 6 rfl) ?_
    refine r_iconst C 0 (dk_at dk_M_law_0 7 rfl) ?_
    refine r_putI C fl_M_140 0 (hL 0 _ rfl) rfl (dk_at dk_M_law_0 8 rfl) (r_sg (fun σ13 e14 => ?_))
    replace h := h σ13 e14
    refine r_aload_n C 0 rfl (dk_at dk_M_law_0 9 rfl) ?_
    refine r_bipush C (-5) (dk_at dk_M_law_0 10 rfl) ?_
    refine r_cvI C cl_M_105 0 (hL 0 _ rfl) [.int (-5)] (m_M_refuses hL h) (rmK_ok rfl rfl) rfl rfl (Nat.le_of_ble_eq_true rfl) (dk_at dk_M_law_0 11 rfl) (fun r15 σ16 h => ?_)
    exact r_iret C h (dk_at dk_M_law_0 12 rfl)
  )
set_option maxRecDepth 20000 in
theorem m_M_fault {l : Launch} {w : WO} (hL : LyM w) {σ : DD} {post : Int32 → DD → Prop} (h : w_M_fault σ post) : MI l w yX11_fault cX11_fault 1 .int (rmK 0 0) σ [.ref (wAd w 0)] post :=
  met_head (rt := (some .int)) (by decide) rfl (fun X hX C => by
  subst hX
  unfold w_M_fault at h
  show gW X w (lim0 w) 1 (QI X w post) σ 0 [(0, .ref (wAd w 0))] []
  refine r_aload_n C 0 rfl (dk_at dk_M_fault_0 0 rfl) ?_
  refine r_getI C fl_M_40 0 (hL 0 _ rfl) rfl (dk_at dk_M_fault_0 1 rfl) ?_
  exact r_iret C h (dk_at dk_M_fault_0 2 rfl)
  )
set_option maxRecDepth 20000 in
theorem m_M_force {l : Launch} {w : WO} (hL : LyM w) {σ : DD} {a1 : Int32} {post : Int32 → DD → Prop} (h : w_M_force σ a1 post) : MI l w yX11_force cX11_force 3 .int (rmK 1 22) σ [.ref (wAd w 0), .int a1] post :=
  met_head (rt := (some .int)) (by decide) rfl (fun X hX C => by
  subst hX
  unfold w_M_force at h
  show gW X w (lim0 w) 3 (QI X w post) σ 0 [(0, .ref (wAd w 0)), (1, .int a1)] []
  refine r_iload_n C 1 rfl (dk_at dk_M_force_0 0 rfl) ?_
  refine r_iconst C (-1) (dk_at dk_M_force_0 1 rfl) ?_
  refine r_aload_n C 0 rfl (dk_at dk_M_force_0 2 rfl) ?_
  refine r_getR C fl_M_20 0 (hL 0 _ rfl) rfl (dk_at dk_M_force_0 3 rfl) ?_
  refine r_sipush C 403 (dk_at dk_M_force_0 4 rfl) ?_
  refine r_ialdK C 4 (hL 4 _ rfl) lk_403 (vk_403_6012) (dk_at dk_M_force_0 5 rfl) ?_
  refine r_iconst C 1 (dk_at dk_M_force_0 6 rfl) ?_
  refine r_isub C (dk_at dk_M_force_0 7 rfl) ?_
  refine r_csI C cs_M_101 [.int a1, .int (-1), .int ((gI σ 4 403) - 1)] (m_M_lies hL h) (rmK_ok rfl rfl) rfl rfl (Nat.le_of_ble_eq_true rfl) (dk_at dk_M_force_0 8 rfl) (fun r1 σ2 h => ?_)
  refine r_if_ne C 25 rfl (dk_at dk_M_force_0 9 rfl) (fun c3 => ?_) (fun c3 => ?_)
  · replace h := h.1 c3
    refine r_aload_n C 0 rfl (dk_at dk_M_force_0 14 rfl) ?_
    refine r_getR C fl_M_20 0 (hL 0 _ rfl) rfl (dk_at dk_M_force_0 15 rfl) ?_
    refine r_sipush C 404 (dk_at dk_M_force_0 16 rfl) ?_
    refine r_ialdK C 4 (hL 4 _ rfl) lk_404 (vk_404_6012) (dk_at dk_M_force_0 17 rfl) ?_
    refine r_topi (fun v4 e5 => ?_)
    replace h := h v4 e5
    refine r_istore_n C [(2, .int v4), (0, .ref (wAd w 0)), (1, .int a1)] rfl rfl (dk_at dk_M_force_0 18 rfl) ?_
    refine r_aload_n C 1 rfl (dk_at dk_M_force_0 19 rfl) ?_
    refine r_getR C fl_M_20 0 (hL 0 _ rfl) rfl (dk_at dk_M_force_0 20 rfl) ?_
    refine r_sipush C 404 (dk_at dk_M_force_0 21 rfl) ?_
    refine r_iload_n C 2 rfl (dk_at dk_M_force_0 22 rfl) ?_
    refine r_iastK C 4 (hL 4 _ rfl) lk_404 vk_404_6012 (dk_at dk_M_force_0 23 rfl) (r_sg (fun σ6 e7 => ?_))
    replace h := h σ6 e7
    refine r_aload_n C 1 rfl (dk_at dk_M_force_0 24 rfl) ?_
    refine r_iload_n C 0 rfl (dk_at dk_M_force_0 25 rfl) ?_
    refine r_cvI C cl_M_109 0 (hL 0 _ rfl) [.int v4] (m_M_good hL h) (rmK_ok rfl rfl) rfl rfl (Nat.le_of_ble_eq_true rfl) (dk_at dk_M_force_0 26 rfl) (fun r8 σ9 h => ?_)
    exact r_iret C h (dk_at dk_M_force_0 27 rfl)
  · replace h := h.2 c3
    refine r_aload_n C 0 rfl (dk_at dk_M_force_0 10 rfl) ?_
    refine r_bipush C (-2) (dk_at dk_M_force_0 11 rfl) ?_
    refine r_cvI C cl_M_105 0 (hL 0 _ rfl) [.int (-2)] (m_M_refuses hL h) (rmK_ok rfl rfl) rfl rfl (Nat.le_of_ble_eq_true rfl) (dk_at dk_M_force_0 12 rfl) (fun r10 σ11 h => ?_)
    exact r_iret C h (dk_at dk_M_force_0 13 rfl)
  )
set_option maxRecDepth 20000 in
theorem m_M_codeAt {l : Launch} {w : WO} (hL : LyM w) {σ : DD} {a1 : Int32} {post : Int32 → DD → Prop} (h : w_M_codeAt σ a1 post) : MI l w yX11_codeAt cX11_codeAt 2 .int (rmK 0 0) σ [.ref (wAd w 0), .int a1] post :=
  met_head (rt := (some .int)) (by decide) rfl (fun X hX C => by
  subst hX
  unfold w_M_codeAt at h
  show gW X w (lim0 w) 2 (QI X w post) σ 0 [(0, .ref (wAd w 0)), (1, .int a1)] []
  refine r_iload_n C 1 rfl (dk_at dk_M_codeAt_0 0 rfl) ?_
  refine r_aload_n C 0 rfl (dk_at dk_M_codeAt_0 1 rfl) ?_
  refine r_getI C fl_M_243 0 (hL 0 _ rfl) rfl (dk_at dk_M_codeAt_0 2 rfl) ?_
  refine r_icmp_ge C 21 rfl (dk_at dk_M_codeAt_0 3 rfl) (fun c1 => ?_) (fun c1 => ?_)
  · replace h := h.1 c1
    refine r_iconst C 0 (dk_at dk_M_codeAt_0 11 rfl) ?_
    exact r_iret C h (dk_at dk_M_codeAt_0 12 rfl)
  · replace h := h.2 c1
    refine r_aload_n C 0 rfl (dk_at dk_M_codeAt_0 4 rfl) ?_
    refine r_getR C fl_M_20 0 (hL 0 _ rfl) rfl (dk_at dk_M_codeAt_0 5 rfl) ?_
    refine r_sipush C 412 (dk_at dk_M_codeAt_0 6 rfl) ?_
    refine r_iload_n C 1 rfl (dk_at dk_M_codeAt_0 7 rfl) ?_
    refine r_iadd C (dk_at dk_M_codeAt_0 8 rfl) ?_
    obtain ⟨q2, h⟩ := h
    refine r_iald C 4 (hL 4 _ rfl) q2 (dk_at dk_M_codeAt_0 9 rfl) ?_
    refine r_goto C 22 rfl (dk_at dk_M_codeAt_0 10 rfl) ?_
    exact r_iret C h (dk_at dk_M_codeAt_0 12 rfl)
  )
set_option maxRecDepth 20000 in
theorem t_M_passes0_j17 {X : CT} {w : WO} (C : CF X w (lim0 w) 3 cX11_passes0 RX11 (some .boolean) (.code yX11_passes0 cX11_passes0 3 (some .boolean)) (rmK 1 21)) (hL : LyM w) {post : Int32 → DD → Prop} {t0 : Int32} {σ : DD} (h : w_M_passes0_j17 post σ t0) : gW X w (lim0 w) 3 (QI X w post) σ 17 [(0, .ref (wAd w 0))] [.int t0] := by
  unfold w_M_passes0_j17 at h
  refine r_istore_n C [(2, .int t0), (0, .ref (wAd w 0))] rfl rfl (dk_at dk_M_passes0_0 9 rfl) ?_
  refine r_iload_n C 0 rfl (dk_at dk_M_passes0_0 10 rfl) ?_
  refine r_if_eq C 32 rfl (dk_at dk_M_passes0_0 11 rfl) (fun c1 => ?_) (fun c1 => ?_)
  · replace h := h.1 c1
    refine r_iload_n C 0 rfl (dk_at dk_M_passes0_0 18 rfl) ?_
    exact r_zret C h.1 h.2 (dk_at dk_M_passes0_0 19 rfl)
  · replace h := h.2 c1
    refine r_aload_n C 1 rfl (dk_at dk_M_passes0_0 12 rfl) ?_
    refine r_dup C rfl (dk_at dk_M_passes0_0 13 rfl) ?_
    refine r_getI C fl_M_246 0 (hL 0 _ rfl) rfl (dk_at dk_M_passes0_0 14 rfl) ?_
    refine r_iconst C 1 (dk_at dk_M_passes0_0 15 rfl) ?_
    refine r_iadd C (dk_at dk_M_passes0_0 16 rfl) ?_
    refine r_putI C fl_M_246 0 (hL 0 _ rfl) rfl (dk_at dk_M_passes0_0 17 rfl) (r_sg (fun σ2 e3 => ?_))
    replace h := h σ2 e3
    refine r_iload_n C 0 rfl (dk_at dk_M_passes0_0 18 rfl) ?_
    exact r_zret C h.1 h.2 (dk_at dk_M_passes0_0 19 rfl)
set_option maxRecDepth 20000 in
theorem m_M_passes0 {l : Launch} {w : WO} (hL : LyM w) {σ : DD} {a1 : Int32} {post : Int32 → DD → Prop} (h : w_M_passes0 σ a1 post) : MI l w yX11_passes0 cX11_passes0 3 .boolean (rmK 1 21) σ [.ref (wAd w 0), .int a1] post :=
  met_head (rt := (some .boolean)) (by decide) rfl (fun X hX C => by
  subst hX
  unfold w_M_passes0 at h
  show gW X w (lim0 w) 3 (QI X w post) σ 0 [(0, .ref (wAd w 0)), (1, .int a1)] []
  refine r_aload_n C 0 rfl (dk_at dk_M_passes0_0 0 rfl) ?_
  refine r_aload_n C 0 rfl (dk_at dk_M_passes0_0 1 rfl) ?_
  refine r_getI C fl_M_246 0 (hL 0 _ rfl) rfl (dk_at dk_M_passes0_0 2 rfl) ?_
  refine r_cvI C cl_M_249 0 (hL 0 _ rfl) [.int (gI σ 0 22)] (m_M_codeAt hL h) (rmK_ok rfl rfl) rfl rfl (Nat.le_of_ble_eq_true rfl) (dk_at dk_M_passes0_0 3 rfl) (fun r4 σ5 h => ?_)
  refine r_iload_n C 1 rfl (dk_at dk_M_passes0_0 4 rfl) ?_
  refine r_icmp_ne C 16 rfl (dk_at dk_M_passes0_0 5 rfl) (fun c6 => ?_) (fun c6 => ?_)
  · replace h := h.1 c6
    refine r_iconst C 0 (dk_at dk_M_passes0_0 8 rfl) ?_
    refine r_lv [0] rfl ?_
    exact t_M_passes0_j17 C hL h
  · replace h := h.2 c6
    refine r_iconst C 1 (dk_at dk_M_passes0_0 6 rfl) ?_
    refine r_goto C 17 rfl (dk_at dk_M_passes0_0 7 rfl) ?_
    refine r_lv [0] rfl ?_
    exact t_M_passes0_j17 C hL h
  )
set_option maxRecDepth 20000 in
theorem t_M_bounded_j25 {X : CT} {w : WO} (C : CF X w (lim0 w) 4 cX11_bounded RX11 (some .long) (.code yX11_bounded cX11_bounded 4 (some .long)) (rmK 0 0)) (hL : LyM w) {post : Int64 → DD → Prop} {a1 : Int64} {σ : DD} (h : w_M_bounded_j25 post σ a1) : gW X w (lim0 w) 4 (QL X w post) σ 25 [(0, .ref (wAd w 0)), (1, .long a1)] [] := by
  unfold w_M_bounded_j25 at h
  refine r_aload_n C 0 rfl (dk_at dk_M_bounded_0 13 rfl) ?_
  refine r_getI C fl_M_256 0 (hL 0 _ rfl) rfl (dk_at dk_M_bounded_0 14 rfl) ?_
  refine r_if_eq C 36 rfl (dk_at dk_M_bounded_0 15 rfl) (fun c1 => ?_) (fun c1 => ?_)
  · replace h := h.1 c1
    refine r_lload_n C 1 rfl (dk_at dk_M_bounded_0 18 rfl) ?_
    exact r_lret C h (dk_at dk_M_bounded_0 19 rfl)
  · replace h := h.2 c1
    refine r_lconst C 0 (dk_at dk_M_bounded_0 16 rfl) ?_
    refine r_goto C 37 rfl (dk_at dk_M_bounded_0 17 rfl) ?_
    exact r_lret C h (dk_at dk_M_bounded_0 19 rfl)
set_option maxRecDepth 20000 in
theorem t_M_bounded_j20 {X : CT} {w : WO} (C : CF X w (lim0 w) 4 cX11_bounded RX11 (some .long) (.code yX11_bounded cX11_bounded 4 (some .long)) (rmK 0 0)) (hL : LyM w) {post : Int64 → DD → Prop} {a1 : Int64} {σ : DD} (h : w_M_bounded_j20 post σ a1) : gW X w (lim0 w) 4 (QL X w post) σ 20 [(0, .ref (wAd w 0)), (1, .long a1)] [] := by
  unfold w_M_bounded_j20 at h
  refine r_aload_n C 0 rfl (dk_at dk_M_bounded_0 10 rfl) ?_
  refine r_iconst C 1 (dk_at dk_M_bounded_0 11 rfl) ?_
  refine r_putZ C fl_M_256 0 (hL 0 _ rfl) rfl (Or.inr rfl) (dk_at dk_M_bounded_0 12 rfl) (r_sg (fun σ2 e3 => ?_))
  replace h := h σ2 e3
  refine r_lv [0, 1] rfl ?_
  exact t_M_bounded_j25 C hL h
set_option maxRecDepth 20000 in
theorem m_M_bounded {l : Launch} {w : WO} (hL : LyM w) {σ : DD} {a1 : Int64} {a3 : Int32} {post : Int64 → DD → Prop} (h : w_M_bounded σ a1 a3 post) : ML l w yX11_bounded cX11_bounded 4 (rmK 0 0) σ [.ref (wAd w 0), .long a1, .int a3] post :=
  met_head (rt := (some .long)) (by decide) rfl (fun X hX C => by
  subst hX
  unfold w_M_bounded at h
  show gW X w (lim0 w) 4 (QL X w post) σ 0 [(0, .ref (wAd w 0)), (1, .long a1), (3, .int a3)] []
  refine r_iload_n C 2 rfl (dk_at dk_M_bounded_0 0 rfl) ?_
  refine r_if_eq C 25 rfl (dk_at dk_M_bounded_0 1 rfl) (fun c4 => ?_) (fun c4 => ?_)
  · replace h := h.1 c4
    refine r_lv [0, 1] rfl ?_
    exact t_M_bounded_j25 C hL h
  · replace h := h.2 c4
    refine r_lload_n C 1 rfl (dk_at dk_M_bounded_0 2 rfl) ?_
    refine r_ldc2 C tw_1591 (dk_at dk_M_bounded_0 3 rfl) ?_
    refine r_lcmp C (dk_at dk_M_bounded_0 4 rfl) ?_
    refine r_if_gt C 20 rfl (dk_at dk_M_bounded_0 5 rfl) (fun c5 => ?_) (fun c5 => ?_)
    · replace h := h.1 c5
      refine r_lv [0, 1] rfl ?_
      exact t_M_bounded_j20 C hL h
    · replace h := h.2 c5
      refine r_lload_n C 1 rfl (dk_at dk_M_bounded_0 6 rfl) ?_
      refine r_ldc2 C tw_1592 (dk_at dk_M_bounded_0 7 rfl) ?_
      refine r_lcmp C (dk_at dk_M_bounded_0 8 rfl) ?_
      refine r_if_ge C 25 rfl (dk_at dk_M_bounded_0 9 rfl) (fun c6 => ?_) (fun c6 => ?_)
      · replace h := h.1 c6
        refine r_lv [0, 1] rfl ?_
        exact t_M_bounded_j25 C hL h
      · replace h := h.2 c6
        refine r_lv [0, 1] rfl ?_
        exact t_M_bounded_j20 C hL h
  )
set_option maxRecDepth 20000 in
theorem t_M_partOf_j112 {o_sumOf : DD → Int32 → (Int64 → DD → Prop) → Prop} {f0 q0 f_sumOf q_sumOf : Nat} {X : CT} {w : WO} (C : CF X w (lim0 w) 4 cX11_partOf RX11 (some .long) (.code yX11_partOf cX11_partOf 4 (some .long)) (rmK f0 q0)) (hL : LyM w) (hr0 : 2 ≤ f0 ∧ 43 ≤ q0) (hr_sumOf : f_sumOf + 1 ≤ f0 ∧ 8 + (7 + 11) + q_sumOf ≤ q0) (ho_sumOf : ∀ (σ : DD) (a1 : Int32) (post : Int64 → DD → Prop), o_sumOf σ a1 post → ML X.l w yX11_sumOf cX11_sumOf 7 (rmK f_sumOf q_sumOf) σ [.ref (wAd w 0), .int a1] post) {post : Int64 → DD → Prop} {a2 : Int32} {a3 : Int32} {σ : DD} (h : w_M_partOf_j112 o_sumOf post σ a2 a3) : gW X w (lim0 w) 4 (QL X w post) σ 112 [(0, .ref (wAd w 0)), (2, .int a2), (3, .int a3)] [] := by
  unfold w_M_partOf_j112 at h
  refine r_iload_n C 1 rfl (dk_at dk_M_partOf_1 23 rfl) ?_
  refine r_bipush C 20 (dk_at dk_M_partOf_1 24 rfl) ?_
  refine r_icmp_ne C 128 rfl (dk_at dk_M_partOf_1 25 rfl) (fun c1 => ?_) (fun c1 => ?_)
  · replace h := h.1 c1
    refine r_aload_n C 0 rfl (dk_at dk_M_partOf_1 32 rfl) ?_
    refine r_getR C fl_M_58 0 (hL 0 _ rfl) rfl (dk_at dk_M_partOf_1 33 rfl) ?_
    refine r_iload_n C 2 rfl (dk_at dk_M_partOf_1 34 rfl) ?_
    obtain ⟨q2, h⟩ := h
    refine r_iald C 28 (hL 28 _ rfl) q2 (dk_at dk_M_partOf_1 35 rfl) ?_
    refine r_i2l C (dk_at dk_M_partOf_1 36 rfl) ?_
    exact r_lret C h (dk_at dk_M_partOf_1 37 rfl)
  · replace h := h.2 c1
    refine r_aload_n C 0 rfl (dk_at dk_M_partOf_1 26 rfl) ?_
    refine r_getR C fl_M_55 0 (hL 0 _ rfl) rfl (dk_at dk_M_partOf_1 27 rfl) ?_
    refine r_iload_n C 2 rfl (dk_at dk_M_partOf_1 28 rfl) ?_
    obtain ⟨q3, h⟩ := h
    refine r_iald C 27 (hL 27 _ rfl) q3 (dk_at dk_M_partOf_1 29 rfl) ?_
    refine r_i2l C (dk_at dk_M_partOf_1 30 rfl) ?_
    refine r_goto C 135 rfl (dk_at dk_M_partOf_1 31 rfl) ?_
    exact r_lret C h (dk_at dk_M_partOf_1 37 rfl)
set_option maxRecDepth 20000 in
theorem t_M_partOf_j87 {o_sumOf : DD → Int32 → (Int64 → DD → Prop) → Prop} {f0 q0 f_sumOf q_sumOf : Nat} {X : CT} {w : WO} (C : CF X w (lim0 w) 4 cX11_partOf RX11 (some .long) (.code yX11_partOf cX11_partOf 4 (some .long)) (rmK f0 q0)) (hL : LyM w) (hr0 : 2 ≤ f0 ∧ 43 ≤ q0) (hr_sumOf : f_sumOf + 1 ≤ f0 ∧ 8 + (7 + 11) + q_sumOf ≤ q0) (ho_sumOf : ∀ (σ : DD) (a1 : Int32) (post : Int64 → DD → Prop), o_sumOf σ a1 post → ML X.l w yX11_sumOf cX11_sumOf 7 (rmK f_sumOf q_sumOf) σ [.ref (wAd w 0), .int a1] post) {post : Int64 → DD → Prop} {a1 : Int32} {a2 : Int32} {a3 : Int32} {σ : DD} (h : w_M_partOf_j87 o_sumOf post σ a1 a2 a3) : gW X w (lim0 w) 4 (QL X w post) σ 87 [(0, .ref (wAd w 0)), (1, .int a1), (2, .int a2), (3, .int a3)] [] := by
  unfold w_M_partOf_j87 at h
  refine r_iload_n C 1 rfl (dk_at dk_M_partOf_1 10 rfl) ?_
  refine r_if_eq C 98 rfl (dk_at dk_M_partOf_1 11 rfl) (fun c4 => ?_) (fun c4 => ?_)
  · replace h := h.1 c4
    refine r_lconst C 0 (dk_at dk_M_partOf_1 15 rfl) ?_
    exact r_lret C h (dk_at dk_M_partOf_1 16 rfl)
  · replace h := h.2 c4
    refine r_aload_n C 0 rfl (dk_at dk_M_partOf_1 12 rfl) ?_
    refine r_getI C fl_M_256 0 (hL 0 _ rfl) rfl (dk_at dk_M_partOf_1 13 rfl) ?_
    refine r_if_eq C 100 rfl (dk_at dk_M_partOf_1 14 rfl) (fun c5 => ?_) (fun c5 => ?_)
    · replace h := h.1 c5
      refine r_iload_n C 2 rfl (dk_at dk_M_partOf_1 17 rfl) ?_
      refine r_bipush C 20 (dk_at dk_M_partOf_1 18 rfl) ?_
      refine r_icmp_eq C 112 rfl (dk_at dk_M_partOf_1 19 rfl) (fun c6 => ?_) (fun c6 => ?_)
      · replace h := h.1 c6
        refine r_lv [0, 2, 3] rfl ?_
        exact t_M_partOf_j112 C hL hr0 hr_sumOf ho_sumOf h
      · replace h := h.2 c6
        refine r_iload_n C 2 rfl (dk_at dk_M_partOf_1 20 rfl) ?_
        refine r_bipush C 21 (dk_at dk_M_partOf_1 21 rfl) ?_
        refine r_icmp_ne C 136 rfl (dk_at dk_M_partOf_1 22 rfl) (fun c7 => ?_) (fun c7 => ?_)
        · replace h := h.1 c7
          refine r_iload_n C 2 rfl (dk_at dk_M_partOf_1 38 rfl) ?_
          refine r_bipush C 50 (dk_at dk_M_partOf_1 39 rfl) ?_
          refine r_icmp_ne C 161 rfl (dk_at dk_M_partOf_2 0 rfl) (fun c8 => ?_) (fun c8 => ?_)
          · replace h := h.1 c8
            refine r_aload_n C 0 rfl (dk_at dk_M_partOf_2 12 rfl) ?_
            refine r_getR C fl_M_52 0 (hL 0 _ rfl) rfl (dk_at dk_M_partOf_2 13 rfl) ?_
            refine r_iload_n C 2 rfl (dk_at dk_M_partOf_2 14 rfl) ?_
            refine r_aload_n C 0 rfl (dk_at dk_M_partOf_2 15 rfl) ?_
            refine r_getI C fl_M_218 0 (hL 0 _ rfl) rfl (dk_at dk_M_partOf_2 16 rfl) ?_
            refine r_isub C (dk_at dk_M_partOf_2 17 rfl) ?_
            obtain ⟨q9, h⟩ := h
            refine r_iald C 26 (hL 26 _ rfl) q9 (dk_at dk_M_partOf_2 18 rfl) ?_
            refine r_i2l C (dk_at dk_M_partOf_2 19 rfl) ?_
            exact r_lret C h (dk_at dk_M_partOf_2 20 rfl)
          · replace h := h.2 c8
            refine r_aload_n C 0 rfl (dk_at dk_M_partOf_2 1 rfl) ?_
            refine r_getR C fl_M_20 0 (hL 0 _ rfl) rfl (dk_at dk_M_partOf_2 2 rfl) ?_
            refine r_sipush C 3212 (dk_at dk_M_partOf_2 3 rfl) ?_
            refine r_aload_n C 0 rfl (dk_at dk_M_partOf_2 4 rfl) ?_
            refine r_getI C fl_M_246 0 (hL 0 _ rfl) rfl (dk_at dk_M_partOf_2 5 rfl) ?_
            refine r_iadd C (dk_at dk_M_partOf_2 6 rfl) ?_
            refine r_iconst C 1 (dk_at dk_M_partOf_2 7 rfl) ?_
            refine r_isub C (dk_at dk_M_partOf_2 8 rfl) ?_
            obtain ⟨q10, h⟩ := h
            refine r_iald C 4 (hL 4 _ rfl) q10 (dk_at dk_M_partOf_2 9 rfl) ?_
            refine r_i2l C (dk_at dk_M_partOf_2 10 rfl) ?_
            refine r_goto C 173 rfl (dk_at dk_M_partOf_2 11 rfl) ?_
            exact r_lret C h (dk_at dk_M_partOf_2 20 rfl)
        · replace h := h.2 c7
          refine r_lv [0, 2, 3] rfl ?_
          exact t_M_partOf_j112 C hL hr0 hr_sumOf ho_sumOf h
    · replace h := h.2 c5
      refine r_lconst C 0 (dk_at dk_M_partOf_1 15 rfl) ?_
      exact r_lret C h (dk_at dk_M_partOf_1 16 rfl)
set_option maxRecDepth 20000 in
theorem t_M_partOf_j63 {o_sumOf : DD → Int32 → (Int64 → DD → Prop) → Prop} {f0 q0 f_sumOf q_sumOf : Nat} {X : CT} {w : WO} (C : CF X w (lim0 w) 4 cX11_partOf RX11 (some .long) (.code yX11_partOf cX11_partOf 4 (some .long)) (rmK f0 q0)) (hL : LyM w) (hr0 : 2 ≤ f0 ∧ 43 ≤ q0) (hr_sumOf : f_sumOf + 1 ≤ f0 ∧ 8 + (7 + 11) + q_sumOf ≤ q0) (ho_sumOf : ∀ (σ : DD) (a1 : Int32) (post : Int64 → DD → Prop), o_sumOf σ a1 post → ML X.l w yX11_sumOf cX11_sumOf 7 (rmK f_sumOf q_sumOf) σ [.ref (wAd w 0), .int a1] post) {post : Int64 → DD → Prop} {a1 : Int32} {a2 : Int32} {σ : DD} (h : w_M_partOf_j63 o_sumOf post σ a1 a2) : gW X w (lim0 w) 4 (QL X w post) σ 63 [(0, .ref (wAd w 0)), (1, .int a1), (2, .int a2)] [] := by
  unfold w_M_partOf_j63 at h
  refine r_aload_n C 0 rfl (dk_at dk_M_partOf_0 36 rfl) ?_
  refine r_getR C fl_M_20 0 (hL 0 _ rfl) rfl (dk_at dk_M_partOf_0 37 rfl) ?_
  refine r_sipush C 3212 (dk_at dk_M_partOf_0 38 rfl) ?_
  refine r_aload_n C 0 rfl (dk_at dk_M_partOf_0 39 rfl) ?_
  refine r_getI C fl_M_246 0 (hL 0 _ rfl) rfl (dk_at dk_M_partOf_1 0 rfl) ?_
  refine r_iadd C (dk_at dk_M_partOf_1 1 rfl) ?_
  obtain ⟨q11, h⟩ := h
  refine r_iald C 4 (hL 4 _ rfl) q11 (dk_at dk_M_partOf_1 2 rfl) ?_
  refine r_topi (fun v12 e13 => ?_)
  replace h := h v12 e13
  refine r_istore_n C [(3, .int v12), (0, .ref (wAd w 0)), (1, .int a1), (2, .int a2)] rfl rfl (dk_at dk_M_partOf_1 3 rfl) ?_
  refine r_aload_n C 1 rfl (dk_at dk_M_partOf_1 4 rfl) ?_
  refine r_dup C rfl (dk_at dk_M_partOf_1 5 rfl) ?_
  refine r_getI C fl_M_246 0 (hL 0 _ rfl) rfl (dk_at dk_M_partOf_1 6 rfl) ?_
  refine r_iconst C 1 (dk_at dk_M_partOf_1 7 rfl) ?_
  refine r_iadd C (dk_at dk_M_partOf_1 8 rfl) ?_
  refine r_putI C fl_M_246 0 (hL 0 _ rfl) rfl (dk_at dk_M_partOf_1 9 rfl) (r_sg (fun σ14 e15 => ?_))
  replace h := h σ14 e15
  refine r_lv [1, 2, 3, 0] rfl ?_
  exact t_M_partOf_j87 C hL hr0 hr_sumOf ho_sumOf h
set_option maxRecDepth 20000 in
theorem m_M_partOf_o {l : Launch} {w : WO} (hL : LyM w) {o_sumOf : DD → Int32 → (Int64 → DD → Prop) → Prop} {f0 q0 f_sumOf q_sumOf : Nat} (hr0 : 2 ≤ f0 ∧ 43 ≤ q0) (hr_sumOf : f_sumOf + 1 ≤ f0 ∧ 8 + (7 + 11) + q_sumOf ≤ q0) (ho_sumOf : ∀ (σ : DD) (a1 : Int32) (post : Int64 → DD → Prop), o_sumOf σ a1 post → ML l w yX11_sumOf cX11_sumOf 7 (rmK f_sumOf q_sumOf) σ [.ref (wAd w 0), .int a1] post) {σ : DD} {a1 : Int32} {post : Int64 → DD → Prop} (h : w_M_partOf_o o_sumOf σ a1 post) : ML l w yX11_partOf cX11_partOf 4 (rmK f0 q0) σ [.ref (wAd w 0), .int a1] post :=
  met_head (rt := (some .long)) (by decide) rfl (fun X hX C => by
  subst hX
  unfold w_M_partOf_o at h
  show gW X w (lim0 w) 4 (QL X w post) σ 0 [(0, .ref (wAd w 0)), (1, .int a1)] []
  refine r_aload_n C 0 rfl (dk_at dk_M_partOf_0 0 rfl) ?_
  refine r_bipush C 91 (dk_at dk_M_partOf_0 1 rfl) ?_
  refine r_csI C cs_M_208 [.int 91] (m_M_sign hL h) (rmK_ok2 (f := f0) (q := q0) (f' := 0) (q' := 0) (by omega) (by omega)) rfl rfl (Nat.le_of_ble_eq_true rfl) (dk_at dk_M_partOf_0 2 rfl) (fun r16 σ17 h => ?_)
  refine r_cvI C cl_M_270 0 (hL 0 _ rfl) [.int r16] (m_M_passes0 hL h) (rmK_ok2 (f := f0) (q := q0) (f' := 1) (q' := 21) (by omega) (by omega)) rfl rfl (Nat.le_of_ble_eq_true rfl) (dk_at dk_M_partOf_0 3 rfl) (fun r18 σ19 h => ?_)
  refine r_if_eq C 30 rfl (dk_at dk_M_partOf_0 4 rfl) (fun c20 => ?_) (fun c20 => ?_)
  · replace h := h.1 c20
    refine r_aload_n C 0 rfl (dk_at dk_M_partOf_0 17 rfl) ?_
    refine r_aload_n C 0 rfl (dk_at dk_M_partOf_0 18 rfl) ?_
    refine r_getI C fl_M_246 0 (hL 0 _ rfl) rfl (dk_at dk_M_partOf_0 19 rfl) ?_
    refine r_cvI C cl_M_249 0 (hL 0 _ rfl) [.int (gI σ19 0 22)] (m_M_codeAt hL h) (rmK_ok2 (f := f0) (q := q0) (f' := 0) (q' := 0) (by omega) (by omega)) rfl rfl (Nat.le_of_ble_eq_true rfl) (dk_at dk_M_partOf_0 20 rfl) (fun r21 σ22 h => ?_)
    refine r_istore_n C [(2, .int r21), (0, .ref (wAd w 0)), (1, .int a1)] rfl rfl (dk_at dk_M_partOf_0 21 rfl) ?_
    refine r_iconst C 0 (dk_at dk_M_partOf_0 22 rfl) ?_
    refine r_istore_n C [(3, .int 0), (2, .int r21), (0, .ref (wAd w 0)), (1, .int a1)] rfl rfl (dk_at dk_M_partOf_0 23 rfl) ?_
    refine r_aload_n C 2 rfl (dk_at dk_M_partOf_0 24 rfl) ?_
    refine r_dup C rfl (dk_at dk_M_partOf_0 25 rfl) ?_
    refine r_getI C fl_M_246 0 (hL 0 _ rfl) rfl (dk_at dk_M_partOf_0 26 rfl) ?_
    refine r_iconst C 1 (dk_at dk_M_partOf_0 27 rfl) ?_
    refine r_iadd C (dk_at dk_M_partOf_0 28 rfl) ?_
    refine r_putI C fl_M_246 0 (hL 0 _ rfl) rfl (dk_at dk_M_partOf_0 29 rfl) (r_sg (fun σ23 e24 => ?_))
    replace h := h σ23 e24
    refine r_iload_n C 1 rfl (dk_at dk_M_partOf_0 30 rfl) ?_
    refine r_bipush C 20 (dk_at dk_M_partOf_0 31 rfl) ?_
    refine r_icmp_eq C 63 rfl (dk_at dk_M_partOf_0 32 rfl) (fun c25 => ?_) (fun c25 => ?_)
    · replace h := h.1 c25
      refine r_lv [2, 3, 1] rfl ?_
      exact t_M_partOf_j63 C hL hr0 hr_sumOf ho_sumOf h
    · replace h := h.2 c25
      refine r_iload_n C 1 rfl (dk_at dk_M_partOf_0 33 rfl) ?_
      refine r_bipush C 21 (dk_at dk_M_partOf_0 34 rfl) ?_
      refine r_icmp_ne C 87 rfl (dk_at dk_M_partOf_0 35 rfl) (fun c26 => ?_) (fun c26 => ?_)
      · replace h := h.1 c26
        refine r_lv [2, 3, 1, 0] rfl ?_
        exact t_M_partOf_j87 C hL hr0 hr_sumOf ho_sumOf h
      · replace h := h.2 c26
        refine r_lv [2, 3, 1] rfl ?_
        exact t_M_partOf_j63 C hL hr0 hr_sumOf ho_sumOf h
  · replace h := h.2 c20
    refine r_aload_n C 0 rfl (dk_at dk_M_partOf_0 5 rfl) ?_
    refine r_iload_n C 1 rfl (dk_at dk_M_partOf_0 6 rfl) ?_
    refine r_cvL C cl_M_273 0 (hL 0 _ rfl) [.int a1] (ho_sumOf _ _ _ h) (rmK_ok2 hr_sumOf.1 hr_sumOf.2) rfl rfl (Nat.le_of_ble_eq_true rfl) (dk_at dk_M_partOf_0 7 rfl) (fun r27 σ28 h => ?_)
    refine r_lstore_n C [(2, .long r27), (0, .ref (wAd w 0)), (1, .int a1)] rfl rfl (dk_at dk_M_partOf_0 8 rfl) ?_
    refine r_aload_n C 1 rfl (dk_at dk_M_partOf_0 9 rfl) ?_
    refine r_dup C rfl (dk_at dk_M_partOf_0 10 rfl) ?_
    refine r_getI C fl_M_246 0 (hL 0 _ rfl) rfl (dk_at dk_M_partOf_0 11 rfl) ?_
    refine r_iconst C 1 (dk_at dk_M_partOf_0 12 rfl) ?_
    refine r_iadd C (dk_at dk_M_partOf_0 13 rfl) ?_
    refine r_putI C fl_M_246 0 (hL 0 _ rfl) rfl (dk_at dk_M_partOf_0 14 rfl) (r_sg (fun σ29 e30 => ?_))
    replace h := h σ29 e30
    refine r_lload_n C 0 rfl (dk_at dk_M_partOf_0 15 rfl) ?_
    exact r_lret C h (dk_at dk_M_partOf_0 16 rfl)
  )
set_option maxRecDepth 20000 in
theorem t_M_sumOf_j95 {o_termOf : DD → Int32 → (Int64 → DD → Prop) → Prop} {f0 q0 f_termOf q_termOf : Nat} {X : CT} {w : WO} (C : CF X w (lim0 w) 7 cX11_sumOf RX11 (some .long) (.code yX11_sumOf cX11_sumOf 7 (some .long)) (rmK f0 q0)) (hL : LyM w) (hr0 : 1 ≤ f0 ∧ 23 ≤ q0) (hr_termOf : f_termOf + 1 ≤ f0 ∧ 8 + (7 + 11) + q_termOf ≤ q0) (ho_termOf : ∀ (σ : DD) (a1 : Int32) (post : Int64 → DD → Prop), o_termOf σ a1 post → ML X.l w yX11_termOf cX11_termOf 7 (rmK f_termOf q_termOf) σ [.ref (wAd w 0), .int a1] post) {K6 : DD → Int64 → Prop} {post : Int64 → DD → Prop} {a1 : Int32} {t1 : Int64} (k6 : ∀ (σ : DD) (a2 : Int64), K6 σ a2 → gW X w (lim0 w) 7 (QL X w post) σ 6 [(0, .ref (wAd w 0)), (1, .int a1), (2, .long a2)] []) {σ : DD} (h : w_M_sumOf_j95 o_termOf K6 post σ a1 t1) : gW X w (lim0 w) 7 (QL X w post) σ 95 [(0, .ref (wAd w 0)), (1, .int a1)] [.long t1, .ref (wAd w 0)] := by
  unfold w_M_sumOf_j95 at h
  refine r_iload_n C 1 rfl (dk_at dk_M_sumOf_1 9 rfl) ?_
  refine r_cvL C cl_M_263 0 (hL 0 _ rfl) [.long t1, .int a1] (m_M_bounded hL h) (rmK_ok2 (f := f0) (q := q0) (f' := 0) (q' := 0) (by omega) (by omega)) rfl rfl (Nat.le_of_ble_eq_true rfl) (dk_at dk_M_sumOf_1 10 rfl) (fun r1 σ2 h => ?_)
  refine r_lstore_n C [(2, .long r1), (0, .ref (wAd w 0)), (1, .int a1)] rfl rfl (dk_at dk_M_sumOf_1 11 rfl) ?_
  refine r_goto C 6 rfl (dk_at dk_M_sumOf_1 12 rfl) ?_
  refine r_lv [1, 2, 0] rfl ?_
  exact k6 _ _ h
set_option maxRecDepth 20000 in
theorem t_M_sumOf_j59 {o_termOf : DD → Int32 → (Int64 → DD → Prop) → Prop} {f0 q0 f_termOf q_termOf : Nat} {X : CT} {w : WO} (C : CF X w (lim0 w) 7 cX11_sumOf RX11 (some .long) (.code yX11_sumOf cX11_sumOf 7 (some .long)) (rmK f0 q0)) (hL : LyM w) (hr0 : 1 ≤ f0 ∧ 23 ≤ q0) (hr_termOf : f_termOf + 1 ≤ f0 ∧ 8 + (7 + 11) + q_termOf ≤ q0) (ho_termOf : ∀ (σ : DD) (a1 : Int32) (post : Int64 → DD → Prop), o_termOf σ a1 post → ML X.l w yX11_termOf cX11_termOf 7 (rmK f_termOf q_termOf) σ [.ref (wAd w 0), .int a1] post) {K6 : DD → Int64 → Prop} {post : Int64 → DD → Prop} {a1 : Int32} {a2 : Int64} {t0 : Int32} (k6 : ∀ (σ : DD) (a2 : Int64), K6 σ a2 → gW X w (lim0 w) 7 (QL X w post) σ 6 [(0, .ref (wAd w 0)), (1, .int a1), (2, .long a2)] []) {σ : DD} (h : w_M_sumOf_j59 o_termOf K6 post σ a1 a2 t0) : gW X w (lim0 w) 7 (QL X w post) σ 59 [(0, .ref (wAd w 0)), (1, .int a1), (2, .long a2)] [.int t0] := by
  unfold w_M_sumOf_j59 at h
  refine r_istore C [(4, .int t0), (0, .ref (wAd w 0)), (1, .int a1), (2, .long a2)] rfl rfl (dk_at dk_M_sumOf_0 28 rfl) ?_
  refine r_aload_n C 1 rfl (dk_at dk_M_sumOf_0 29 rfl) ?_
  refine r_dup C rfl (dk_at dk_M_sumOf_0 30 rfl) ?_
  refine r_getI C fl_M_246 0 (hL 0 _ rfl) rfl (dk_at dk_M_sumOf_0 31 rfl) ?_
  refine r_iconst C 1 (dk_at dk_M_sumOf_0 32 rfl) ?_
  refine r_iadd C (dk_at dk_M_sumOf_0 33 rfl) ?_
  refine r_putI C fl_M_246 0 (hL 0 _ rfl) rfl (dk_at dk_M_sumOf_0 34 rfl) (r_sg (fun σ3 e4 => ?_))
  replace h := h σ3 e4
  refine r_aload_n C 1 rfl (dk_at dk_M_sumOf_0 35 rfl) ?_
  refine r_iload_n C 2 rfl (dk_at dk_M_sumOf_0 36 rfl) ?_
  refine r_cvL C cl_M_259 0 (hL 0 _ rfl) [.int a1] (ho_termOf _ _ _ h) (rmK_ok2 hr_termOf.1 hr_termOf.2) rfl rfl (Nat.le_of_ble_eq_true rfl) (dk_at dk_M_sumOf_0 37 rfl) (fun r5 σ6 h => ?_)
  refine r_lstore C [(5, .long r5), (4, .int t0), (0, .ref (wAd w 0)), (1, .int a1), (2, .long a2)] rfl rfl (dk_at dk_M_sumOf_0 38 rfl) ?_
  refine r_aload_n C 2 rfl (dk_at dk_M_sumOf_0 39 rfl) ?_
  refine r_iload C 1 rfl (dk_at dk_M_sumOf_1 0 rfl) ?_
  refine r_if_eq C 91 rfl (dk_at dk_M_sumOf_1 1 rfl) (fun c7 => ?_) (fun c7 => ?_)
  · replace h := h.1 c7
    refine r_lload_n C 4 rfl (dk_at dk_M_sumOf_1 6 rfl) ?_
    refine r_lload C 0 rfl (dk_at dk_M_sumOf_1 7 rfl) ?_
    refine r_lsub C (dk_at dk_M_sumOf_1 8 rfl) ?_
    refine r_lv [2, 3] rfl ?_
    exact t_M_sumOf_j95 C hL hr0 hr_termOf ho_termOf k6 h
  · replace h := h.2 c7
    refine r_lload_n C 4 rfl (dk_at dk_M_sumOf_1 2 rfl) ?_
    refine r_lload C 0 rfl (dk_at dk_M_sumOf_1 3 rfl) ?_
    refine r_ladd C (dk_at dk_M_sumOf_1 4 rfl) ?_
    refine r_goto C 95 rfl (dk_at dk_M_sumOf_1 5 rfl) ?_
    refine r_lv [2, 3] rfl ?_
    exact t_M_sumOf_j95 C hL hr0 hr_termOf ho_termOf k6 h
set_option maxRecDepth 20000 in
theorem t_M_sumOf_j38 {o_termOf : DD → Int32 → (Int64 → DD → Prop) → Prop} {f0 q0 f_termOf q_termOf : Nat} {X : CT} {w : WO} (C : CF X w (lim0 w) 7 cX11_sumOf RX11 (some .long) (.code yX11_sumOf cX11_sumOf 7 (some .long)) (rmK f0 q0)) (hL : LyM w) (hr0 : 1 ≤ f0 ∧ 23 ≤ q0) (hr_termOf : f_termOf + 1 ≤ f0 ∧ 8 + (7 + 11) + q_termOf ≤ q0) (ho_termOf : ∀ (σ : DD) (a1 : Int32) (post : Int64 → DD → Prop), o_termOf σ a1 post → ML X.l w yX11_termOf cX11_termOf 7 (rmK f_termOf q_termOf) σ [.ref (wAd w 0), .int a1] post) {K6 : DD → Int64 → Prop} {post : Int64 → DD → Prop} {a1 : Int32} {a2 : Int64} (k6 : ∀ (σ : DD) (a2 : Int64), K6 σ a2 → gW X w (lim0 w) 7 (QL X w post) σ 6 [(0, .ref (wAd w 0)), (1, .int a1), (2, .long a2)] []) {σ : DD} (h : w_M_sumOf_j38 o_termOf K6 post σ a1 a2) : gW X w (lim0 w) 7 (QL X w post) σ 38 [(0, .ref (wAd w 0)), (1, .int a1), (2, .long a2)] [] := by
  unfold w_M_sumOf_j38 at h
  refine r_aload_n C 0 rfl (dk_at dk_M_sumOf_0 18 rfl) ?_
  refine r_aload_n C 0 rfl (dk_at dk_M_sumOf_0 19 rfl) ?_
  refine r_getI C fl_M_246 0 (hL 0 _ rfl) rfl (dk_at dk_M_sumOf_0 20 rfl) ?_
  refine r_cvI C cl_M_249 0 (hL 0 _ rfl) [.int (gI σ 0 22)] (m_M_codeAt hL h) (rmK_ok2 (f := f0) (q := q0) (f' := 0) (q' := 0) (by omega) (by omega)) rfl rfl (Nat.le_of_ble_eq_true rfl) (dk_at dk_M_sumOf_0 21 rfl) (fun r8 σ9 h => ?_)
  refine r_bipush C 43 (dk_at dk_M_sumOf_0 22 rfl) ?_
  refine r_csI C cs_M_208 [.int 43] (m_M_sign hL h) (rmK_ok2 (f := f0) (q := q0) (f' := 0) (q' := 0) (by omega) (by omega)) rfl rfl (Nat.le_of_ble_eq_true rfl) (dk_at dk_M_sumOf_0 23 rfl) (fun r10 σ11 h => ?_)
  refine r_icmp_ne C 58 rfl (dk_at dk_M_sumOf_0 24 rfl) (fun c12 => ?_) (fun c12 => ?_)
  · replace h := h.1 c12
    refine r_iconst C 0 (dk_at dk_M_sumOf_0 27 rfl) ?_
    refine r_lv [0, 1, 2] rfl ?_
    exact t_M_sumOf_j59 C hL hr0 hr_termOf ho_termOf k6 h
  · replace h := h.2 c12
    refine r_iconst C 1 (dk_at dk_M_sumOf_0 25 rfl) ?_
    refine r_goto C 59 rfl (dk_at dk_M_sumOf_0 26 rfl) ?_
    refine r_lv [0, 1, 2] rfl ?_
    exact t_M_sumOf_j59 C hL hr0 hr_termOf ho_termOf k6 h
set_option maxRecDepth 20000 in
theorem t_M_sumOf_b6 {o_termOf : DD → Int32 → (Int64 → DD → Prop) → Prop} {f0 q0 f_termOf q_termOf : Nat} {X : CT} {w : WO} (C : CF X w (lim0 w) 7 cX11_sumOf RX11 (some .long) (.code yX11_sumOf cX11_sumOf 7 (some .long)) (rmK f0 q0)) (hL : LyM w) (hr0 : 1 ≤ f0 ∧ 23 ≤ q0) (hr_termOf : f_termOf + 1 ≤ f0 ∧ 8 + (7 + 11) + q_termOf ≤ q0) (ho_termOf : ∀ (σ : DD) (a1 : Int32) (post : Int64 → DD → Prop), o_termOf σ a1 post → ML X.l w yX11_termOf cX11_termOf 7 (rmK f_termOf q_termOf) σ [.ref (wAd w 0), .int a1] post) {a1 : Int32} {K6 : DD → Int64 → Prop} {post : Int64 → DD → Prop} (k6 : ∀ (σ : DD) (a2 : Int64), K6 σ a2 → gW X w (lim0 w) 7 (QL X w post) σ 6 [(0, .ref (wAd w 0)), (1, .int a1), (2, .long a2)] []) {σ : DD} {a2 : Int64} (h : w_M_sumOf_b6 o_termOf a1 K6 post σ a2) : gW X w (lim0 w) 7 (QL X w post) σ 6 [(0, .ref (wAd w 0)), (1, .int a1), (2, .long a2)] [] := by
  unfold w_M_sumOf_b6 at h
  refine r_aload_n C 0 rfl (dk_at dk_M_sumOf_0 4 rfl) ?_
  refine r_aload_n C 0 rfl (dk_at dk_M_sumOf_0 5 rfl) ?_
  refine r_getI C fl_M_246 0 (hL 0 _ rfl) rfl (dk_at dk_M_sumOf_0 6 rfl) ?_
  refine r_cvI C cl_M_249 0 (hL 0 _ rfl) [.int (gI σ 0 22)] (m_M_codeAt hL h) (rmK_ok2 (f := f0) (q := q0) (f' := 0) (q' := 0) (by omega) (by omega)) rfl rfl (Nat.le_of_ble_eq_true rfl) (dk_at dk_M_sumOf_0 7 rfl) (fun r13 σ14 h => ?_)
  refine r_bipush C 43 (dk_at dk_M_sumOf_0 8 rfl) ?_
  refine r_csI C cs_M_208 [.int 43] (m_M_sign hL h) (rmK_ok2 (f := f0) (q := q0) (f' := 0) (q' := 0) (by omega) (by omega)) rfl rfl (Nat.le_of_ble_eq_true rfl) (dk_at dk_M_sumOf_0 9 rfl) (fun r15 σ16 h => ?_)
  refine r_icmp_eq C 38 rfl (dk_at dk_M_sumOf_0 10 rfl) (fun c17 => ?_) (fun c17 => ?_)
  · replace h := h.1 c17
    refine r_lv [0, 1, 2] rfl ?_
    exact t_M_sumOf_j38 C hL hr0 hr_termOf ho_termOf k6 h
  · replace h := h.2 c17
    refine r_aload_n C 0 rfl (dk_at dk_M_sumOf_0 11 rfl) ?_
    refine r_aload_n C 0 rfl (dk_at dk_M_sumOf_0 12 rfl) ?_
    refine r_getI C fl_M_246 0 (hL 0 _ rfl) rfl (dk_at dk_M_sumOf_0 13 rfl) ?_
    refine r_cvI C cl_M_249 0 (hL 0 _ rfl) [.int (gI σ16 0 22)] (m_M_codeAt hL h) (rmK_ok2 (f := f0) (q := q0) (f' := 0) (q' := 0) (by omega) (by omega)) rfl rfl (Nat.le_of_ble_eq_true rfl) (dk_at dk_M_sumOf_0 14 rfl) (fun r18 σ19 h => ?_)
    refine r_bipush C 45 (dk_at dk_M_sumOf_0 15 rfl) ?_
    refine r_csI C cs_M_208 [.int 45] (m_M_sign hL h) (rmK_ok2 (f := f0) (q := q0) (f' := 0) (q' := 0) (by omega) (by omega)) rfl rfl (Nat.le_of_ble_eq_true rfl) (dk_at dk_M_sumOf_0 16 rfl) (fun r20 σ21 h => ?_)
    refine r_icmp_ne C 103 rfl (dk_at dk_M_sumOf_0 17 rfl) (fun c22 => ?_) (fun c22 => ?_)
    · replace h := h.1 c22
      refine r_lload_n C 2 rfl (dk_at dk_M_sumOf_1 13 rfl) ?_
      exact r_lret C h (dk_at dk_M_sumOf_1 14 rfl)
    · replace h := h.2 c22
      refine r_lv [0, 1, 2] rfl ?_
      exact t_M_sumOf_j38 C hL hr0 hr_termOf ho_termOf k6 h
set_option maxRecDepth 20000 in
theorem t_M_sumOf_l6 {o_termOf : DD → Int32 → (Int64 → DD → Prop) → Prop} {f0 q0 f_termOf q_termOf : Nat} {X : CT} {w : WO} (C : CF X w (lim0 w) 7 cX11_sumOf RX11 (some .long) (.code yX11_sumOf cX11_sumOf 7 (some .long)) (rmK f0 q0)) (hL : LyM w) (hr0 : 1 ≤ f0 ∧ 23 ≤ q0) (hr_termOf : f_termOf + 1 ≤ f0 ∧ 8 + (7 + 11) + q_termOf ≤ q0) (ho_termOf : ∀ (σ : DD) (a1 : Int32) (post : Int64 → DD → Prop), o_termOf σ a1 post → ML X.l w yX11_termOf cX11_termOf 7 (rmK f_termOf q_termOf) σ [.ref (wAd w 0), .int a1] post) {a1 : Int32} {post : Int64 → DD → Prop} {σ : DD} {a2 : Int64} (h : w_M_sumOf_l6 o_termOf post σ a1 a2) : gW X w (lim0 w) 7 (QL X w post) σ 6 [(0, .ref (wAd w 0)), (1, .int a1), (2, .long a2)] [] :=
  LoopW (G := fun x : DD × Int64 => gW X w (lim0 w) 7 (QL X w post) x.1 6 [(0, .ref (wAd w 0)), (1, .int a1), (2, .long x.2)] []) (fun K x hK hF => t_M_sumOf_b6 C hL hr0 hr_termOf ho_termOf (fun σ a2 q => hK (σ, a2) q) hF) h
set_option maxRecDepth 20000 in
theorem m_M_sumOf_o {l : Launch} {w : WO} (hL : LyM w) {o_termOf : DD → Int32 → (Int64 → DD → Prop) → Prop} {f0 q0 f_termOf q_termOf : Nat} (hr0 : 1 ≤ f0 ∧ 23 ≤ q0) (hr_termOf : f_termOf + 1 ≤ f0 ∧ 8 + (7 + 11) + q_termOf ≤ q0) (ho_termOf : ∀ (σ : DD) (a1 : Int32) (post : Int64 → DD → Prop), o_termOf σ a1 post → ML l w yX11_termOf cX11_termOf 7 (rmK f_termOf q_termOf) σ [.ref (wAd w 0), .int a1] post) {σ : DD} {a1 : Int32} {post : Int64 → DD → Prop} (h : w_M_sumOf_o o_termOf σ a1 post) : ML l w yX11_sumOf cX11_sumOf 7 (rmK f0 q0) σ [.ref (wAd w 0), .int a1] post :=
  met_head (rt := (some .long)) (by decide) rfl (fun X hX C => by
  subst hX
  unfold w_M_sumOf_o at h
  show gW X w (lim0 w) 7 (QL X w post) σ 0 [(0, .ref (wAd w 0)), (1, .int a1)] []
  refine r_aload_n C 0 rfl (dk_at dk_M_sumOf_0 0 rfl) ?_
  refine r_iload_n C 1 rfl (dk_at dk_M_sumOf_0 1 rfl) ?_
  refine r_cvL C cl_M_259 0 (hL 0 _ rfl) [.int a1] (ho_termOf _ _ _ h) (rmK_ok2 hr_termOf.1 hr_termOf.2) rfl rfl (Nat.le_of_ble_eq_true rfl) (dk_at dk_M_sumOf_0 2 rfl) (fun r23 σ24 h => ?_)
  refine r_lstore_n C [(2, .long r23), (0, .ref (wAd w 0)), (1, .int a1)] rfl rfl (dk_at dk_M_sumOf_0 3 rfl) ?_
  refine r_lv [1, 2, 0] rfl ?_
  exact t_M_sumOf_l6 C hL hr0 hr_termOf ho_termOf h
  )
set_option maxRecDepth 20000 in
theorem t_M_termOf_j160 {o_partOf : DD → Int32 → (Int64 → DD → Prop) → Prop} {f0 q0 f_partOf q_partOf : Nat} {X : CT} {w : WO} (C : CF X w (lim0 w) 7 cX11_termOf RX11 (some .long) (.code yX11_termOf cX11_termOf 7 (some .long)) (rmK f0 q0)) (hL : LyM w) (hr0 : 1 ≤ f0 ∧ 23 ≤ q0) (hr_partOf : f_partOf + 1 ≤ f0 ∧ 8 + (4 + 11) + q_partOf ≤ q0) (ho_partOf : ∀ (σ : DD) (a1 : Int32) (post : Int64 → DD → Prop), o_partOf σ a1 post → ML X.l w yX11_partOf cX11_partOf 4 (rmK f_partOf q_partOf) σ [.ref (wAd w 0), .int a1] post) {K6 : DD → Int64 → Prop} {post : Int64 → DD → Prop} {a1 : Int32} {t1 : Int64} (k6 : ∀ (σ : DD) (a2 : Int64), K6 σ a2 → gW X w (lim0 w) 7 (QL X w post) σ 6 [(0, .ref (wAd w 0)), (1, .int a1), (2, .long a2)] []) {σ : DD} (h : w_M_termOf_j160 o_partOf K6 post σ a1 t1) : gW X w (lim0 w) 7 (QL X w post) σ 160 [(0, .ref (wAd w 0)), (1, .int a1)] [.long t1, .ref (wAd w 0)] := by
  unfold w_M_termOf_j160 at h
  refine r_iload_n C 1 rfl (dk_at dk_M_termOf_2 0 rfl) ?_
  refine r_cvL C cl_M_263 0 (hL 0 _ rfl) [.long t1, .int a1] (m_M_bounded hL h) (rmK_ok2 (f := f0) (q := q0) (f' := 0) (q' := 0) (by omega) (by omega)) rfl rfl (Nat.le_of_ble_eq_true rfl) (dk_at dk_M_termOf_2 1 rfl) (fun r1 σ2 h => ?_)
  refine r_lstore_n C [(2, .long r1), (0, .ref (wAd w 0)), (1, .int a1)] rfl rfl (dk_at dk_M_termOf_2 2 rfl) ?_
  refine r_goto C 6 rfl (dk_at dk_M_termOf_2 3 rfl) ?_
  refine r_lv [1, 2, 0] rfl ?_
  exact k6 _ _ h
set_option maxRecDepth 20000 in
theorem t_M_termOf_j121 {o_partOf : DD → Int32 → (Int64 → DD → Prop) → Prop} {f0 q0 f_partOf q_partOf : Nat} {X : CT} {w : WO} (C : CF X w (lim0 w) 7 cX11_termOf RX11 (some .long) (.code yX11_termOf cX11_termOf 7 (some .long)) (rmK f0 q0)) (hL : LyM w) (hr0 : 1 ≤ f0 ∧ 23 ≤ q0) (hr_partOf : f_partOf + 1 ≤ f0 ∧ 8 + (4 + 11) + q_partOf ≤ q0) (ho_partOf : ∀ (σ : DD) (a1 : Int32) (post : Int64 → DD → Prop), o_partOf σ a1 post → ML X.l w yX11_partOf cX11_partOf 4 (rmK f_partOf q_partOf) σ [.ref (wAd w 0), .int a1] post) {K6 : DD → Int64 → Prop} {post : Int64 → DD → Prop} {a1 : Int32} {a2 : Int64} {a4 : Int32} {a5 : Int64} (k6 : ∀ (σ : DD) (a2 : Int64), K6 σ a2 → gW X w (lim0 w) 7 (QL X w post) σ 6 [(0, .ref (wAd w 0)), (1, .int a1), (2, .long a2)] []) {σ : DD} (h : w_M_termOf_j121 o_partOf K6 post σ a1 a2 a4 a5) : gW X w (lim0 w) 7 (QL X w post) σ 121 [(0, .ref (wAd w 0)), (1, .int a1), (2, .long a2), (4, .int a4), (5, .long a5)] [] := by
  unfold w_M_termOf_j121 at h
  refine r_aload_n C 0 rfl (dk_at dk_M_termOf_1 20 rfl) ?_
  refine r_iload C 3 rfl (dk_at dk_M_termOf_1 21 rfl) ?_
  refine r_bipush C 42 (dk_at dk_M_termOf_1 22 rfl) ?_
  refine r_csI C cs_M_208 [.int 42] (m_M_sign hL h) (rmK_ok2 (f := f0) (q := q0) (f' := 0) (q' := 0) (by omega) (by omega)) rfl rfl (Nat.le_of_ble_eq_true rfl) (dk_at dk_M_termOf_1 23 rfl) (fun r3 σ4 h => ?_)
  refine r_icmp_ne C 139 rfl (dk_at dk_M_termOf_1 24 rfl) (fun c5 => ?_) (fun c5 => ?_)
  · replace h := h.1 c5
    refine r_iload C 3 rfl (dk_at dk_M_termOf_1 29 rfl) ?_
    refine r_bipush C 47 (dk_at dk_M_termOf_1 30 rfl) ?_
    refine r_csI C cs_M_208 [.int 47] (m_M_sign hL h) (rmK_ok2 (f := f0) (q := q0) (f' := 0) (q' := 0) (by omega) (by omega)) rfl rfl (Nat.le_of_ble_eq_true rfl) (dk_at dk_M_termOf_1 31 rfl) (fun r6 σ7 h => ?_)
    refine r_icmp_ne C 156 rfl (dk_at dk_M_termOf_1 32 rfl) (fun c8 => ?_) (fun c8 => ?_)
    · replace h := h.1 c8
      refine r_lload_n C 2 rfl (dk_at dk_M_termOf_1 37 rfl) ?_
      refine r_lload C 4 rfl (dk_at dk_M_termOf_1 38 rfl) ?_
      obtain ⟨q9, h⟩ := h
      refine r_lrem C q9 (dk_at dk_M_termOf_1 39 rfl) ?_
      refine r_lv [0, 1] rfl ?_
      exact t_M_termOf_j160 C hL hr0 hr_partOf ho_partOf k6 h
    · replace h := h.2 c8
      refine r_lload_n C 2 rfl (dk_at dk_M_termOf_1 33 rfl) ?_
      refine r_lload C 4 rfl (dk_at dk_M_termOf_1 34 rfl) ?_
      obtain ⟨q10, h⟩ := h
      refine r_ldiv C q10 (dk_at dk_M_termOf_1 35 rfl) ?_
      refine r_goto C 160 rfl (dk_at dk_M_termOf_1 36 rfl) ?_
      refine r_lv [0, 1] rfl ?_
      exact t_M_termOf_j160 C hL hr0 hr_partOf ho_partOf k6 h
  · replace h := h.2 c5
    refine r_lload_n C 2 rfl (dk_at dk_M_termOf_1 25 rfl) ?_
    refine r_lload C 4 rfl (dk_at dk_M_termOf_1 26 rfl) ?_
    refine r_lmul C (dk_at dk_M_termOf_1 27 rfl) ?_
    refine r_goto C 160 rfl (dk_at dk_M_termOf_1 28 rfl) ?_
    refine r_lv [0, 1] rfl ?_
    exact t_M_termOf_j160 C hL hr0 hr_partOf ho_partOf k6 h
set_option maxRecDepth 20000 in
theorem t_M_termOf_j115 {o_partOf : DD → Int32 → (Int64 → DD → Prop) → Prop} {f0 q0 f_partOf q_partOf : Nat} {X : CT} {w : WO} (C : CF X w (lim0 w) 7 cX11_termOf RX11 (some .long) (.code yX11_termOf cX11_termOf 7 (some .long)) (rmK f0 q0)) (hL : LyM w) (hr0 : 1 ≤ f0 ∧ 23 ≤ q0) (hr_partOf : f_partOf + 1 ≤ f0 ∧ 8 + (4 + 11) + q_partOf ≤ q0) (ho_partOf : ∀ (σ : DD) (a1 : Int32) (post : Int64 → DD → Prop), o_partOf σ a1 post → ML X.l w yX11_partOf cX11_partOf 4 (rmK f_partOf q_partOf) σ [.ref (wAd w 0), .int a1] post) {K6 : DD → Int64 → Prop} {post : Int64 → DD → Prop} {a1 : Int32} {a2 : Int64} {a4 : Int32} {t1 : Int32} (k6 : ∀ (σ : DD) (a2 : Int64), K6 σ a2 → gW X w (lim0 w) 7 (QL X w post) σ 6 [(0, .ref (wAd w 0)), (1, .int a1), (2, .long a2)] []) {σ : DD} (h : w_M_termOf_j115 o_partOf K6 post σ a1 a2 a4 t1) : gW X w (lim0 w) 7 (QL X w post) σ 115 [(0, .ref (wAd w 0)), (1, .int a1), (2, .long a2), (4, .int a4)] [.int t1, .ref (wAd w 0)] := by
  unfold w_M_termOf_j115 at h
  obtain ⟨q11, h⟩ := h
  refine r_putZ C fl_M_256 0 (hL 0 _ rfl) rfl q11 (dk_at dk_M_termOf_1 17 rfl) (r_sg (fun σ12 e13 => ?_))
  replace h := h σ12 e13
  refine r_lconst C 1 (dk_at dk_M_termOf_1 18 rfl) ?_
  refine r_lstore C [(5, .long 1), (0, .ref (wAd w 0)), (1, .int a1), (2, .long a2), (4, .int a4)] rfl rfl (dk_at dk_M_termOf_1 19 rfl) ?_
  refine r_lv [1, 2, 3, 4, 0] rfl ?_
  exact t_M_termOf_j121 C hL hr0 hr_partOf ho_partOf k6 h
set_option maxRecDepth 20000 in
theorem t_M_termOf_j110 {o_partOf : DD → Int32 → (Int64 → DD → Prop) → Prop} {f0 q0 f_partOf q_partOf : Nat} {X : CT} {w : WO} (C : CF X w (lim0 w) 7 cX11_termOf RX11 (some .long) (.code yX11_termOf cX11_termOf 7 (some .long)) (rmK f0 q0)) (hL : LyM w) (hr0 : 1 ≤ f0 ∧ 23 ≤ q0) (hr_partOf : f_partOf + 1 ≤ f0 ∧ 8 + (4 + 11) + q_partOf ≤ q0) (ho_partOf : ∀ (σ : DD) (a1 : Int32) (post : Int64 → DD → Prop), o_partOf σ a1 post → ML X.l w yX11_partOf cX11_partOf 4 (rmK f_partOf q_partOf) σ [.ref (wAd w 0), .int a1] post) {K6 : DD → Int64 → Prop} {post : Int64 → DD → Prop} {a1 : Int32} {a2 : Int64} {a4 : Int32} (k6 : ∀ (σ : DD) (a2 : Int64), K6 σ a2 → gW X w (lim0 w) 7 (QL X w post) σ 6 [(0, .ref (wAd w 0)), (1, .int a1), (2, .long a2)] []) {σ : DD} (h : w_M_termOf_j110 o_partOf K6 post σ a1 a2 a4) : gW X w (lim0 w) 7 (QL X w post) σ 110 [(0, .ref (wAd w 0)), (1, .int a1), (2, .long a2), (4, .int a4)] [.ref (wAd w 0)] := by
  unfold w_M_termOf_j110 at h
  refine r_iconst C 1 (dk_at dk_M_termOf_1 14 rfl) ?_
  refine r_goto C 115 rfl (dk_at dk_M_termOf_1 15 rfl) ?_
  refine r_lv [0, 1, 2, 3] rfl ?_
  exact t_M_termOf_j115 C hL hr0 hr_partOf ho_partOf k6 h
set_option maxRecDepth 20000 in
theorem t_M_termOf_j54 {o_partOf : DD → Int32 → (Int64 → DD → Prop) → Prop} {f0 q0 f_partOf q_partOf : Nat} {X : CT} {w : WO} (C : CF X w (lim0 w) 7 cX11_termOf RX11 (some .long) (.code yX11_termOf cX11_termOf 7 (some .long)) (rmK f0 q0)) (hL : LyM w) (hr0 : 1 ≤ f0 ∧ 23 ≤ q0) (hr_partOf : f_partOf + 1 ≤ f0 ∧ 8 + (4 + 11) + q_partOf ≤ q0) (ho_partOf : ∀ (σ : DD) (a1 : Int32) (post : Int64 → DD → Prop), o_partOf σ a1 post → ML X.l w yX11_partOf cX11_partOf 4 (rmK f_partOf q_partOf) σ [.ref (wAd w 0), .int a1] post) {K6 : DD → Int64 → Prop} {post : Int64 → DD → Prop} {a1 : Int32} {a2 : Int64} (k6 : ∀ (σ : DD) (a2 : Int64), K6 σ a2 → gW X w (lim0 w) 7 (QL X w post) σ 6 [(0, .ref (wAd w 0)), (1, .int a1), (2, .long a2)] []) {σ : DD} (h : w_M_termOf_j54 o_partOf K6 post σ a1 a2) : gW X w (lim0 w) 7 (QL X w post) σ 54 [(0, .ref (wAd w 0)), (1, .int a1), (2, .long a2)] [] := by
  unfold w_M_termOf_j54 at h
  refine r_aload_n C 0 rfl (dk_at dk_M_termOf_0 25 rfl) ?_
  refine r_aload_n C 0 rfl (dk_at dk_M_termOf_0 26 rfl) ?_
  refine r_getI C fl_M_246 0 (hL 0 _ rfl) rfl (dk_at dk_M_termOf_0 27 rfl) ?_
  refine r_cvI C cl_M_249 0 (hL 0 _ rfl) [.int (gI σ 0 22)] (m_M_codeAt hL h) (rmK_ok2 (f := f0) (q := q0) (f' := 0) (q' := 0) (by omega) (by omega)) rfl rfl (Nat.le_of_ble_eq_true rfl) (dk_at dk_M_termOf_0 28 rfl) (fun r14 σ15 h => ?_)
  refine r_istore C [(4, .int r14), (0, .ref (wAd w 0)), (1, .int a1), (2, .long a2)] rfl rfl (dk_at dk_M_termOf_0 29 rfl) ?_
  refine r_aload_n C 1 rfl (dk_at dk_M_termOf_0 30 rfl) ?_
  refine r_dup C rfl (dk_at dk_M_termOf_0 31 rfl) ?_
  refine r_getI C fl_M_246 0 (hL 0 _ rfl) rfl (dk_at dk_M_termOf_0 32 rfl) ?_
  refine r_iconst C 1 (dk_at dk_M_termOf_0 33 rfl) ?_
  refine r_iadd C (dk_at dk_M_termOf_0 34 rfl) ?_
  refine r_putI C fl_M_246 0 (hL 0 _ rfl) rfl (dk_at dk_M_termOf_0 35 rfl) (r_sg (fun σ16 e17 => ?_))
  replace h := h σ16 e17
  refine r_aload_n C 1 rfl (dk_at dk_M_termOf_0 36 rfl) ?_
  refine r_iload_n C 2 rfl (dk_at dk_M_termOf_0 37 rfl) ?_
  refine r_cvL C cl_M_267 0 (hL 0 _ rfl) [.int a1] (ho_partOf _ _ _ h) (rmK_ok2 hr_partOf.1 hr_partOf.2) rfl rfl (Nat.le_of_ble_eq_true rfl) (dk_at dk_M_termOf_0 38 rfl) (fun r18 σ19 h => ?_)
  refine r_lstore C [(5, .long r18), (4, .int r14), (0, .ref (wAd w 0)), (1, .int a1), (2, .long a2)] rfl rfl (dk_at dk_M_termOf_0 39 rfl) ?_
  refine r_iload C 1 rfl (dk_at dk_M_termOf_1 0 rfl) ?_
  refine r_bipush C 42 (dk_at dk_M_termOf_1 1 rfl) ?_
  refine r_csI C cs_M_208 [.int 42] (m_M_sign hL h) (rmK_ok2 (f := f0) (q := q0) (f' := 0) (q' := 0) (by omega) (by omega)) rfl rfl (Nat.le_of_ble_eq_true rfl) (dk_at dk_M_termOf_1 2 rfl) (fun r20 σ21 h => ?_)
  refine r_icmp_eq C 121 rfl (dk_at dk_M_termOf_1 3 rfl) (fun c22 => ?_) (fun c22 => ?_)
  · replace h := h.1 c22
    refine r_lv [2, 3, 4, 1, 0] rfl ?_
    exact t_M_termOf_j121 C hL hr0 hr_partOf ho_partOf k6 h
  · replace h := h.2 c22
    refine r_lload C 0 rfl (dk_at dk_M_termOf_1 4 rfl) ?_
    refine r_lconst C 0 (dk_at dk_M_termOf_1 5 rfl) ?_
    refine r_lcmp C (dk_at dk_M_termOf_1 6 rfl) ?_
    refine r_if_ne C 121 rfl (dk_at dk_M_termOf_1 7 rfl) (fun c23 => ?_) (fun c23 => ?_)
    · replace h := h.1 c23
      refine r_lv [2, 3, 4, 1, 0] rfl ?_
      exact t_M_termOf_j121 C hL hr0 hr_partOf ho_partOf k6 h
    · replace h := h.2 c23
      refine r_aload_n C 2 rfl (dk_at dk_M_termOf_1 8 rfl) ?_
      refine r_aload_n C 2 rfl (dk_at dk_M_termOf_1 9 rfl) ?_
      refine r_getI C fl_M_256 0 (hL 0 _ rfl) rfl (dk_at dk_M_termOf_1 10 rfl) ?_
      refine r_if_ne C 110 rfl (dk_at dk_M_termOf_1 11 rfl) (fun c24 => ?_) (fun c24 => ?_)
      · replace h := h.1 c24
        refine r_lv [2, 3, 4, 1] rfl ?_
        exact t_M_termOf_j110 C hL hr0 hr_partOf ho_partOf k6 h
      · replace h := h.2 c24
        refine r_iload_n C 3 rfl (dk_at dk_M_termOf_1 12 rfl) ?_
        refine r_if_eq C 114 rfl (dk_at dk_M_termOf_1 13 rfl) (fun c25 => ?_) (fun c25 => ?_)
        · replace h := h.1 c25
          refine r_iconst C 0 (dk_at dk_M_termOf_1 16 rfl) ?_
          refine r_lv [2, 3, 4, 1] rfl ?_
          exact t_M_termOf_j115 C hL hr0 hr_partOf ho_partOf k6 h
        · replace h := h.2 c25
          refine r_lv [2, 3, 4, 1] rfl ?_
          exact t_M_termOf_j110 C hL hr0 hr_partOf ho_partOf k6 h
set_option maxRecDepth 20000 in
theorem t_M_termOf_b6 {o_partOf : DD → Int32 → (Int64 → DD → Prop) → Prop} {f0 q0 f_partOf q_partOf : Nat} {X : CT} {w : WO} (C : CF X w (lim0 w) 7 cX11_termOf RX11 (some .long) (.code yX11_termOf cX11_termOf 7 (some .long)) (rmK f0 q0)) (hL : LyM w) (hr0 : 1 ≤ f0 ∧ 23 ≤ q0) (hr_partOf : f_partOf + 1 ≤ f0 ∧ 8 + (4 + 11) + q_partOf ≤ q0) (ho_partOf : ∀ (σ : DD) (a1 : Int32) (post : Int64 → DD → Prop), o_partOf σ a1 post → ML X.l w yX11_partOf cX11_partOf 4 (rmK f_partOf q_partOf) σ [.ref (wAd w 0), .int a1] post) {a1 : Int32} {K6 : DD → Int64 → Prop} {post : Int64 → DD → Prop} (k6 : ∀ (σ : DD) (a2 : Int64), K6 σ a2 → gW X w (lim0 w) 7 (QL X w post) σ 6 [(0, .ref (wAd w 0)), (1, .int a1), (2, .long a2)] []) {σ : DD} {a2 : Int64} (h : w_M_termOf_b6 o_partOf a1 K6 post σ a2) : gW X w (lim0 w) 7 (QL X w post) σ 6 [(0, .ref (wAd w 0)), (1, .int a1), (2, .long a2)] [] := by
  unfold w_M_termOf_b6 at h
  refine r_aload_n C 0 rfl (dk_at dk_M_termOf_0 4 rfl) ?_
  refine r_aload_n C 0 rfl (dk_at dk_M_termOf_0 5 rfl) ?_
  refine r_getI C fl_M_246 0 (hL 0 _ rfl) rfl (dk_at dk_M_termOf_0 6 rfl) ?_
  refine r_cvI C cl_M_249 0 (hL 0 _ rfl) [.int (gI σ 0 22)] (m_M_codeAt hL h) (rmK_ok2 (f := f0) (q := q0) (f' := 0) (q' := 0) (by omega) (by omega)) rfl rfl (Nat.le_of_ble_eq_true rfl) (dk_at dk_M_termOf_0 7 rfl) (fun r26 σ27 h => ?_)
  refine r_bipush C 42 (dk_at dk_M_termOf_0 8 rfl) ?_
  refine r_csI C cs_M_208 [.int 42] (m_M_sign hL h) (rmK_ok2 (f := f0) (q := q0) (f' := 0) (q' := 0) (by omega) (by omega)) rfl rfl (Nat.le_of_ble_eq_true rfl) (dk_at dk_M_termOf_0 9 rfl) (fun r28 σ29 h => ?_)
  refine r_icmp_eq C 54 rfl (dk_at dk_M_termOf_0 10 rfl) (fun c30 => ?_) (fun c30 => ?_)
  · replace h := h.1 c30
    refine r_lv [0, 1, 2] rfl ?_
    exact t_M_termOf_j54 C hL hr0 hr_partOf ho_partOf k6 h
  · replace h := h.2 c30
    refine r_aload_n C 0 rfl (dk_at dk_M_termOf_0 11 rfl) ?_
    refine r_aload_n C 0 rfl (dk_at dk_M_termOf_0 12 rfl) ?_
    refine r_getI C fl_M_246 0 (hL 0 _ rfl) rfl (dk_at dk_M_termOf_0 13 rfl) ?_
    refine r_cvI C cl_M_249 0 (hL 0 _ rfl) [.int (gI σ29 0 22)] (m_M_codeAt hL h) (rmK_ok2 (f := f0) (q := q0) (f' := 0) (q' := 0) (by omega) (by omega)) rfl rfl (Nat.le_of_ble_eq_true rfl) (dk_at dk_M_termOf_0 14 rfl) (fun r31 σ32 h => ?_)
    refine r_bipush C 47 (dk_at dk_M_termOf_0 15 rfl) ?_
    refine r_csI C cs_M_208 [.int 47] (m_M_sign hL h) (rmK_ok2 (f := f0) (q := q0) (f' := 0) (q' := 0) (by omega) (by omega)) rfl rfl (Nat.le_of_ble_eq_true rfl) (dk_at dk_M_termOf_0 16 rfl) (fun r33 σ34 h => ?_)
    refine r_icmp_eq C 54 rfl (dk_at dk_M_termOf_0 17 rfl) (fun c35 => ?_) (fun c35 => ?_)
    · replace h := h.1 c35
      refine r_lv [0, 1, 2] rfl ?_
      exact t_M_termOf_j54 C hL hr0 hr_partOf ho_partOf k6 h
    · replace h := h.2 c35
      refine r_aload_n C 0 rfl (dk_at dk_M_termOf_0 18 rfl) ?_
      refine r_aload_n C 0 rfl (dk_at dk_M_termOf_0 19 rfl) ?_
      refine r_getI C fl_M_246 0 (hL 0 _ rfl) rfl (dk_at dk_M_termOf_0 20 rfl) ?_
      refine r_cvI C cl_M_249 0 (hL 0 _ rfl) [.int (gI σ34 0 22)] (m_M_codeAt hL h) (rmK_ok2 (f := f0) (q := q0) (f' := 0) (q' := 0) (by omega) (by omega)) rfl rfl (Nat.le_of_ble_eq_true rfl) (dk_at dk_M_termOf_0 21 rfl) (fun r36 σ37 h => ?_)
      refine r_bipush C 37 (dk_at dk_M_termOf_0 22 rfl) ?_
      refine r_csI C cs_M_208 [.int 37] (m_M_sign hL h) (rmK_ok2 (f := f0) (q := q0) (f' := 0) (q' := 0) (by omega) (by omega)) rfl rfl (Nat.le_of_ble_eq_true rfl) (dk_at dk_M_termOf_0 23 rfl) (fun r38 σ39 h => ?_)
      refine r_icmp_ne C 168 rfl (dk_at dk_M_termOf_0 24 rfl) (fun c40 => ?_) (fun c40 => ?_)
      · replace h := h.1 c40
        refine r_lload_n C 2 rfl (dk_at dk_M_termOf_2 4 rfl) ?_
        exact r_lret C h (dk_at dk_M_termOf_2 5 rfl)
      · replace h := h.2 c40
        refine r_lv [0, 1, 2] rfl ?_
        exact t_M_termOf_j54 C hL hr0 hr_partOf ho_partOf k6 h
set_option maxRecDepth 20000 in
theorem t_M_termOf_l6 {o_partOf : DD → Int32 → (Int64 → DD → Prop) → Prop} {f0 q0 f_partOf q_partOf : Nat} {X : CT} {w : WO} (C : CF X w (lim0 w) 7 cX11_termOf RX11 (some .long) (.code yX11_termOf cX11_termOf 7 (some .long)) (rmK f0 q0)) (hL : LyM w) (hr0 : 1 ≤ f0 ∧ 23 ≤ q0) (hr_partOf : f_partOf + 1 ≤ f0 ∧ 8 + (4 + 11) + q_partOf ≤ q0) (ho_partOf : ∀ (σ : DD) (a1 : Int32) (post : Int64 → DD → Prop), o_partOf σ a1 post → ML X.l w yX11_partOf cX11_partOf 4 (rmK f_partOf q_partOf) σ [.ref (wAd w 0), .int a1] post) {a1 : Int32} {post : Int64 → DD → Prop} {σ : DD} {a2 : Int64} (h : w_M_termOf_l6 o_partOf post σ a1 a2) : gW X w (lim0 w) 7 (QL X w post) σ 6 [(0, .ref (wAd w 0)), (1, .int a1), (2, .long a2)] [] :=
  LoopW (G := fun x : DD × Int64 => gW X w (lim0 w) 7 (QL X w post) x.1 6 [(0, .ref (wAd w 0)), (1, .int a1), (2, .long x.2)] []) (fun K x hK hF => t_M_termOf_b6 C hL hr0 hr_partOf ho_partOf (fun σ a2 q => hK (σ, a2) q) hF) h
set_option maxRecDepth 20000 in
theorem m_M_termOf_o {l : Launch} {w : WO} (hL : LyM w) {o_partOf : DD → Int32 → (Int64 → DD → Prop) → Prop} {f0 q0 f_partOf q_partOf : Nat} (hr0 : 1 ≤ f0 ∧ 23 ≤ q0) (hr_partOf : f_partOf + 1 ≤ f0 ∧ 8 + (4 + 11) + q_partOf ≤ q0) (ho_partOf : ∀ (σ : DD) (a1 : Int32) (post : Int64 → DD → Prop), o_partOf σ a1 post → ML l w yX11_partOf cX11_partOf 4 (rmK f_partOf q_partOf) σ [.ref (wAd w 0), .int a1] post) {σ : DD} {a1 : Int32} {post : Int64 → DD → Prop} (h : w_M_termOf_o o_partOf σ a1 post) : ML l w yX11_termOf cX11_termOf 7 (rmK f0 q0) σ [.ref (wAd w 0), .int a1] post :=
  met_head (rt := (some .long)) (by decide) rfl (fun X hX C => by
  subst hX
  unfold w_M_termOf_o at h
  show gW X w (lim0 w) 7 (QL X w post) σ 0 [(0, .ref (wAd w 0)), (1, .int a1)] []
  refine r_aload_n C 0 rfl (dk_at dk_M_termOf_0 0 rfl) ?_
  refine r_iload_n C 1 rfl (dk_at dk_M_termOf_0 1 rfl) ?_
  refine r_cvL C cl_M_267 0 (hL 0 _ rfl) [.int a1] (ho_partOf _ _ _ h) (rmK_ok2 hr_partOf.1 hr_partOf.2) rfl rfl (Nat.le_of_ble_eq_true rfl) (dk_at dk_M_termOf_0 2 rfl) (fun r41 σ42 h => ?_)
  refine r_lstore_n C [(2, .long r41), (0, .ref (wAd w 0)), (1, .int a1)] rfl rfl (dk_at dk_M_termOf_0 3 rfl) ?_
  refine r_lv [1, 2, 0] rfl ?_
  exact t_M_termOf_l6 C hL hr0 hr_partOf ho_partOf h
  )
set_option maxRecDepth 20000 in
theorem m_M_sumOf_d {l : Launch} {w : WO} (hL : LyM w) : ∀ d : Nat, ∀ (σ : DD) (a1 : Int32) (post : Int64 → DD → Prop), w_M_sumOf_d d σ a1 post → ML l w yX11_sumOf cX11_sumOf 7 (rmK (2 + 3 * d) (43 + 75 * d)) σ [.ref (wAd w 0), .int a1] post := by
  intro d
  induction d with
  | zero => exact fun _ _ _ h => h.elim
  | succ n ih =>
    rw [show 2 + 3 * (n + 1) = 2 + 3 * n + 3 by omega, show 43 + 75 * (n + 1) = 43 + 75 * n + 75 by omega]
    exact (fun _ _ _ h => m_M_sumOf_o hL (f0 := 2 + 3 * n + 3) (q0 := 43 + 75 * n + 75) (f_termOf := 2 + 3 * n + 2) (q_termOf := 43 + 75 * n + 49) (by omega) (by omega) (fun _ _ _ h => m_M_termOf_o hL (f0 := 2 + 3 * n + 2) (q0 := 43 + 75 * n + 49) (f_partOf := 2 + 3 * n + 1) (q_partOf := 43 + 75 * n + 26) (by omega) (by omega) (fun _ _ _ h => m_M_partOf_o hL (f0 := 2 + 3 * n + 1) (q0 := 43 + 75 * n + 26) (f_sumOf := 2 + 3 * n + 0) (q_sumOf := 43 + 75 * n + 0) (by omega) (by omega) ih h) h) h)
set_option maxRecDepth 20000 in
theorem m_M_sumOf {l : Launch} {w : WO} (hL : LyM w) {σ : DD} {a1 : Int32} {post : Int64 → DD → Prop} (h : w_M_sumOf σ a1 post) : ML l w yX11_sumOf cX11_sumOf 7 (rmK 38 943) σ [.ref (wAd w 0), .int a1] post :=
  m_M_sumOf_d hL 12 _ _ _ h
set_option maxRecDepth 20000 in
theorem t_M_bothOf_j45 {o_plainOf : DD → Int32 → (Int32 → DD → Prop) → Prop} {f0 q0 f_plainOf q_plainOf : Nat} {X : CT} {w : WO} (C : CF X w (lim0 w) 4 cX11_bothOf RX11 (some .boolean) (.code yX11_bothOf cX11_bothOf 4 (some .boolean)) (rmK f0 q0)) (hL : LyM w) (hr0 : 2 ≤ f0 ∧ 43 ≤ q0) (hr_plainOf : f_plainOf + 1 ≤ f0 ∧ 8 + (3 + 11) + q_plainOf ≤ q0) (ho_plainOf : ∀ (σ : DD) (a1 : Int32) (post : Int32 → DD → Prop), o_plainOf σ a1 post → MI X.l w yX11_plainOf cX11_plainOf 3 .boolean (rmK f_plainOf q_plainOf) σ [.ref (wAd w 0), .int a1] post) {K6 : DD → Int32 → Prop} {post : Int32 → DD → Prop} {a1 : Int32} (k6 : ∀ (σ : DD) (a2 : Int32), K6 σ a2 → gW X w (lim0 w) 4 (QI X w post) σ 6 [(0, .ref (wAd w 0)), (1, .int a1), (2, .int a2)] []) {σ : DD} (h : w_M_bothOf_j45 o_plainOf K6 post σ a1) : gW X w (lim0 w) 4 (QI X w post) σ 45 [(0, .ref (wAd w 0)), (1, .int a1)] [] := by
  unfold w_M_bothOf_j45 at h
  refine r_iconst C 0 (dk_at dk_M_bothOf_0 24 rfl) ?_
  refine r_istore_n C [(2, .int 0), (0, .ref (wAd w 0)), (1, .int a1)] rfl rfl (dk_at dk_M_bothOf_0 25 rfl) ?_
  refine r_goto C 6 rfl (dk_at dk_M_bothOf_0 26 rfl) ?_
  refine r_lv [1, 2, 0] rfl ?_
  exact k6 _ _ h
set_option maxRecDepth 20000 in
theorem t_M_bothOf_j29 {o_plainOf : DD → Int32 → (Int32 → DD → Prop) → Prop} {f0 q0 f_plainOf q_plainOf : Nat} {X : CT} {w : WO} (C : CF X w (lim0 w) 4 cX11_bothOf RX11 (some .boolean) (.code yX11_bothOf cX11_bothOf 4 (some .boolean)) (rmK f0 q0)) (hL : LyM w) (hr0 : 2 ≤ f0 ∧ 43 ≤ q0) (hr_plainOf : f_plainOf + 1 ≤ f0 ∧ 8 + (3 + 11) + q_plainOf ≤ q0) (ho_plainOf : ∀ (σ : DD) (a1 : Int32) (post : Int32 → DD → Prop), o_plainOf σ a1 post → MI X.l w yX11_plainOf cX11_plainOf 3 .boolean (rmK f_plainOf q_plainOf) σ [.ref (wAd w 0), .int a1] post) {K6 : DD → Int32 → Prop} {post : Int32 → DD → Prop} {a1 : Int32} {a2 : Int32} {t1 : Int32} (k6 : ∀ (σ : DD) (a2 : Int32), K6 σ a2 → gW X w (lim0 w) 4 (QI X w post) σ 6 [(0, .ref (wAd w 0)), (1, .int a1), (2, .int a2)] []) {σ : DD} (h : w_M_bothOf_j29 o_plainOf K6 post σ a1 a2 t1) : gW X w (lim0 w) 4 (QI X w post) σ 29 [(0, .ref (wAd w 0)), (1, .int a1), (2, .int a2)] [.int t1, .ref (wAd w 0)] := by
  unfold w_M_bothOf_j29 at h
  refine r_cvI C cl_M_279 0 (hL 0 _ rfl) [.int t1] (ho_plainOf _ _ _ h) (rmK_ok2 hr_plainOf.1 hr_plainOf.2) rfl rfl (Nat.le_of_ble_eq_true rfl) (dk_at dk_M_bothOf_0 16 rfl) (fun r1 σ2 h => ?_)
  refine r_istore_n C [(3, .int r1), (0, .ref (wAd w 0)), (1, .int a1), (2, .int a2)] rfl rfl (dk_at dk_M_bothOf_0 17 rfl) ?_
  refine r_iload_n C 3 rfl (dk_at dk_M_bothOf_0 18 rfl) ?_
  refine r_if_eq C 45 rfl (dk_at dk_M_bothOf_0 19 rfl) (fun c3 => ?_) (fun c3 => ?_)
  · replace h := h.1 c3
    refine r_lv [1, 2] rfl ?_
    exact t_M_bothOf_j45 C hL hr0 hr_plainOf ho_plainOf k6 h
  · replace h := h.2 c3
    refine r_iload_n C 0 rfl (dk_at dk_M_bothOf_0 20 rfl) ?_
    refine r_if_eq C 45 rfl (dk_at dk_M_bothOf_0 21 rfl) (fun c4 => ?_) (fun c4 => ?_)
    · replace h := h.1 c4
      refine r_lv [1, 2] rfl ?_
      exact t_M_bothOf_j45 C hL hr0 hr_plainOf ho_plainOf k6 h
    · replace h := h.2 c4
      refine r_iconst C 1 (dk_at dk_M_bothOf_0 22 rfl) ?_
      refine r_goto C 46 rfl (dk_at dk_M_bothOf_0 23 rfl) ?_
      refine r_istore_n C [(2, .int 1), (3, .int r1), (0, .ref (wAd w 0)), (1, .int a1)] rfl rfl (dk_at dk_M_bothOf_0 25 rfl) ?_
      refine r_goto C 6 rfl (dk_at dk_M_bothOf_0 26 rfl) ?_
      refine r_lv [2, 3, 0] rfl ?_
      exact k6 _ _ h
set_option maxRecDepth 20000 in
theorem t_M_bothOf_j28 {o_plainOf : DD → Int32 → (Int32 → DD → Prop) → Prop} {f0 q0 f_plainOf q_plainOf : Nat} {X : CT} {w : WO} (C : CF X w (lim0 w) 4 cX11_bothOf RX11 (some .boolean) (.code yX11_bothOf cX11_bothOf 4 (some .boolean)) (rmK f0 q0)) (hL : LyM w) (hr0 : 2 ≤ f0 ∧ 43 ≤ q0) (hr_plainOf : f_plainOf + 1 ≤ f0 ∧ 8 + (3 + 11) + q_plainOf ≤ q0) (ho_plainOf : ∀ (σ : DD) (a1 : Int32) (post : Int32 → DD → Prop), o_plainOf σ a1 post → MI X.l w yX11_plainOf cX11_plainOf 3 .boolean (rmK f_plainOf q_plainOf) σ [.ref (wAd w 0), .int a1] post) {K6 : DD → Int32 → Prop} {post : Int32 → DD → Prop} {a1 : Int32} {a2 : Int32} (k6 : ∀ (σ : DD) (a2 : Int32), K6 σ a2 → gW X w (lim0 w) 4 (QI X w post) σ 6 [(0, .ref (wAd w 0)), (1, .int a1), (2, .int a2)] []) {σ : DD} (h : w_M_bothOf_j28 o_plainOf K6 post σ a1 a2) : gW X w (lim0 w) 4 (QI X w post) σ 28 [(0, .ref (wAd w 0)), (1, .int a1), (2, .int a2)] [.ref (wAd w 0)] := by
  unfold w_M_bothOf_j28 at h
  refine r_iconst C 0 (dk_at dk_M_bothOf_0 15 rfl) ?_
  refine r_lv [0, 1, 2] rfl ?_
  exact t_M_bothOf_j29 C hL hr0 hr_plainOf ho_plainOf k6 h
set_option maxRecDepth 20000 in
theorem t_M_bothOf_b6 {o_plainOf : DD → Int32 → (Int32 → DD → Prop) → Prop} {f0 q0 f_plainOf q_plainOf : Nat} {X : CT} {w : WO} (C : CF X w (lim0 w) 4 cX11_bothOf RX11 (some .boolean) (.code yX11_bothOf cX11_bothOf 4 (some .boolean)) (rmK f0 q0)) (hL : LyM w) (hr0 : 2 ≤ f0 ∧ 43 ≤ q0) (hr_plainOf : f_plainOf + 1 ≤ f0 ∧ 8 + (3 + 11) + q_plainOf ≤ q0) (ho_plainOf : ∀ (σ : DD) (a1 : Int32) (post : Int32 → DD → Prop), o_plainOf σ a1 post → MI X.l w yX11_plainOf cX11_plainOf 3 .boolean (rmK f_plainOf q_plainOf) σ [.ref (wAd w 0), .int a1] post) {a1 : Int32} {K6 : DD → Int32 → Prop} {post : Int32 → DD → Prop} (k6 : ∀ (σ : DD) (a2 : Int32), K6 σ a2 → gW X w (lim0 w) 4 (QI X w post) σ 6 [(0, .ref (wAd w 0)), (1, .int a1), (2, .int a2)] []) {σ : DD} {a2 : Int32} (h : w_M_bothOf_b6 o_plainOf a1 K6 post σ a2) : gW X w (lim0 w) 4 (QI X w post) σ 6 [(0, .ref (wAd w 0)), (1, .int a1), (2, .int a2)] [] := by
  unfold w_M_bothOf_b6 at h
  refine r_aload_n C 0 rfl (dk_at dk_M_bothOf_0 4 rfl) ?_
  refine r_bipush C 6 (dk_at dk_M_bothOf_0 5 rfl) ?_
  refine r_cvI C cl_M_270 0 (hL 0 _ rfl) [.int 6] (m_M_passes0 hL h) (rmK_ok2 (f := f0) (q := q0) (f' := 1) (q' := 21) (by omega) (by omega)) rfl rfl (Nat.le_of_ble_eq_true rfl) (dk_at dk_M_bothOf_0 6 rfl) (fun r5 σ6 h => ?_)
  refine r_if_eq C 50 rfl (dk_at dk_M_bothOf_0 7 rfl) (fun c7 => ?_) (fun c7 => ?_)
  · replace h := h.1 c7
    refine r_iload_n C 2 rfl (dk_at dk_M_bothOf_0 27 rfl) ?_
    exact r_zret C h.1 h.2 (dk_at dk_M_bothOf_0 28 rfl)
  · replace h := h.2 c7
    refine r_aload_n C 0 rfl (dk_at dk_M_bothOf_0 8 rfl) ?_
    refine r_iload_n C 1 rfl (dk_at dk_M_bothOf_0 9 rfl) ?_
    refine r_if_eq C 28 rfl (dk_at dk_M_bothOf_0 10 rfl) (fun c8 => ?_) (fun c8 => ?_)
    · replace h := h.1 c8
      refine r_lv [0, 1, 2] rfl ?_
      exact t_M_bothOf_j28 C hL hr0 hr_plainOf ho_plainOf k6 h
    · replace h := h.2 c8
      refine r_iload_n C 2 rfl (dk_at dk_M_bothOf_0 11 rfl) ?_
      refine r_if_eq C 28 rfl (dk_at dk_M_bothOf_0 12 rfl) (fun c9 => ?_) (fun c9 => ?_)
      · replace h := h.1 c9
        refine r_lv [0, 1, 2] rfl ?_
        exact t_M_bothOf_j28 C hL hr0 hr_plainOf ho_plainOf k6 h
      · replace h := h.2 c9
        refine r_iconst C 1 (dk_at dk_M_bothOf_0 13 rfl) ?_
        refine r_goto C 29 rfl (dk_at dk_M_bothOf_0 14 rfl) ?_
        refine r_lv [0, 1, 2] rfl ?_
        exact t_M_bothOf_j29 C hL hr0 hr_plainOf ho_plainOf k6 h
set_option maxRecDepth 20000 in
theorem t_M_bothOf_l6 {o_plainOf : DD → Int32 → (Int32 → DD → Prop) → Prop} {f0 q0 f_plainOf q_plainOf : Nat} {X : CT} {w : WO} (C : CF X w (lim0 w) 4 cX11_bothOf RX11 (some .boolean) (.code yX11_bothOf cX11_bothOf 4 (some .boolean)) (rmK f0 q0)) (hL : LyM w) (hr0 : 2 ≤ f0 ∧ 43 ≤ q0) (hr_plainOf : f_plainOf + 1 ≤ f0 ∧ 8 + (3 + 11) + q_plainOf ≤ q0) (ho_plainOf : ∀ (σ : DD) (a1 : Int32) (post : Int32 → DD → Prop), o_plainOf σ a1 post → MI X.l w yX11_plainOf cX11_plainOf 3 .boolean (rmK f_plainOf q_plainOf) σ [.ref (wAd w 0), .int a1] post) {a1 : Int32} {post : Int32 → DD → Prop} {σ : DD} {a2 : Int32} (h : w_M_bothOf_l6 o_plainOf post σ a1 a2) : gW X w (lim0 w) 4 (QI X w post) σ 6 [(0, .ref (wAd w 0)), (1, .int a1), (2, .int a2)] [] :=
  LoopW (G := fun x : DD × Int32 => gW X w (lim0 w) 4 (QI X w post) x.1 6 [(0, .ref (wAd w 0)), (1, .int a1), (2, .int x.2)] []) (fun K x hK hF => t_M_bothOf_b6 C hL hr0 hr_plainOf ho_plainOf (fun σ a2 q => hK (σ, a2) q) hF) h
set_option maxRecDepth 20000 in
theorem m_M_bothOf_o {l : Launch} {w : WO} (hL : LyM w) {o_plainOf : DD → Int32 → (Int32 → DD → Prop) → Prop} {f0 q0 f_plainOf q_plainOf : Nat} (hr0 : 2 ≤ f0 ∧ 43 ≤ q0) (hr_plainOf : f_plainOf + 1 ≤ f0 ∧ 8 + (3 + 11) + q_plainOf ≤ q0) (ho_plainOf : ∀ (σ : DD) (a1 : Int32) (post : Int32 → DD → Prop), o_plainOf σ a1 post → MI l w yX11_plainOf cX11_plainOf 3 .boolean (rmK f_plainOf q_plainOf) σ [.ref (wAd w 0), .int a1] post) {σ : DD} {a1 : Int32} {post : Int32 → DD → Prop} (h : w_M_bothOf_o o_plainOf σ a1 post) : MI l w yX11_bothOf cX11_bothOf 4 .boolean (rmK f0 q0) σ [.ref (wAd w 0), .int a1] post :=
  met_head (rt := (some .boolean)) (by decide) rfl (fun X hX C => by
  subst hX
  unfold w_M_bothOf_o at h
  show gW X w (lim0 w) 4 (QI X w post) σ 0 [(0, .ref (wAd w 0)), (1, .int a1)] []
  refine r_aload_n C 0 rfl (dk_at dk_M_bothOf_0 0 rfl) ?_
  refine r_iload_n C 1 rfl (dk_at dk_M_bothOf_0 1 rfl) ?_
  refine r_cvI C cl_M_279 0 (hL 0 _ rfl) [.int a1] (ho_plainOf _ _ _ h) (rmK_ok2 hr_plainOf.1 hr_plainOf.2) rfl rfl (Nat.le_of_ble_eq_true rfl) (dk_at dk_M_bothOf_0 2 rfl) (fun r10 σ11 h => ?_)
  refine r_istore_n C [(2, .int r10), (0, .ref (wAd w 0)), (1, .int a1)] rfl rfl (dk_at dk_M_bothOf_0 3 rfl) ?_
  refine r_lv [1, 2, 0] rfl ?_
  exact t_M_bothOf_l6 C hL hr0 hr_plainOf ho_plainOf h
  )
