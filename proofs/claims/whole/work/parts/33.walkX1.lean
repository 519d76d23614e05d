set_option maxRecDepth 20000 in
theorem t_Morn_heldInTheEnd_l4 {X : CT} {w : WO} (C : CF X w (lim0 w) 3 cX1_heldInTheEnd RX1 (some .int) (.code yX1_heldInTheEnd cX1_heldInTheEnd 3 (some .int)) (rmK 0 0)) {T : TXT} {z : EXa} (hL : LyX w T z) {post : Int32 → DD → Prop} {σ : DD} {a1 : Int32} {a2 : Int32} (h : w_Morn_heldInTheEnd_l4 T post σ a1 a2) : gW X w (lim0 w) 3 (QI X w post) σ 4 [(0, .ref (wAd w 70)), (1, .int a1), (2, .int a2)] [] :=
  LoopW (G := fun x : DD × Int32 × Int32 => gW X w (lim0 w) 3 (QI X w post) x.1 4 [(0, .ref (wAd w 70)), (1, .int x.2.1), (2, .int x.2.2)] []) (fun K x hK hF => t_Morn_heldInTheEnd_b4 C hL (fun σ a1 a2 q => hK (σ, a1, a2) q) hF) h
set_option maxRecDepth 20000 in
theorem m_Morn_heldInTheEnd {l : Launch} {w : WO} {T : TXT} {z : EXa} (hL : LyX w T z) {σ : DD} {post : Int32 → DD → Prop} (h : w_Morn_heldInTheEnd T σ post) : MI l w yX1_heldInTheEnd cX1_heldInTheEnd 3 .int (rmK 0 0) σ [.ref (wAd w 70)] post :=
  met_head (rt := (some .int)) (by decide) rfl (fun X hX C => by
  subst hX
  unfold w_Morn_heldInTheEnd at h
  show gW X w (lim0 w) 3 (QI X w post) σ 0 [(0, .ref (wAd w 70))] []
  refine r_iconst C 0 (dk_at dk_Morn_heldInTheEnd_0 0 rfl) ?_
  refine r_istore_n C [(1, .int 0), (0, .ref (wAd w 70))] rfl rfl (dk_at dk_Morn_heldInTheEnd_0 1 rfl) ?_
  refine r_iconst C 0 (dk_at dk_Morn_heldInTheEnd_0 2 rfl) ?_
  refine r_istore_n C [(2, .int 0), (1, .int 0), (0, .ref (wAd w 70))] rfl rfl (dk_at dk_Morn_heldInTheEnd_0 3 rfl) ?_
  refine r_lv [2, 1, 0] rfl ?_
  exact t_Morn_heldInTheEnd_l4 C hL h
  )
set_option maxRecDepth 20000 in
theorem m_Morn_canRead {l : Launch} {w : WO} {T : TXT} {z : EXa} (hL : LyX w T z) {σ : DD} {a1 : Int32} {a2 : Int32} {post : Int32 → DD → Prop} (h : w_Morn_canRead T σ a1 a2 post) : MI l w yX1_canRead cX1_canRead 4 .boolean (rmK 1 22) σ [.ref (wAd w 70), .int a1, .int a2] post :=
  met_head (rt := (some .boolean)) (by decide) rfl (fun X hX C => by
  subst hX
  unfold w_Morn_canRead at h
  show gW X w (lim0 w) 4 (QI X w post) σ 0 [(0, .ref (wAd w 70)), (1, .int a1), (2, .int a2)] []
  refine r_aload_n C 0 rfl (dk_at dk_Morn_canRead_0 0 rfl) ?_
  refine r_getR C fl_Morn_15 70 (hL.1 70 _ rfl) rfl (dk_at dk_Morn_canRead_0 1 rfl) ?_
  refine r_iload_n C 1 rfl (dk_at dk_Morn_canRead_0 2 rfl) ?_
  obtain ⟨q1, h⟩ := h
  refine r_iald C 74 (hL.1 74 _ rfl) q1 (dk_at dk_Morn_canRead_0 3 rfl) ?_
  refine r_iload_n C 2 rfl (dk_at dk_Morn_canRead_0 4 rfl) ?_
  refine r_ishr C (dk_at dk_Morn_canRead_0 5 rfl) ?_
  refine r_iconst C 1 (dk_at dk_Morn_canRead_0 6 rfl) ?_
  refine r_iand C (dk_at dk_Morn_canRead_0 7 rfl) ?_
  refine r_if_ne C 15 rfl (dk_at dk_Morn_canRead_0 8 rfl) (fun c2 => ?_) (fun c2 => ?_)
  · replace h := h.1 c2
    refine r_aload_n C 0 rfl (dk_at dk_Morn_canRead_0 11 rfl) ?_
    refine r_getR C fl_Morn_27 70 (hL.1 70 _ rfl) rfl (dk_at dk_Morn_canRead_0 12 rfl) ?_
    refine r_iload_n C 2 rfl (dk_at dk_Morn_canRead_0 13 rfl) ?_
    refine r_iconst C 3 (dk_at dk_Morn_canRead_0 14 rfl) ?_
    refine r_cvI C cl_Morn_92 200 (hL.1 200 _ rfl) [.int a2, .int 3] (m_Real_trait hL h) (rmK_ok rfl rfl) rfl rfl (Nat.le_of_ble_eq_true rfl) (dk_at dk_Morn_canRead_0 15 rfl) (fun r3 σ4 h => ?_)
    refine r_istore_n C [(3, .int r3), (0, .ref (wAd w 70)), (1, .int a1), (2, .int a2)] rfl rfl (dk_at dk_Morn_canRead_0 16 rfl) ?_
    refine r_iload_n C 0 rfl (dk_at dk_Morn_canRead_0 17 rfl) ?_
    refine r_iconst C (-1) (dk_at dk_Morn_canRead_0 18 rfl) ?_
    refine r_icmp_eq C 45 rfl (dk_at dk_Morn_canRead_0 19 rfl) (fun c5 => ?_) (fun c5 => ?_)
    · replace h := h.1 c5
      refine r_iconst C 1 (dk_at dk_Morn_canRead_0 29 rfl) ?_
      refine r_goto C 50 rfl (dk_at dk_Morn_canRead_0 30 rfl) ?_
      exact r_zret C (Or.inr rfl) h (dk_at dk_Morn_canRead_0 32 rfl)
    · replace h := h.2 c5
      refine r_aload_n C 1 rfl (dk_at dk_Morn_canRead_0 20 rfl) ?_
      refine r_getI C fl_Morn_71 70 (hL.1 70 _ rfl) rfl (dk_at dk_Morn_canRead_0 21 rfl) ?_
      refine r_iload_n C 2 rfl (dk_at dk_Morn_canRead_0 22 rfl) ?_
      refine r_iadd C (dk_at dk_Morn_canRead_0 23 rfl) ?_
      refine r_aload_n C 1 rfl (dk_at dk_Morn_canRead_0 24 rfl) ?_
      refine r_getR C fl_Morn_9 70 (hL.1 70 _ rfl) rfl (dk_at dk_Morn_canRead_0 25 rfl) ?_
      refine r_iload_n C 0 rfl (dk_at dk_Morn_canRead_0 26 rfl) ?_
      obtain ⟨q6, h⟩ := h
      refine r_iald C 73 (hL.1 73 _ rfl) q6 (dk_at dk_Morn_canRead_0 27 rfl) ?_
      refine r_icmp_ge C 49 rfl (dk_at dk_Morn_canRead_0 28 rfl) (fun c7 => ?_) (fun c7 => ?_)
      · replace h := h.1 c7
        refine r_iconst C 0 (dk_at dk_Morn_canRead_0 31 rfl) ?_
        exact r_zret C (Or.inl rfl) h (dk_at dk_Morn_canRead_0 32 rfl)
      · replace h := h.2 c7
        refine r_iconst C 1 (dk_at dk_Morn_canRead_0 29 rfl) ?_
        refine r_goto C 50 rfl (dk_at dk_Morn_canRead_0 30 rfl) ?_
        exact r_zret C (Or.inr rfl) h (dk_at dk_Morn_canRead_0 32 rfl)
  · replace h := h.2 c2
    refine r_iconst C 0 (dk_at dk_Morn_canRead_0 9 rfl) ?_
    exact r_zret C (Or.inl rfl) h (dk_at dk_Morn_canRead_0 10 rfl)
  )
set_option maxRecDepth 20000 in
theorem t_Morn_seek_b99 {o_seek : DD → Int32 → Int32 → (DD → Prop) → Prop} {f0 q0 f_seek q_seek : Nat} {X : CT} {w : WO} (C : CF X w (lim0 w) 9 cX1_seek RX1 none (.code yX1_seek cX1_seek 9 none) (rmK f0 q0)) {T : TXT} {z : EXa} (hL : LyX w T z) (hr0 : 2 ≤ f0 ∧ 60 ≤ q0) (hr_seek : f_seek + 1 ≤ f0 ∧ 8 + (9 + 11) + q_seek ≤ q0) (ho_seek : ∀ (σ : DD) (a1 : Int32) (a2 : Int32) (post : DD → Prop), o_seek σ a1 a2 post → MV X.l w yX1_seek cX1_seek 9 (rmK f_seek q_seek) σ [.ref (wAd w 70), .int a1, .int a2] post) {a1 : Int32} {a2 : Int32} {a6 : Int32} {K99 : DD → Int32 → Prop} {post : DD → Prop} (k99 : ∀ (σ : DD) (a7 : Int32), K99 σ a7 → gW X w (lim0 w) 9 (QV X w post) σ 99 [(0, .ref (wAd w 70)), (1, .int a1), (2, .int a2), (6, .int a6), (7, .int a7)] []) {σ : DD} {a7 : Int32} (h : w_Morn_seek_b99 T o_seek a1 a2 a6 K99 post σ a7) : gW X w (lim0 w) 9 (QV X w post) σ 99 [(0, .ref (wAd w 70)), (1, .int a1), (2, .int a2), (6, .int a6), (7, .int a7)] [] := by
  unfold w_Morn_seek_b99 at h
  refine r_iload C 4 rfl (dk_at dk_Morn_seek_1 19 rfl) ?_
  refine r_aload_n C 0 rfl (dk_at dk_Morn_seek_1 20 rfl) ?_
  refine r_getR C fl_Morn_27 70 (hL.1 70 _ rfl) rfl (dk_at dk_Morn_seek_1 21 rfl) ?_
  refine r_getI C fl_Morn_74 200 (hL.1 200 _ rfl) rfl (dk_at dk_Morn_seek_1 22 rfl) ?_
  refine r_icmp_ge C 199 rfl (dk_at dk_Morn_seek_1 23 rfl) (fun c1 => ?_) (fun c1 => ?_)
  · replace h := h.1 c1
    refine r_aload_n C 0 rfl (dk_at dk_Morn_seek_2 37 rfl) ?_
    refine r_getR C fl_Morn_21 70 (hL.1 70 _ rfl) rfl (dk_at dk_Morn_seek_2 38 rfl) ?_
    refine r_iload_n C 1 rfl (dk_at dk_Morn_seek_2 39 rfl) ?_
    refine r_bipush C 100 (dk_at dk_Morn_seek_3 0 rfl) ?_
    obtain ⟨q4, h⟩ := h
    refine r_iast C 76 (hL.1 76 _ rfl) q4 (dk_at dk_Morn_seek_3 1 rfl) (r_sg (fun σ2 e3 => ?_))
    replace h := h σ2 e3
    refine r_aload_n C 0 rfl (dk_at dk_Morn_seek_3 2 rfl) ?_
    refine r_iload_n C 1 rfl (dk_at dk_Morn_seek_3 3 rfl) ?_
    refine r_iconst C 1 (dk_at dk_Morn_seek_3 4 rfl) ?_
    refine r_iadd C (dk_at dk_Morn_seek_3 5 rfl) ?_
    refine r_iload_n C 2 rfl (dk_at dk_Morn_seek_3 6 rfl) ?_
    refine r_cvV C cl_Morn_50 70 (hL.1 70 _ rfl) [.int (a1 + 1), .int a2] (ho_seek _ _ _ _ h) (rmK_ok2 hr_seek.1 hr_seek.2) rfl rfl (Nat.le_of_ble_eq_true rfl) (dk_at dk_Morn_seek_3 7 rfl) (fun σ6 h => ?_)
    exact r_vret C h (dk_at dk_Morn_seek_3 8 rfl)
  · replace h := h.2 c1
    refine r_iload C 3 rfl (dk_at dk_Morn_seek_1 24 rfl) ?_
    refine r_iload C 4 rfl (dk_at dk_Morn_seek_1 25 rfl) ?_
    refine r_ishr C (dk_at dk_Morn_seek_1 26 rfl) ?_
    refine r_iconst C 1 (dk_at dk_Morn_seek_1 27 rfl) ?_
    refine r_iand C (dk_at dk_Morn_seek_1 28 rfl) ?_
    refine r_if_eq C 193 rfl (dk_at dk_Morn_seek_1 29 rfl) (fun c7 => ?_) (fun c7 => ?_)
    · replace h := h.1 c7
      refine r_iinc C 4 rfl rfl [(7, .int (a7 + 1)), (0, .ref (wAd w 70)), (1, .int a1), (2, .int a2), (6, .int a6)] rfl rfl (dk_at dk_Morn_seek_2 35 rfl) ?_
      refine r_goto C 99 rfl (dk_at dk_Morn_seek_2 36 rfl) ?_
      refine r_lv [1, 2, 3, 4, 0] rfl ?_
      exact k99 _ _ h
    · replace h := h.2 c7
      refine r_aload_n C 0 rfl (dk_at dk_Morn_seek_1 30 rfl) ?_
      refine r_iload_n C 1 rfl (dk_at dk_Morn_seek_1 31 rfl) ?_
      refine r_iload C 4 rfl (dk_at dk_Morn_seek_1 32 rfl) ?_
      refine r_cvI C cl_Morn_111 70 (hL.1 70 _ rfl) [.int a1, .int a7] (m_Morn_canRead hL h) (rmK_ok2 (f := f0) (q := q0) (f' := 1) (q' := 22) (by omega) (by omega)) rfl rfl (Nat.le_of_ble_eq_true rfl) (dk_at dk_Morn_seek_1 33 rfl) (fun r8 σ9 h => ?_)
      refine r_if_eq C 193 rfl (dk_at dk_Morn_seek_1 34 rfl) (fun c10 => ?_) (fun c10 => ?_)
      · replace h := h.1 c10
        refine r_iinc C 4 rfl rfl [(7, .int (a7 + 1)), (0, .ref (wAd w 70)), (1, .int a1), (2, .int a2), (6, .int a6)] rfl rfl (dk_at dk_Morn_seek_2 35 rfl) ?_
        refine r_goto C 99 rfl (dk_at dk_Morn_seek_2 36 rfl) ?_
        refine r_lv [1, 2, 3, 4, 0] rfl ?_
        exact k99 _ _ h
      · replace h := h.2 c10
        refine r_aload_n C 0 rfl (dk_at dk_Morn_seek_1 35 rfl) ?_
        refine r_getR C fl_Morn_9 70 (hL.1 70 _ rfl) rfl (dk_at dk_Morn_seek_1 36 rfl) ?_
        refine r_iload C 4 rfl (dk_at dk_Morn_seek_1 37 rfl) ?_
        obtain ⟨q11, h⟩ := h
        refine r_iald C 73 (hL.1 73 _ rfl) q11 (dk_at dk_Morn_seek_1 38 rfl) ?_
        refine r_topi (fun v12 e13 => ?_)
        replace h := h v12 e13
        refine r_istore C [(8, .int v12), (0, .ref (wAd w 70)), (1, .int a1), (2, .int a2), (6, .int a6), (7, .int a7)] rfl rfl (dk_at dk_Morn_seek_1 39 rfl) ?_
        refine r_aload_n C 1 rfl (dk_at dk_Morn_seek_2 0 rfl) ?_
        refine r_getR C fl_Morn_9 70 (hL.1 70 _ rfl) rfl (dk_at dk_Morn_seek_2 1 rfl) ?_
        refine r_iload C 5 rfl (dk_at dk_Morn_seek_2 2 rfl) ?_
        refine r_aload_n C 1 rfl (dk_at dk_Morn_seek_2 3 rfl) ?_
        refine r_getI C fl_Morn_71 70 (hL.1 70 _ rfl) rfl (dk_at dk_Morn_seek_2 4 rfl) ?_
        refine r_iload_n C 2 rfl (dk_at dk_Morn_seek_2 5 rfl) ?_
        refine r_iadd C (dk_at dk_Morn_seek_2 6 rfl) ?_
        refine r_aload_n C 1 rfl (dk_at dk_Morn_seek_2 7 rfl) ?_
        refine r_getR C fl_Morn_18 70 (hL.1 70 _ rfl) rfl (dk_at dk_Morn_seek_2 8 rfl) ?_
        refine r_iload_n C 2 rfl (dk_at dk_Morn_seek_2 9 rfl) ?_
        refine r_bipush C 8 (dk_at dk_Morn_seek_2 10 rfl) ?_
        refine r_imul C (dk_at dk_Morn_seek_2 11 rfl) ?_
        refine r_iload C 5 rfl (dk_at dk_Morn_seek_2 12 rfl) ?_
        refine r_iadd C (dk_at dk_Morn_seek_2 13 rfl) ?_
        obtain ⟨q14, h⟩ := h
        refine r_iald C 75 (hL.1 75 _ rfl) q14 (dk_at dk_Morn_seek_2 14 rfl) ?_
        refine r_iadd C (dk_at dk_Morn_seek_2 15 rfl) ?_
        obtain ⟨q17, h⟩ := h
        refine r_iast C 73 (hL.1 73 _ rfl) q17 (dk_at dk_Morn_seek_2 16 rfl) (r_sg (fun σ15 e16 => ?_))
        replace h := h σ15 e16
        refine r_aload_n C 1 rfl (dk_at dk_Morn_seek_2 17 rfl) ?_
        refine r_getR C fl_Morn_21 70 (hL.1 70 _ rfl) rfl (dk_at dk_Morn_seek_2 18 rfl) ?_
        refine r_iload_n C 2 rfl (dk_at dk_Morn_seek_2 19 rfl) ?_
        refine r_iload C 5 rfl (dk_at dk_Morn_seek_2 20 rfl) ?_
        obtain ⟨q20, h⟩ := h
        refine r_iast C 76 (hL.1 76 _ rfl) q20 (dk_at dk_Morn_seek_2 21 rfl) (r_sg (fun σ18 e19 => ?_))
        replace h := h σ18 e19
        refine r_aload_n C 1 rfl (dk_at dk_Morn_seek_2 22 rfl) ?_
        refine r_iload_n C 2 rfl (dk_at dk_Morn_seek_2 23 rfl) ?_
        refine r_iconst C 1 (dk_at dk_Morn_seek_2 24 rfl) ?_
        refine r_iadd C (dk_at dk_Morn_seek_2 25 rfl) ?_
        refine r_iload_n C 3 rfl (dk_at dk_Morn_seek_2 26 rfl) ?_
        refine r_iconst C 1 (dk_at dk_Morn_seek_2 27 rfl) ?_
        refine r_iadd C (dk_at dk_Morn_seek_2 28 rfl) ?_
        refine r_cvV C cl_Morn_50 70 (hL.1 70 _ rfl) [.int (a1 + 1), .int (a2 + 1)] (ho_seek _ _ _ _ h) (rmK_ok2 hr_seek.1 hr_seek.2) rfl rfl (Nat.le_of_ble_eq_true rfl) (dk_at dk_Morn_seek_2 29 rfl) (fun σ22 h => ?_)
        refine r_aload_n C 1 rfl (dk_at dk_Morn_seek_2 30 rfl) ?_
        refine r_getR C fl_Morn_9 70 (hL.1 70 _ rfl) rfl (dk_at dk_Morn_seek_2 31 rfl) ?_
        refine r_iload C 5 rfl (dk_at dk_Morn_seek_2 32 rfl) ?_
        refine r_iload C 0 rfl (dk_at dk_Morn_seek_2 33 rfl) ?_
        obtain ⟨q25, h⟩ := h
        refine r_iast C 73 (hL.1 73 _ rfl) q25 (dk_at dk_Morn_seek_2 34 rfl) (r_sg (fun σ23 e24 => ?_))
        replace h := h σ23 e24
        refine r_iinc C 5 rfl rfl [(7, .int (a7 + 1)), (8, .int v12), (0, .ref (wAd w 70)), (1, .int a1), (2, .int a2), (6, .int a6)] rfl rfl (dk_at dk_Morn_seek_2 35 rfl) ?_
        refine r_goto C 99 rfl (dk_at dk_Morn_seek_2 36 rfl) ?_
        refine r_lv [2, 3, 4, 5, 0] rfl ?_
        exact k99 _ _ h
set_option maxRecDepth 20000 in
theorem t_Morn_seek_l99 {o_seek : DD → Int32 → Int32 → (DD → Prop) → Prop} {f0 q0 f_seek q_seek : Nat} {X : CT} {w : WO} (C : CF X w (lim0 w) 9 cX1_seek RX1 none (.code yX1_seek cX1_seek 9 none) (rmK f0 q0)) {T : TXT} {z : EXa} (hL : LyX w T z) (hr0 : 2 ≤ f0 ∧ 60 ≤ q0) (hr_seek : f_seek + 1 ≤ f0 ∧ 8 + (9 + 11) + q_seek ≤ q0) (ho_seek : ∀ (σ : DD) (a1 : Int32) (a2 : Int32) (post : DD → Prop), o_seek σ a1 a2 post → MV X.l w yX1_seek cX1_seek 9 (rmK f_seek q_seek) σ [.ref (wAd w 70), .int a1, .int a2] post) {a1 : Int32} {a2 : Int32} {a6 : Int32} {post : DD → Prop} {σ : DD} {a7 : Int32} (h : w_Morn_seek_l99 T o_seek post σ a1 a2 a6 a7) : gW X w (lim0 w) 9 (QV X w post) σ 99 [(0, .ref (wAd w 70)), (1, .int a1), (2, .int a2), (6, .int a6), (7, .int a7)] [] :=
  LoopW (G := fun x : DD × Int32 => gW X w (lim0 w) 9 (QV X w post) x.1 99 [(0, .ref (wAd w 70)), (1, .int a1), (2, .int a2), (6, .int a6), (7, .int x.2)] []) (fun K x hK hF => t_Morn_seek_b99 C hL hr0 hr_seek ho_seek (fun σ a7 q => hK (σ, a7) q) hF) h
set_option maxRecDepth 20000 in
theorem m_Morn_seek_o {l : Launch} {w : WO} {T : TXT} {z : EXa} (hL : LyX w T z) {o_seek : DD → Int32 → Int32 → (DD → Prop) → Prop} {f0 q0 f_seek q_seek : Nat} (hr0 : 2 ≤ f0 ∧ 60 ≤ q0) (hr_seek : f_seek + 1 ≤ f0 ∧ 8 + (9 + 11) + q_seek ≤ q0) (ho_seek : ∀ (σ : DD) (a1 : Int32) (a2 : Int32) (post : DD → Prop), o_seek σ a1 a2 post → MV l w yX1_seek cX1_seek 9 (rmK f_seek q_seek) σ [.ref (wAd w 70), .int a1, .int a2] post) {σ : DD} {a1 : Int32} {a2 : Int32} {post : DD → Prop} (h : w_Morn_seek_o T o_seek σ a1 a2 post) : MV l w yX1_seek cX1_seek 9 (rmK f0 q0) σ [.ref (wAd w 70), .int a1, .int a2] post :=
  met_head (rt := none) (by decide) rfl (fun X hX C => by
  subst hX
  unfold w_Morn_seek_o at h
  show gW X w (lim0 w) 9 (QV X w post) σ 0 [(0, .ref (wAd w 70)), (1, .int a1), (2, .int a2)] []
  refine r_aload_n C 0 rfl (dk_at dk_Morn_seek_0 0 rfl) ?_
  refine r_cvI C cl_Morn_95 70 (hL.1 70 _ rfl) [] (m_Morn_heldInTheEnd hL h) (rmK_ok2 (f := f0) (q := q0) (f' := 0) (q' := 0) (by omega) (by omega)) rfl rfl (Nat.le_of_ble_eq_true rfl) (dk_at dk_Morn_seek_0 1 rfl) (fun r26 σ27 h => ?_)
  refine r_istore_n C [(3, .int r26), (0, .ref (wAd w 70)), (1, .int a1), (2, .int a2)] rfl rfl (dk_at dk_Morn_seek_0 2 rfl) ?_
  refine r_aload_n C 1 rfl (dk_at dk_Morn_seek_0 3 rfl) ?_
  refine r_getI C fl_Morn_57 70 (hL.1 70 _ rfl) rfl (dk_at dk_Morn_seek_0 4 rfl) ?_
  refine r_iload_n C 0 rfl (dk_at dk_Morn_seek_0 5 rfl) ?_
  refine r_iconst C (-1) (dk_at dk_Morn_seek_0 6 rfl) ?_
  refine r_ixor C (dk_at dk_Morn_seek_0 7 rfl) ?_
  refine r_iand C (dk_at dk_Morn_seek_0 8 rfl) ?_
  refine r_aload_n C 1 rfl (dk_at dk_Morn_seek_0 9 rfl) ?_
  refine r_getI C fl_Morn_60 70 (hL.1 70 _ rfl) rfl (dk_at dk_Morn_seek_0 10 rfl) ?_
  refine r_iload_n C 0 rfl (dk_at dk_Morn_seek_0 11 rfl) ?_
  refine r_iand C (dk_at dk_Morn_seek_0 12 rfl) ?_
  refine r_ior C (dk_at dk_Morn_seek_0 13 rfl) ?_
  refine r_topi (fun v28 e29 => ?_)
  replace h := h v28 e29
  refine r_istore C [(4, .int v28), (3, .int r26), (0, .ref (wAd w 70)), (1, .int a1), (2, .int a2)] rfl rfl (dk_at dk_Morn_seek_0 14 rfl) ?_
  refine r_iload C 0 rfl (dk_at dk_Morn_seek_0 15 rfl) ?_
  refine r_csI C cs_Morn_99 [.int v28] (m_J6_bitCount_0f7a4 hL h) (rmK_ok2 (f := f0) (q := q0) (f' := 0) (q' := 0) (by omega) (by omega)) rfl rfl (Nat.le_of_ble_eq_true rfl) (dk_at dk_Morn_seek_0 16 rfl) (fun r30 σ31 h => ?_)
  refine r_istore C [(5, .int r30), (4, .int v28), (3, .int r26), (0, .ref (wAd w 70)), (1, .int a1), (2, .int a2)] rfl rfl (dk_at dk_Morn_seek_0 17 rfl) ?_
  refine r_iload C 0 rfl (dk_at dk_Morn_seek_0 18 rfl) ?_
  refine r_aload_n C 3 rfl (dk_at dk_Morn_seek_0 19 rfl) ?_
  refine r_getI C fl_Morn_63 70 (hL.1 70 _ rfl) rfl (dk_at dk_Morn_seek_0 20 rfl) ?_
  refine r_iload_n C 4 rfl (dk_at dk_Morn_seek_0 21 rfl) ?_
  refine r_isub C (dk_at dk_Morn_seek_0 22 rfl) ?_
  refine r_icmp_gt C 51 rfl (dk_at dk_Morn_seek_0 23 rfl) (fun c32 => ?_) (fun c32 => ?_)
  · replace h := h.1 c32
    exact r_vret C h (dk_at dk_Morn_seek_0 30 rfl)
  · replace h := h.2 c32
    refine r_iload_n C 5 rfl (dk_at dk_Morn_seek_0 24 rfl) ?_
    refine r_iload C 0 rfl (dk_at dk_Morn_seek_0 25 rfl) ?_
    refine r_iadd C (dk_at dk_Morn_seek_0 26 rfl) ?_
    refine r_aload_n C 3 rfl (dk_at dk_Morn_seek_0 27 rfl) ?_
    refine r_getI C fl_Morn_46 70 (hL.1 70 _ rfl) rfl (dk_at dk_Morn_seek_0 28 rfl) ?_
    refine r_icmp_lt C 52 rfl (dk_at dk_Morn_seek_0 29 rfl) (fun c33 => ?_) (fun c33 => ?_)
    · replace h := h.1 c33
      refine r_iload_n C 4 rfl (dk_at dk_Morn_seek_0 31 rfl) ?_
      refine r_aload_n C 3 rfl (dk_at dk_Morn_seek_0 32 rfl) ?_
      refine r_getI C fl_Morn_63 70 (hL.1 70 _ rfl) rfl (dk_at dk_Morn_seek_0 33 rfl) ?_
      refine r_icmp_lt C 83 rfl (dk_at dk_Morn_seek_0 34 rfl) (fun c34 => ?_) (fun c34 => ?_)
      · replace h := h.1 c34
        refine r_iload C 1 rfl (dk_at dk_Morn_seek_1 8 rfl) ?_
        refine r_aload_n C 3 rfl (dk_at dk_Morn_seek_1 9 rfl) ?_
        refine r_getI C fl_Morn_89 70 (hL.1 70 _ rfl) rfl (dk_at dk_Morn_seek_1 10 rfl) ?_
        refine r_iload_n C 2 rfl (dk_at dk_Morn_seek_1 11 rfl) ?_
        refine r_iconst C (-1) (dk_at dk_Morn_seek_1 12 rfl) ?_
        refine r_ixor C (dk_at dk_Morn_seek_1 13 rfl) ?_
        refine r_iand C (dk_at dk_Morn_seek_1 14 rfl) ?_
        refine r_ior C (dk_at dk_Morn_seek_1 15 rfl) ?_
        refine r_topi (fun v35 e36 => ?_)
        replace h := h v35 e36
        refine r_istore C [(6, .int v35), (5, .int r30), (4, .int v28), (3, .int r26), (0, .ref (wAd w 70)), (1, .int a1), (2, .int a2)] rfl rfl (dk_at dk_Morn_seek_1 16 rfl) ?_
        refine r_iconst C 0 (dk_at dk_Morn_seek_1 17 rfl) ?_
        refine r_istore C [(7, .int 0), (6, .int v35), (5, .int r30), (4, .int v28), (3, .int r26), (0, .ref (wAd w 70)), (1, .int a1), (2, .int a2)] rfl rfl (dk_at dk_Morn_seek_1 18 rfl) ?_
        refine r_lv [5, 6, 7, 1, 0] rfl ?_
        exact t_Morn_seek_l99 C hL hr0 hr_seek ho_seek h
      · replace h := h.2 c34
        refine r_aload_n C 3 rfl (dk_at dk_Morn_seek_0 35 rfl) ?_
        refine r_iload_n C 5 rfl (dk_at dk_Morn_seek_0 36 rfl) ?_
        refine r_putI C fl_Morn_46 70 (hL.1 70 _ rfl) rfl (dk_at dk_Morn_seek_0 37 rfl) (r_sg (fun σ37 e38 => ?_))
        replace h := h σ37 e38
        refine r_aload_n C 3 rfl (dk_at dk_Morn_seek_0 38 rfl) ?_
        refine r_getR C fl_Morn_21 70 (hL.1 70 _ rfl) rfl (dk_at dk_Morn_seek_0 39 rfl) ?_
        refine r_iconst C 0 (dk_at dk_Morn_seek_1 0 rfl) ?_
        refine r_aload_n C 3 rfl (dk_at dk_Morn_seek_1 1 rfl) ?_
        refine r_getR C fl_Morn_24 70 (hL.1 70 _ rfl) rfl (dk_at dk_Morn_seek_1 2 rfl) ?_
        refine r_iconst C 0 (dk_at dk_Morn_seek_1 3 rfl) ?_
        refine r_aload_n C 3 rfl (dk_at dk_Morn_seek_1 4 rfl) ?_
        refine r_getI C fl_Morn_63 70 (hL.1 70 _ rfl) rfl (dk_at dk_Morn_seek_1 5 rfl) ?_
        obtain ⟨q39, q40, q41, h⟩ := h
        refine r_acopy C tw_979 tw_795 tw_794 tw_19 76 77 (hL.1 76 _ rfl) (hL.1 77 _ rfl) (by decide) (by decide) q39 q40 q41 (by show 1 ≤ f0; omega) (lo_le (b := 60) (by decide) (show 60 ≤ q0 by omega)) (dk_at dk_Morn_seek_1 6 rfl) (r_sg (fun σ42 e43 => ?_))
        replace h := h σ42 e43
        exact r_vret C h (dk_at dk_Morn_seek_1 7 rfl)
    · replace h := h.2 c33
      exact r_vret C h (dk_at dk_Morn_seek_0 30 rfl)
  )
set_option maxRecDepth 20000 in
theorem m_Morn_seek_d {l : Launch} {w : WO} {T : TXT} {z : EXa} (hL : LyX w T z) : ∀ d : Nat, ∀ (σ : DD) (a1 : Int32) (a2 : Int32) (post : DD → Prop), w_Morn_seek_d T d σ a1 a2 post → MV l w yX1_seek cX1_seek 9 (rmK (2 + 1 * d) (60 + 28 * d)) σ [.ref (wAd w 70), .int a1, .int a2] post := by
  intro d
  induction d with
  | zero => exact fun _ _ _ _ h => h.elim
  | succ n ih =>
    rw [show 2 + 1 * (n + 1) = 2 + 1 * n + 1 by omega, show 60 + 28 * (n + 1) = 60 + 28 * n + 28 by omega]
    exact (fun _ _ _ _ h => m_Morn_seek_o hL (f0 := 2 + 1 * n + 1) (q0 := 60 + 28 * n + 28) (f_seek := 2 + 1 * n + 0) (q_seek := 60 + 28 * n + 0) (by omega) (by omega) ih h)
set_option maxRecDepth 20000 in
theorem m_Morn_seek {l : Launch} {w : WO} {T : TXT} {z : EXa} (hL : LyX w T z) {σ : DD} {a1 : Int32} {a2 : Int32} {post : DD → Prop} (h : w_Morn_seek T σ a1 a2 post) : MV l w yX1_seek cX1_seek 9 (rmK 14 396) σ [.ref (wAd w 70), .int a1, .int a2] post :=
  m_Morn_seek_d hL 12 _ _ _ _ h
set_option maxRecDepth 20000 in
theorem t_Morn_fewestReadings_b19 {X : CT} {w : WO} (C : CF X w (lim0 w) 6 cX1_fewestReadings RX1 (some .int) (.code yX1_fewestReadings cX1_fewestReadings 6 (some .int)) (rmK 15 424)) {T : TXT} {z : EXa} (hL : LyX w T z) {a3 : Int32} {a4 : Int32} {K19 : DD → Int32 → Prop} {post : Int32 → DD → Prop} (k19 : ∀ (σ : DD) (a5 : Int32), K19 σ a5 → gW X w (lim0 w) 6 (QI X w post) σ 19 [(0, .ref (wAd w 70)), (3, .int a3), (4, .int a4), (5, .int a5)] []) {σ : DD} {a5 : Int32} (h : w_Morn_fewestReadings_b19 T a3 a4 K19 post σ a5) : gW X w (lim0 w) 6 (QI X w post) σ 19 [(0, .ref (wAd w 70)), (3, .int a3), (4, .int a4), (5, .int a5)] [] := by
  unfold w_Morn_fewestReadings_b19 at h
  refine r_iload C 3 rfl (dk_at dk_Morn_fewestReadings_0 13 rfl) ?_
  refine r_iload C 2 rfl (dk_at dk_Morn_fewestReadings_0 14 rfl) ?_
  refine r_icmp_ge C 39 rfl (dk_at dk_Morn_fewestReadings_0 15 rfl) (fun c1 => ?_) (fun c1 => ?_)
  · replace h := h.1 c1
    refine r_aload_n C 0 rfl (dk_at dk_Morn_fewestReadings_0 22 rfl) ?_
    refine r_cvV C cl_Morn_43 70 (hL.1 70 _ rfl) [] (m_Morn_findNeeded hL h) (rmK_ok rfl rfl) rfl rfl (Nat.le_of_ble_eq_true rfl) (dk_at dk_Morn_fewestReadings_0 23 rfl) (fun σ3 h => ?_)
    refine r_aload_n C 0 rfl (dk_at dk_Morn_fewestReadings_0 24 rfl) ?_
    refine r_iload C 2 rfl (dk_at dk_Morn_fewestReadings_0 25 rfl) ?_
    refine r_iconst C 1 (dk_at dk_Morn_fewestReadings_0 26 rfl) ?_
    refine r_iadd C (dk_at dk_Morn_fewestReadings_0 27 rfl) ?_
    refine r_putI C fl_Morn_46 70 (hL.1 70 _ rfl) rfl (dk_at dk_Morn_fewestReadings_0 28 rfl) (r_sg (fun σ4 e5 => ?_))
    replace h := h σ4 e5
    refine r_aload_n C 0 rfl (dk_at dk_Morn_fewestReadings_0 29 rfl) ?_
    refine r_iconst C 0 (dk_at dk_Morn_fewestReadings_0 30 rfl) ?_
    refine r_iconst C 0 (dk_at dk_Morn_fewestReadings_0 31 rfl) ?_
    refine r_cvV C cl_Morn_50 70 (hL.1 70 _ rfl) [.int 0, .int 0] (m_Morn_seek hL h) (rmK_ok rfl rfl) rfl rfl (Nat.le_of_ble_eq_true rfl) (dk_at dk_Morn_fewestReadings_0 32 rfl) (fun σ7 h => ?_)
    refine r_aload_n C 0 rfl (dk_at dk_Morn_fewestReadings_0 33 rfl) ?_
    refine r_getI C fl_Morn_46 70 (hL.1 70 _ rfl) rfl (dk_at dk_Morn_fewestReadings_0 34 rfl) ?_
    refine r_iload C 2 rfl (dk_at dk_Morn_fewestReadings_0 35 rfl) ?_
    refine r_icmp_le C 70 rfl (dk_at dk_Morn_fewestReadings_0 36 rfl) (fun c8 => ?_) (fun c8 => ?_)
    · replace h := h.1 c8
      refine r_aload_n C 0 rfl (dk_at dk_Morn_fewestReadings_0 39 rfl) ?_
      refine r_getI C fl_Morn_46 70 (hL.1 70 _ rfl) rfl (dk_at dk_Morn_fewestReadings_1 0 rfl) ?_
      exact r_iret C h (dk_at dk_Morn_fewestReadings_1 1 rfl)
    · replace h := h.2 c8
      refine r_iconst C (-1) (dk_at dk_Morn_fewestReadings_0 37 rfl) ?_
      refine r_goto C 74 rfl (dk_at dk_Morn_fewestReadings_0 38 rfl) ?_
      exact r_iret C h (dk_at dk_Morn_fewestReadings_1 1 rfl)
  · replace h := h.2 c1
    refine r_aload_n C 0 rfl (dk_at dk_Morn_fewestReadings_0 16 rfl) ?_
    refine r_iload C 3 rfl (dk_at dk_Morn_fewestReadings_0 17 rfl) ?_
    refine r_iload_n C 1 rfl (dk_at dk_Morn_fewestReadings_0 18 rfl) ?_
    refine r_cvV C cl_Morn_39 70 (hL.1 70 _ rfl) [.int a5, .int a3] (m_Morn_lookAhead hL h) (rmK_ok rfl rfl) rfl rfl (Nat.le_of_ble_eq_true rfl) (dk_at dk_Morn_fewestReadings_0 19 rfl) (fun σ10 h => ?_)
    refine r_iinc C 3 rfl rfl [(5, .int (a5 + 1)), (0, .ref (wAd w 70)), (3, .int a3), (4, .int a4)] rfl rfl (dk_at dk_Morn_fewestReadings_0 20 rfl) ?_
    refine r_goto C 19 rfl (dk_at dk_Morn_fewestReadings_0 21 rfl) ?_
    refine r_lv [1, 2, 3, 0] rfl ?_
    exact k19 _ _ h
set_option maxRecDepth 20000 in
theorem t_Morn_fewestReadings_l19 {X : CT} {w : WO} (C : CF X w (lim0 w) 6 cX1_fewestReadings RX1 (some .int) (.code yX1_fewestReadings cX1_fewestReadings 6 (some .int)) (rmK 15 424)) {T : TXT} {z : EXa} (hL : LyX w T z) {a3 : Int32} {a4 : Int32} {post : Int32 → DD → Prop} {σ : DD} {a5 : Int32} (h : w_Morn_fewestReadings_l19 T post σ a3 a4 a5) : gW X w (lim0 w) 6 (QI X w post) σ 19 [(0, .ref (wAd w 70)), (3, .int a3), (4, .int a4), (5, .int a5)] [] :=
  LoopW (G := fun x : DD × Int32 => gW X w (lim0 w) 6 (QI X w post) x.1 19 [(0, .ref (wAd w 70)), (3, .int a3), (4, .int a4), (5, .int x.2)] []) (fun K x hK hF => t_Morn_fewestReadings_b19 C hL (fun σ a5 q => hK (σ, a5) q) hF) h
set_option maxRecDepth 20000 in
theorem m_Morn_fewestReadings {l : Launch} {w : WO} {T : TXT} {z : EXa} (hL : LyX w T z) {σ : DD} {a1 : Int32} {a2 : Int32} {a3 : Int32} {a4 : Int32} {post : Int32 → DD → Prop} (h : w_Morn_fewestReadings T σ a1 a2 a3 a4 post) : MI l w yX1_fewestReadings cX1_fewestReadings 6 .int (rmK 15 424) σ [.ref (wAd w 70), .int a1, .int a2, .int a3, .int a4] post :=
  met_head (rt := (some .int)) (by decide) rfl (fun X hX C => by
  subst hX
  unfold w_Morn_fewestReadings at h
  show gW X w (lim0 w) 6 (QI X w post) σ 0 [(0, .ref (wAd w 70)), (1, .int a1), (2, .int a2), (3, .int a3), (4, .int a4)] []
  refine r_iload_n C 1 rfl (dk_at dk_Morn_fewestReadings_0 0 rfl) ?_
  refine r_iload_n C 2 rfl (dk_at dk_Morn_fewestReadings_0 1 rfl) ?_
  refine r_iand C (dk_at dk_Morn_fewestReadings_0 2 rfl) ?_
  refine r_if_eq C 8 rfl (dk_at dk_Morn_fewestReadings_0 3 rfl) (fun c11 => ?_) (fun c11 => ?_)
  · replace h := h.1 c11
    refine r_aload_n C 0 rfl (dk_at dk_Morn_fewestReadings_0 6 rfl) ?_
    refine r_iload_n C 1 rfl (dk_at dk_Morn_fewestReadings_0 7 rfl) ?_
    refine r_iload_n C 2 rfl (dk_at dk_Morn_fewestReadings_0 8 rfl) ?_
    refine r_iload C 4 rfl (dk_at dk_Morn_fewestReadings_0 9 rfl) ?_
    refine r_cvV C cl_Morn_35 70 (hL.1 70 _ rfl) [.int a1, .int a2, .int a4] (m_Morn_prepare hL h) (rmK_ok rfl rfl) rfl rfl (Nat.le_of_ble_eq_true rfl) (dk_at dk_Morn_fewestReadings_0 10 rfl) (fun σ13 h => ?_)
    refine r_iconst C 0 (dk_at dk_Morn_fewestReadings_0 11 rfl) ?_
    refine r_istore C [(5, .int 0), (0, .ref (wAd w 70)), (1, .int a1), (2, .int a2), (3, .int a3), (4, .int a4)] rfl rfl (dk_at dk_Morn_fewestReadings_0 12 rfl) ?_
    refine r_lv [1, 4, 5, 0] rfl ?_
    exact t_Morn_fewestReadings_l19 C hL h
  · replace h := h.2 c11
    refine r_iconst C (-1) (dk_at dk_Morn_fewestReadings_0 4 rfl) ?_
    exact r_iret C h (dk_at dk_Morn_fewestReadings_0 5 rfl)
  )
set_option maxRecDepth 20000 in
theorem t_Morn_play_j217 {o_playMove : DD → Int32 → Int32 → Int32 → Int32 → (Int32 → DD → Prop) → Prop} {f0 q0 f_playMove q_playMove : Nat} {X : CT} {w : WO} (C : CF X w (lim0 w) 9 cX1_play RX1 (some .int) (.code yX1_play cX1_play 9 (some .int)) (rmK f0 q0)) {T : TXT} {z : EXa} (hL : LyX w T z) (hr0 : 2 ≤ f0 ∧ 45 ≤ q0) (hr_playMove : f_playMove + 1 ≤ f0 ∧ 8 + (7 + 11) + q_playMove ≤ q0) (ho_playMove : ∀ (σ : DD) (a1 : Int32) (a2 : Int32) (a3 : Int32) (a4 : Int32) (post : Int32 → DD → Prop), o_playMove σ a1 a2 a3 a4 post → MI X.l w yX1_playMove cX1_playMove 7 .int (rmK f_playMove q_playMove) σ [.ref (wAd w 70), .int a1, .int a2, .int a3, .int a4] post) {K66 : DD → Int32 → Int32 → Int32 → Int32 → Prop} {post : Int32 → DD → Prop} {a1 : Int32} {a2 : Int32} {a4 : Int32} {a5 : Int32} {a6 : Int32} {t0 : Int32} (k66 : ∀ (σ : DD) (a2 : Int32) (a3 : Int32) (a5 : Int32) (a6 : Int32), K66 σ a2 a3 a5 a6 → gW X w (lim0 w) 9 (QI X w post) σ 66 [(0, .ref (wAd w 70)), (1, .int a1), (2, .int a2), (3, .int a3), (4, .int a4), (5, .int a5), (6, .int a6)] []) {σ : DD} (h : w_Morn_play_j217 T o_playMove K66 post σ a1 a2 a4 a5 a6 t0) : gW X w (lim0 w) 9 (QI X w post) σ 217 [(0, .ref (wAd w 70)), (1, .int a1), (2, .int a2), (4, .int a4), (5, .int a5), (6, .int a6)] [.int t0] := by
  unfold w_Morn_play_j217 at h
  refine r_istore_n C [(3, .int t0), (0, .ref (wAd w 70)), (1, .int a1), (2, .int a2), (4, .int a4), (5, .int a5), (6, .int a6)] rfl rfl (dk_at dk_Morn_play_2 26 rfl) ?_
  refine r_iinc C 6 rfl rfl [(6, .int (a6 + 1)), (3, .int t0), (0, .ref (wAd w 70)), (1, .int a1), (2, .int a2), (4, .int a4), (5, .int a5)] rfl rfl (dk_at dk_Morn_play_2 27 rfl) ?_
  refine r_goto C 66 rfl (dk_at dk_Morn_play_2 28 rfl) ?_
  refine r_lv [2, 3, 4, 1, 5, 6, 0] rfl ?_
  exact k66 _ _ _ _ _ h
set_option maxRecDepth 20000 in
theorem t_Morn_play_j201 {o_playMove : DD → Int32 → Int32 → Int32 → Int32 → (Int32 → DD → Prop) → Prop} {f0 q0 f_playMove q_playMove : Nat} {X : CT} {w : WO} (C : CF X w (lim0 w) 9 cX1_play RX1 (some .int) (.code yX1_play cX1_play 9 (some .int)) (rmK f0 q0)) {T : TXT} {z : EXa} (hL : LyX w T z) (hr0 : 2 ≤ f0 ∧ 45 ≤ q0) (hr_playMove : f_playMove + 1 ≤ f0 ∧ 8 + (7 + 11) + q_playMove ≤ q0) (ho_playMove : ∀ (σ : DD) (a1 : Int32) (a2 : Int32) (a3 : Int32) (a4 : Int32) (post : Int32 → DD → Prop), o_playMove σ a1 a2 a3 a4 post → MI X.l w yX1_playMove cX1_playMove 7 .int (rmK f_playMove q_playMove) σ [.ref (wAd w 70), .int a1, .int a2, .int a3, .int a4] post) {K66 : DD → Int32 → Int32 → Int32 → Int32 → Prop} {post : Int32 → DD → Prop} {a1 : Int32} {a3 : Int32} {a4 : Int32} {a5 : Int32} {a6 : Int32} {t0 : Int32} (k66 : ∀ (σ : DD) (a2 : Int32) (a3 : Int32) (a5 : Int32) (a6 : Int32), K66 σ a2 a3 a5 a6 → gW X w (lim0 w) 9 (QI X w post) σ 66 [(0, .ref (wAd w 70)), (1, .int a1), (2, .int a2), (3, .int a3), (4, .int a4), (5, .int a5), (6, .int a6)] []) {σ : DD} (h : w_Morn_play_j201 T o_playMove K66 post σ a1 a3 a4 a5 a6 t0) : gW X w (lim0 w) 9 (QI X w post) σ 201 [(0, .ref (wAd w 70)), (1, .int a1), (3, .int a3), (4, .int a4), (5, .int a5), (6, .int a6)] [.int t0] := by
  unfold w_Morn_play_j201 at h
  refine r_istore_n C [(2, .int t0), (0, .ref (wAd w 70)), (1, .int a1), (3, .int a3), (4, .int a4), (5, .int a5), (6, .int a6)] rfl rfl (dk_at dk_Morn_play_2 18 rfl) ?_
  refine r_iload C 4 rfl (dk_at dk_Morn_play_2 19 rfl) ?_
  refine r_if_eq C 211 rfl (dk_at dk_Morn_play_2 20 rfl) (fun c1 => ?_) (fun c1 => ?_)
  · replace h := h.1 c1
    refine r_iload_n C 3 rfl (dk_at dk_Morn_play_2 23 rfl) ?_
    refine r_iload C 5 rfl (dk_at dk_Morn_play_2 24 rfl) ?_
    refine r_mmin C tw_1003 tw_748 tw_14 tw_749 (show 1 ≤ f0 by omega) (lo_le (b := 23) rfl (show 23 ≤ q0 by omega)) (dk_at dk_Morn_play_2 25 rfl) ?_
    refine r_lv [1, 2, 0, 4, 5, 6] rfl ?_
    exact t_Morn_play_j217 C hL hr0 hr_playMove ho_playMove k66 h
  · replace h := h.2 c1
    refine r_iload_n C 3 rfl (dk_at dk_Morn_play_2 21 rfl) ?_
    refine r_goto C 217 rfl (dk_at dk_Morn_play_2 22 rfl) ?_
    refine r_lv [1, 2, 0, 4, 5, 6] rfl ?_
    exact t_Morn_play_j217 C hL hr0 hr_playMove ho_playMove k66 h
set_option maxRecDepth 20000 in
theorem t_Morn_play_j186 {o_playMove : DD → Int32 → Int32 → Int32 → Int32 → (Int32 → DD → Prop) → Prop} {f0 q0 f_playMove q_playMove : Nat} {X : CT} {w : WO} (C : CF X w (lim0 w) 9 cX1_play RX1 (some .int) (.code yX1_play cX1_play 9 (some .int)) (rmK f0 q0)) {T : TXT} {z : EXa} (hL : LyX w T z) (hr0 : 2 ≤ f0 ∧ 45 ≤ q0) (hr_playMove : f_playMove + 1 ≤ f0 ∧ 8 + (7 + 11) + q_playMove ≤ q0) (ho_playMove : ∀ (σ : DD) (a1 : Int32) (a2 : Int32) (a3 : Int32) (a4 : Int32) (post : Int32 → DD → Prop), o_playMove σ a1 a2 a3 a4 post → MI X.l w yX1_playMove cX1_playMove 7 .int (rmK f_playMove q_playMove) σ [.ref (wAd w 70), .int a1, .int a2, .int a3, .int a4] post) {K66 : DD → Int32 → Int32 → Int32 → Int32 → Prop} {post : Int32 → DD → Prop} {a1 : Int32} {a2 : Int32} {a3 : Int32} {a4 : Int32} {a5 : Int32} {a6 : Int32} (k66 : ∀ (σ : DD) (a2 : Int32) (a3 : Int32) (a5 : Int32) (a6 : Int32), K66 σ a2 a3 a5 a6 → gW X w (lim0 w) 9 (QI X w post) σ 66 [(0, .ref (wAd w 70)), (1, .int a1), (2, .int a2), (3, .int a3), (4, .int a4), (5, .int a5), (6, .int a6)] []) {σ : DD} (h : w_Morn_play_j186 T o_playMove K66 post σ a1 a2 a3 a4 a5 a6) : gW X w (lim0 w) 9 (QI X w post) σ 186 [(0, .ref (wAd w 70)), (1, .int a1), (2, .int a2), (3, .int a3), (4, .int a4), (5, .int a5), (6, .int a6)] [] := by
  unfold w_Morn_play_j186 at h
  refine r_iload C 4 rfl (dk_at dk_Morn_play_2 11 rfl) ?_
  refine r_if_eq C 200 rfl (dk_at dk_Morn_play_2 12 rfl) (fun c2 => ?_) (fun c2 => ?_)
  · replace h := h.1 c2
    refine r_iload_n C 2 rfl (dk_at dk_Morn_play_2 17 rfl) ?_
    refine r_lv [0, 1, 3, 4, 5, 6] rfl ?_
    exact t_Morn_play_j201 C hL hr0 hr_playMove ho_playMove k66 h
  · replace h := h.2 c2
    refine r_iload_n C 2 rfl (dk_at dk_Morn_play_2 13 rfl) ?_
    refine r_iload C 5 rfl (dk_at dk_Morn_play_2 14 rfl) ?_
    refine r_mmax C tw_1000 tw_1001 tw_14 tw_1002 (show 1 ≤ f0 by omega) (lo_le (b := 23) rfl (show 23 ≤ q0 by omega)) (dk_at dk_Morn_play_2 15 rfl) ?_
    refine r_goto C 201 rfl (dk_at dk_Morn_play_2 16 rfl) ?_
    refine r_lv [0, 1, 3, 4, 5, 6] rfl ?_
    exact t_Morn_play_j201 C hL hr0 hr_playMove ho_playMove k66 h
set_option maxRecDepth 20000 in
theorem t_Morn_play_j183 {o_playMove : DD → Int32 → Int32 → Int32 → Int32 → (Int32 → DD → Prop) → Prop} {f0 q0 f_playMove q_playMove : Nat} {X : CT} {w : WO} (C : CF X w (lim0 w) 9 cX1_play RX1 (some .int) (.code yX1_play cX1_play 9 (some .int)) (rmK f0 q0)) {T : TXT} {z : EXa} (hL : LyX w T z) (hr0 : 2 ≤ f0 ∧ 45 ≤ q0) (hr_playMove : f_playMove + 1 ≤ f0 ∧ 8 + (7 + 11) + q_playMove ≤ q0) (ho_playMove : ∀ (σ : DD) (a1 : Int32) (a2 : Int32) (a3 : Int32) (a4 : Int32) (post : Int32 → DD → Prop), o_playMove σ a1 a2 a3 a4 post → MI X.l w yX1_playMove cX1_playMove 7 .int (rmK f_playMove q_playMove) σ [.ref (wAd w 70), .int a1, .int a2, .int a3, .int a4] post) {K66 : DD → Int32 → Int32 → Int32 → Int32 → Prop} {post : Int32 → DD → Prop} {a1 : Int32} {a2 : Int32} {a3 : Int32} {a4 : Int32} {a5 : Int32} {a6 : Int32} {t1 : Int32} (k66 : ∀ (σ : DD) (a2 : Int32) (a3 : Int32) (a5 : Int32) (a6 : Int32), K66 σ a2 a3 a5 a6 → gW X w (lim0 w) 9 (QI X w post) σ 66 [(0, .ref (wAd w 70)), (1, .int a1), (2, .int a2), (3, .int a3), (4, .int a4), (5, .int a5), (6, .int a6)] []) {σ : DD} (h : w_Morn_play_j183 T o_playMove K66 post σ a1 a2 a3 a4 a5 a6 t1) : gW X w (lim0 w) 9 (QI X w post) σ 183 [(0, .ref (wAd w 70)), (1, .int a1), (2, .int a2), (3, .int a3), (4, .int a4), (5, .int a5), (6, .int a6)] [.int t1, .ref (wAd w 70)] := by
  unfold w_Morn_play_j183 at h
  refine r_putI C fl_Morn_119 70 (hL.1 70 _ rfl) rfl (dk_at dk_Morn_play_2 10 rfl) (r_sg (fun σ3 e4 => ?_))
  replace h := h σ3 e4
  refine r_lv [0, 1, 2, 3, 4, 5, 6] rfl ?_
  exact t_Morn_play_j186 C hL hr0 hr_playMove ho_playMove k66 h
set_option maxRecDepth 20000 in
theorem t_Morn_play_j162 {o_playMove : DD → Int32 → Int32 → Int32 → Int32 → (Int32 → DD → Prop) → Prop} {f0 q0 f_playMove q_playMove : Nat} {X : CT} {w : WO} (C : CF X w (lim0 w) 9 cX1_play RX1 (some .int) (.code yX1_play cX1_play 9 (some .int)) (rmK f0 q0)) {T : TXT} {z : EXa} (hL : LyX w T z) (hr0 : 2 ≤ f0 ∧ 45 ≤ q0) (hr_playMove : f_playMove + 1 ≤ f0 ∧ 8 + (7 + 11) + q_playMove ≤ q0) (ho_playMove : ∀ (σ : DD) (a1 : Int32) (a2 : Int32) (a3 : Int32) (a4 : Int32) (post : Int32 → DD → Prop), o_playMove σ a1 a2 a3 a4 post → MI X.l w yX1_playMove cX1_playMove 7 .int (rmK f_playMove q_playMove) σ [.ref (wAd w 70), .int a1, .int a2, .int a3, .int a4] post) {K66 : DD → Int32 → Int32 → Int32 → Int32 → Prop} {post : Int32 → DD → Prop} {a1 : Int32} {a2 : Int32} {a3 : Int32} {a4 : Int32} {a6 : Int32} {a7 : Int32} {a8 : Int32} (k66 : ∀ (σ : DD) (a2 : Int32) (a3 : Int32) (a5 : Int32) (a6 : Int32), K66 σ a2 a3 a5 a6 → gW X w (lim0 w) 9 (QI X w post) σ 66 [(0, .ref (wAd w 70)), (1, .int a1), (2, .int a2), (3, .int a3), (4, .int a4), (5, .int a5), (6, .int a6)] []) {σ : DD} (h : w_Morn_play_j162 T o_playMove K66 post σ a1 a2 a3 a4 a6 a7 a8) : gW X w (lim0 w) 9 (QI X w post) σ 162 [(0, .ref (wAd w 70)), (1, .int a1), (2, .int a2), (3, .int a3), (4, .int a4), (6, .int a6), (7, .int a7), (8, .int a8)] [] := by
  unfold w_Morn_play_j162 at h
  refine r_iload C 7 rfl (dk_at dk_Morn_play_2 0 rfl) ?_
  refine r_istore C [(5, .int a8), (0, .ref (wAd w 70)), (1, .int a1), (2, .int a2), (3, .int a3), (4, .int a4), (6, .int a6), (7, .int a7), (8, .int a8)] rfl rfl (dk_at dk_Morn_play_2 1 rfl) ?_
  refine r_iload_n C 2 rfl (dk_at dk_Morn_play_2 2 rfl) ?_
  refine r_if_ne C 186 rfl (dk_at dk_Morn_play_2 3 rfl) (fun c5 => ?_) (fun c5 => ?_)
  · replace h := h.1 c5
    refine r_lv [1, 2, 3, 4, 5, 0, 6] rfl ?_
    exact t_Morn_play_j186 C hL hr0 hr_playMove ho_playMove k66 h
  · replace h := h.2 c5
    refine r_aload_n C 1 rfl (dk_at dk_Morn_play_2 4 rfl) ?_
    refine r_iload C 7 rfl (dk_at dk_Morn_play_2 5 rfl) ?_
    refine r_if_eq C 181 rfl (dk_at dk_Morn_play_2 6 rfl) (fun c6 => ?_) (fun c6 => ?_)
    · replace h := h.1 c6
      refine r_bipush C 100 (dk_at dk_Morn_play_2 9 rfl) ?_
      refine r_lv [1, 2, 3, 4, 5, 0, 6] rfl ?_
      exact t_Morn_play_j183 C hL hr0 hr_playMove ho_playMove k66 h
    · replace h := h.2 c6
      refine r_iload C 6 rfl (dk_at dk_Morn_play_2 7 rfl) ?_
      refine r_goto C 183 rfl (dk_at dk_Morn_play_2 8 rfl) ?_
      refine r_lv [1, 2, 3, 4, 5, 0, 6] rfl ?_
      exact t_Morn_play_j183 C hL hr0 hr_playMove ho_playMove k66 h
set_option maxRecDepth 20000 in
theorem t_Morn_play_j133 {o_playMove : DD → Int32 → Int32 → Int32 → Int32 → (Int32 → DD → Prop) → Prop} {f0 q0 f_playMove q_playMove : Nat} {X : CT} {w : WO} (C : CF X w (lim0 w) 9 cX1_play RX1 (some .int) (.code yX1_play cX1_play 9 (some .int)) (rmK f0 q0)) {T : TXT} {z : EXa} (hL : LyX w T z) (hr0 : 2 ≤ f0 ∧ 45 ≤ q0) (hr_playMove : f_playMove + 1 ≤ f0 ∧ 8 + (7 + 11) + q_playMove ≤ q0) (ho_playMove : ∀ (σ : DD) (a1 : Int32) (a2 : Int32) (a3 : Int32) (a4 : Int32) (post : Int32 → DD → Prop), o_playMove σ a1 a2 a3 a4 post → MI X.l w yX1_playMove cX1_playMove 7 .int (rmK f_playMove q_playMove) σ [.ref (wAd w 70), .int a1, .int a2, .int a3, .int a4] post) {K66 : DD → Int32 → Int32 → Int32 → Int32 → Prop} {post : Int32 → DD → Prop} {a1 : Int32} {a2 : Int32} {a3 : Int32} {a4 : Int32} {a5 : Int32} {a6 : Int32} {a7 : Int32} {t1 : Int32} {t2 : Int32} (k66 : ∀ (σ : DD) (a2 : Int32) (a3 : Int32) (a5 : Int32) (a6 : Int32), K66 σ a2 a3 a5 a6 → gW X w (lim0 w) 9 (QI X w post) σ 66 [(0, .ref (wAd w 70)), (1, .int a1), (2, .int a2), (3, .int a3), (4, .int a4), (5, .int a5), (6, .int a6)] []) {σ : DD} (h : w_Morn_play_j133 T o_playMove K66 post σ a1 a2 a3 a4 a5 a6 a7 t1 t2) : gW X w (lim0 w) 9 (QI X w post) σ 133 [(0, .ref (wAd w 70)), (1, .int a1), (2, .int a2), (3, .int a3), (4, .int a4), (5, .int a5), (6, .int a6), (7, .int a7)] [.int t2, .int t1, .ref (wAd w 70)] := by
  unfold w_Morn_play_j133 at h
  refine r_iload_n C 2 rfl (dk_at dk_Morn_play_1 27 rfl) ?_
  refine r_iload_n C 3 rfl (dk_at dk_Morn_play_1 28 rfl) ?_
  refine r_cvI C cl_Morn_115 70 (hL.1 70 _ rfl) [.int t1, .int t2, .int a2, .int a3] (ho_playMove _ _ _ _ _ _ h) (rmK_ok2 hr_playMove.1 hr_playMove.2) rfl rfl (Nat.le_of_ble_eq_true rfl) (dk_at dk_Morn_play_1 29 rfl) (fun r7 σ8 h => ?_)
  refine r_istore C [(8, .int r7), (0, .ref (wAd w 70)), (1, .int a1), (2, .int a2), (3, .int a3), (4, .int a4), (5, .int a5), (6, .int a6), (7, .int a7)] rfl rfl (dk_at dk_Morn_play_1 30 rfl) ?_
  refine r_iload C 5 rfl (dk_at dk_Morn_play_1 31 rfl) ?_
  refine r_if_eq C 155 rfl (dk_at dk_Morn_play_1 32 rfl) (fun c9 => ?_) (fun c9 => ?_)
  · replace h := h.1 c9
    refine r_iload C 0 rfl (dk_at dk_Morn_play_1 37 rfl) ?_
    refine r_iload C 6 rfl (dk_at dk_Morn_play_1 38 rfl) ?_
    refine r_icmp_ge C 186 rfl (dk_at dk_Morn_play_1 39 rfl) (fun c10 => ?_) (fun c10 => ?_)
    · replace h := h.1 c10
      refine r_lv [1, 2, 3, 4, 5, 6, 7] rfl ?_
      exact t_Morn_play_j186 C hL hr0 hr_playMove ho_playMove k66 h
    · replace h := h.2 c10
      refine r_lv [1, 2, 3, 4, 5, 7, 8, 0] rfl ?_
      exact t_Morn_play_j162 C hL hr0 hr_playMove ho_playMove k66 h
  · replace h := h.2 c9
    refine r_iload C 0 rfl (dk_at dk_Morn_play_1 33 rfl) ?_
    refine r_iload C 6 rfl (dk_at dk_Morn_play_1 34 rfl) ?_
    refine r_icmp_le C 186 rfl (dk_at dk_Morn_play_1 35 rfl) (fun c11 => ?_) (fun c11 => ?_)
    · replace h := h.1 c11
      refine r_lv [1, 2, 3, 4, 5, 6, 7] rfl ?_
      exact t_Morn_play_j186 C hL hr0 hr_playMove ho_playMove k66 h
    · replace h := h.2 c11
      refine r_goto C 162 rfl (dk_at dk_Morn_play_1 36 rfl) ?_
      refine r_lv [1, 2, 3, 4, 5, 7, 8, 0] rfl ?_
      exact t_Morn_play_j162 C hL hr0 hr_playMove ho_playMove k66 h
set_option maxRecDepth 20000 in
theorem t_Morn_play_j120 {o_playMove : DD → Int32 → Int32 → Int32 → Int32 → (Int32 → DD → Prop) → Prop} {f0 q0 f_playMove q_playMove : Nat} {X : CT} {w : WO} (C : CF X w (lim0 w) 9 cX1_play RX1 (some .int) (.code yX1_play cX1_play 9 (some .int)) (rmK f0 q0)) {T : TXT} {z : EXa} (hL : LyX w T z) (hr0 : 2 ≤ f0 ∧ 45 ≤ q0) (hr_playMove : f_playMove + 1 ≤ f0 ∧ 8 + (7 + 11) + q_playMove ≤ q0) (ho_playMove : ∀ (σ : DD) (a1 : Int32) (a2 : Int32) (a3 : Int32) (a4 : Int32) (post : Int32 → DD → Prop), o_playMove σ a1 a2 a3 a4 post → MI X.l w yX1_playMove cX1_playMove 7 .int (rmK f_playMove q_playMove) σ [.ref (wAd w 70), .int a1, .int a2, .int a3, .int a4] post) {K66 : DD → Int32 → Int32 → Int32 → Int32 → Prop} {post : Int32 → DD → Prop} {a1 : Int32} {a2 : Int32} {a3 : Int32} {a4 : Int32} {a5 : Int32} {a6 : Int32} {a7 : Int32} (k66 : ∀ (σ : DD) (a2 : Int32) (a3 : Int32) (a5 : Int32) (a6 : Int32), K66 σ a2 a3 a5 a6 → gW X w (lim0 w) 9 (QI X w post) σ 66 [(0, .ref (wAd w 70)), (1, .int a1), (2, .int a2), (3, .int a3), (4, .int a4), (5, .int a5), (6, .int a6)] []) {σ : DD} (h : w_Morn_play_j120 T o_playMove K66 post σ a1 a2 a3 a4 a5 a6 a7) : gW X w (lim0 w) 9 (QI X w post) σ 120 [(0, .ref (wAd w 70)), (1, .int a1), (2, .int a2), (3, .int a3), (4, .int a4), (5, .int a5), (6, .int a6), (7, .int a7)] [] := by
  unfold w_Morn_play_j120 at h
  refine r_aload_n C 0 rfl (dk_at dk_Morn_play_1 20 rfl) ?_
  refine r_iload_n C 1 rfl (dk_at dk_Morn_play_1 21 rfl) ?_
  refine r_iload C 7 rfl (dk_at dk_Morn_play_1 22 rfl) ?_
  refine r_if_eq C 132 rfl (dk_at dk_Morn_play_1 23 rfl) (fun c12 => ?_) (fun c12 => ?_)
  · replace h := h.1 c12
    refine r_iconst C (-1) (dk_at dk_Morn_play_1 26 rfl) ?_
    refine r_lv [0, 1, 2, 3, 4, 5, 6, 7] rfl ?_
    exact t_Morn_play_j133 C hL hr0 hr_playMove ho_playMove k66 h
  · replace h := h.2 c12
    refine r_iload C 6 rfl (dk_at dk_Morn_play_1 24 rfl) ?_
    refine r_goto C 133 rfl (dk_at dk_Morn_play_1 25 rfl) ?_
    refine r_lv [0, 1, 2, 3, 4, 5, 6, 7] rfl ?_
    exact t_Morn_play_j133 C hL hr0 hr_playMove ho_playMove k66 h
set_option maxRecDepth 20000 in
theorem t_Morn_play_j100 {o_playMove : DD → Int32 → Int32 → Int32 → Int32 → (Int32 → DD → Prop) → Prop} {f0 q0 f_playMove q_playMove : Nat} {X : CT} {w : WO} (C : CF X w (lim0 w) 9 cX1_play RX1 (some .int) (.code yX1_play cX1_play 9 (some .int)) (rmK f0 q0)) {T : TXT} {z : EXa} (hL : LyX w T z) (hr0 : 2 ≤ f0 ∧ 45 ≤ q0) (hr_playMove : f_playMove + 1 ≤ f0 ∧ 8 + (7 + 11) + q_playMove ≤ q0) (ho_playMove : ∀ (σ : DD) (a1 : Int32) (a2 : Int32) (a3 : Int32) (a4 : Int32) (post : Int32 → DD → Prop), o_playMove σ a1 a2 a3 a4 post → MI X.l w yX1_playMove cX1_playMove 7 .int (rmK f_playMove q_playMove) σ [.ref (wAd w 70), .int a1, .int a2, .int a3, .int a4] post) {K66 : DD → Int32 → Int32 → Int32 → Int32 → Prop} {post : Int32 → DD → Prop} {a1 : Int32} {a2 : Int32} {a3 : Int32} {a4 : Int32} {a5 : Int32} {a6 : Int32} {t0 : Int32} (k66 : ∀ (σ : DD) (a2 : Int32) (a3 : Int32) (a5 : Int32) (a6 : Int32), K66 σ a2 a3 a5 a6 → gW X w (lim0 w) 9 (QI X w post) σ 66 [(0, .ref (wAd w 70)), (1, .int a1), (2, .int a2), (3, .int a3), (4, .int a4), (5, .int a5), (6, .int a6)] []) {σ : DD} (h : w_Morn_play_j100 T o_playMove K66 post σ a1 a2 a3 a4 a5 a6 t0) : gW X w (lim0 w) 9 (QI X w post) σ 100 [(0, .ref (wAd w 70)), (1, .int a1), (2, .int a2), (3, .int a3), (4, .int a4), (5, .int a5), (6, .int a6)] [.int t0] := by
  unfold w_Morn_play_j100 at h
  refine r_istore C [(7, .int t0), (0, .ref (wAd w 70)), (1, .int a1), (2, .int a2), (3, .int a3), (4, .int a4), (5, .int a5), (6, .int a6)] rfl rfl (dk_at dk_Morn_play_1 11 rfl) ?_
  refine r_iload C 0 rfl (dk_at dk_Morn_play_1 12 rfl) ?_
  refine r_if_eq C 120 rfl (dk_at dk_Morn_play_1 13 rfl) (fun c13 => ?_) (fun c13 => ?_)
  · replace h := h.1 c13
    refine r_lv [1, 2, 3, 4, 5, 6, 7, 0] rfl ?_
    exact t_Morn_play_j120 C hL hr0 hr_playMove ho_playMove k66 h
  · replace h := h.2 c13
    refine r_aload_n C 1 rfl (dk_at dk_Morn_play_1 14 rfl) ?_
    refine r_iload_n C 2 rfl (dk_at dk_Morn_play_1 15 rfl) ?_
    refine r_iload C 7 rfl (dk_at dk_Morn_play_1 16 rfl) ?_
    refine r_cvI C cl_Morn_111 70 (hL.1 70 _ rfl) [.int a1, .int a6] (m_Morn_canRead hL h) (rmK_ok2 (f := f0) (q := q0) (f' := 1) (q' := 22) (by omega) (by omega)) rfl rfl (Nat.le_of_ble_eq_true rfl) (dk_at dk_Morn_play_1 17 rfl) (fun r14 σ15 h => ?_)
    refine r_if_ne C 120 rfl (dk_at dk_Morn_play_1 18 rfl) (fun c16 => ?_) (fun c16 => ?_)
    · replace h := h.1 c16
      refine r_lv [1, 2, 3, 4, 5, 6, 7, 0] rfl ?_
      exact t_Morn_play_j120 C hL hr0 hr_playMove ho_playMove k66 h
    · replace h := h.2 c16
      refine r_goto C 218 rfl (dk_at dk_Morn_play_1 19 rfl) ?_
      refine r_iinc C 7 rfl rfl [(6, .int (a6 + 1)), (7, .int t0), (0, .ref (wAd w 70)), (1, .int a1), (2, .int a2), (3, .int a3), (4, .int a4), (5, .int a5)] rfl rfl (dk_at dk_Morn_play_2 27 rfl) ?_
      refine r_goto C 66 rfl (dk_at dk_Morn_play_2 28 rfl) ?_
      refine r_lv [2, 3, 4, 5, 6, 7, 0] rfl ?_
      exact k66 _ _ _ _ _ h
set_option maxRecDepth 20000 in
theorem t_Morn_play_b66 {o_playMove : DD → Int32 → Int32 → Int32 → Int32 → (Int32 → DD → Prop) → Prop} {f0 q0 f_playMove q_playMove : Nat} {X : CT} {w : WO} (C : CF X w (lim0 w) 9 cX1_play RX1 (some .int) (.code yX1_play cX1_play 9 (some .int)) (rmK f0 q0)) {T : TXT} {z : EXa} (hL : LyX w T z) (hr0 : 2 ≤ f0 ∧ 45 ≤ q0) (hr_playMove : f_playMove + 1 ≤ f0 ∧ 8 + (7 + 11) + q_playMove ≤ q0) (ho_playMove : ∀ (σ : DD) (a1 : Int32) (a2 : Int32) (a3 : Int32) (a4 : Int32) (post : Int32 → DD → Prop), o_playMove σ a1 a2 a3 a4 post → MI X.l w yX1_playMove cX1_playMove 7 .int (rmK f_playMove q_playMove) σ [.ref (wAd w 70), .int a1, .int a2, .int a3, .int a4] post) {a1 : Int32} {a4 : Int32} {K66 : DD → Int32 → Int32 → Int32 → Int32 → Prop} {post : Int32 → DD → Prop} (k66 : ∀ (σ : DD) (a2 : Int32) (a3 : Int32) (a5 : Int32) (a6 : Int32), K66 σ a2 a3 a5 a6 → gW X w (lim0 w) 9 (QI X w post) σ 66 [(0, .ref (wAd w 70)), (1, .int a1), (2, .int a2), (3, .int a3), (4, .int a4), (5, .int a5), (6, .int a6)] []) {σ : DD} {a2 : Int32} {a3 : Int32} {a5 : Int32} {a6 : Int32} (h : w_Morn_play_b66 T o_playMove a1 a4 K66 post σ a2 a3 a5 a6) : gW X w (lim0 w) 9 (QI X w post) σ 66 [(0, .ref (wAd w 70)), (1, .int a1), (2, .int a2), (3, .int a3), (4, .int a4), (5, .int a5), (6, .int a6)] [] := by
  unfold w_Morn_play_b66 at h
  refine r_iload C 6 rfl (dk_at dk_Morn_play_0 35 rfl) ?_
  refine r_aload_n C 0 rfl (dk_at dk_Morn_play_0 36 rfl) ?_
  refine r_getR C fl_Morn_27 70 (hL.1 70 _ rfl) rfl (dk_at dk_Morn_play_0 37 rfl) ?_
  refine r_getI C fl_Morn_74 200 (hL.1 200 _ rfl) rfl (dk_at dk_Morn_play_0 38 rfl) ?_
  refine r_icmp_gt C 224 rfl (dk_at dk_Morn_play_0 39 rfl) (fun c17 => ?_) (fun c17 => ?_)
  · replace h := h.1 c17
    refine r_iload C 5 rfl (dk_at dk_Morn_play_2 29 rfl) ?_
    exact r_iret C h (dk_at dk_Morn_play_2 30 rfl)
  · replace h := h.2 c17
    refine r_iload_n C 2 rfl (dk_at dk_Morn_play_1 0 rfl) ?_
    refine r_iload_n C 3 rfl (dk_at dk_Morn_play_1 1 rfl) ?_
    refine r_icmp_ge C 224 rfl (dk_at dk_Morn_play_1 2 rfl) (fun c18 => ?_) (fun c18 => ?_)
    · replace h := h.1 c18
      refine r_iload C 5 rfl (dk_at dk_Morn_play_2 29 rfl) ?_
      exact r_iret C h (dk_at dk_Morn_play_2 30 rfl)
    · replace h := h.2 c18
      refine r_iload C 6 rfl (dk_at dk_Morn_play_1 3 rfl) ?_
      refine r_aload_n C 0 rfl (dk_at dk_Morn_play_1 4 rfl) ?_
      refine r_getR C fl_Morn_27 70 (hL.1 70 _ rfl) rfl (dk_at dk_Morn_play_1 5 rfl) ?_
      refine r_getI C fl_Morn_74 200 (hL.1 200 _ rfl) rfl (dk_at dk_Morn_play_1 6 rfl) ?_
      refine r_icmp_ge C 99 rfl (dk_at dk_Morn_play_1 7 rfl) (fun c19 => ?_) (fun c19 => ?_)
      · replace h := h.1 c19
        refine r_iconst C 0 (dk_at dk_Morn_play_1 10 rfl) ?_
        refine r_lv [0, 1, 2, 3, 4, 5, 6] rfl ?_
        exact t_Morn_play_j100 C hL hr0 hr_playMove ho_playMove k66 h
      · replace h := h.2 c19
        refine r_iconst C 1 (dk_at dk_Morn_play_1 8 rfl) ?_
        refine r_goto C 100 rfl (dk_at dk_Morn_play_1 9 rfl) ?_
        refine r_lv [0, 1, 2, 3, 4, 5, 6] rfl ?_
        exact t_Morn_play_j100 C hL hr0 hr_playMove ho_playMove k66 h
set_option maxRecDepth 20000 in
theorem t_Morn_play_l66 {o_playMove : DD → Int32 → Int32 → Int32 → Int32 → (Int32 → DD → Prop) → Prop} {f0 q0 f_playMove q_playMove : Nat} {X : CT} {w : WO} (C : CF X w (lim0 w) 9 cX1_play RX1 (some .int) (.code yX1_play cX1_play 9 (some .int)) (rmK f0 q0)) {T : TXT} {z : EXa} (hL : LyX w T z) (hr0 : 2 ≤ f0 ∧ 45 ≤ q0) (hr_playMove : f_playMove + 1 ≤ f0 ∧ 8 + (7 + 11) + q_playMove ≤ q0) (ho_playMove : ∀ (σ : DD) (a1 : Int32) (a2 : Int32) (a3 : Int32) (a4 : Int32) (post : Int32 → DD → Prop), o_playMove σ a1 a2 a3 a4 post → MI X.l w yX1_playMove cX1_playMove 7 .int (rmK f_playMove q_playMove) σ [.ref (wAd w 70), .int a1, .int a2, .int a3, .int a4] post) {a1 : Int32} {a4 : Int32} {post : Int32 → DD → Prop} {σ : DD} {a2 : Int32} {a3 : Int32} {a5 : Int32} {a6 : Int32} (h : w_Morn_play_l66 T o_playMove post σ a1 a2 a3 a4 a5 a6) : gW X w (lim0 w) 9 (QI X w post) σ 66 [(0, .ref (wAd w 70)), (1, .int a1), (2, .int a2), (3, .int a3), (4, .int a4), (5, .int a5), (6, .int a6)] [] :=
  LoopW (G := fun x : DD × Int32 × Int32 × Int32 × Int32 => gW X w (lim0 w) 9 (QI X w post) x.1 66 [(0, .ref (wAd w 70)), (1, .int a1), (2, .int x.2.1), (3, .int x.2.2.1), (4, .int a4), (5, .int x.2.2.2.1), (6, .int x.2.2.2.2)] []) (fun K x hK hF => t_Morn_play_b66 C hL hr0 hr_playMove ho_playMove (fun σ a2 a3 a5 a6 q => hK (σ, a2, a3, a5, a6) q) hF) h
set_option maxRecDepth 20000 in
theorem t_Morn_play_j61 {o_playMove : DD → Int32 → Int32 → Int32 → Int32 → (Int32 → DD → Prop) → Prop} {f0 q0 f_playMove q_playMove : Nat} {X : CT} {w : WO} (C : CF X w (lim0 w) 9 cX1_play RX1 (some .int) (.code yX1_play cX1_play 9 (some .int)) (rmK f0 q0)) {T : TXT} {z : EXa} (hL : LyX w T z) (hr0 : 2 ≤ f0 ∧ 45 ≤ q0) (hr_playMove : f_playMove + 1 ≤ f0 ∧ 8 + (7 + 11) + q_playMove ≤ q0) (ho_playMove : ∀ (σ : DD) (a1 : Int32) (a2 : Int32) (a3 : Int32) (a4 : Int32) (post : Int32 → DD → Prop), o_playMove σ a1 a2 a3 a4 post → MI X.l w yX1_playMove cX1_playMove 7 .int (rmK f_playMove q_playMove) σ [.ref (wAd w 70), .int a1, .int a2, .int a3, .int a4] post) {post : Int32 → DD → Prop} {a1 : Int32} {a2 : Int32} {a3 : Int32} {a4 : Int32} {t0 : Int32} {σ : DD} (h : w_Morn_play_j61 T o_playMove post σ a1 a2 a3 a4 t0) : gW X w (lim0 w) 9 (QI X w post) σ 61 [(0, .ref (wAd w 70)), (1, .int a1), (2, .int a2), (3, .int a3), (4, .int a4)] [.int t0] := by
  unfold w_Morn_play_j61 at h
  refine r_istore C [(5, .int t0), (0, .ref (wAd w 70)), (1, .int a1), (2, .int a2), (3, .int a3), (4, .int a4)] rfl rfl (dk_at dk_Morn_play_0 32 rfl) ?_
  refine r_iconst C 0 (dk_at dk_Morn_play_0 33 rfl) ?_
  refine r_istore C [(6, .int 0), (5, .int t0), (0, .ref (wAd w 70)), (1, .int a1), (2, .int a2), (3, .int a3), (4, .int a4)] rfl rfl (dk_at dk_Morn_play_0 34 rfl) ?_
  refine r_lv [2, 3, 4, 5, 6, 1, 0] rfl ?_
  exact t_Morn_play_l66 C hL hr0 hr_playMove ho_playMove h
set_option maxRecDepth 20000 in
theorem t_Morn_play_j47 {o_playMove : DD → Int32 → Int32 → Int32 → Int32 → (Int32 → DD → Prop) → Prop} {f0 q0 f_playMove q_playMove : Nat} {X : CT} {w : WO} (C : CF X w (lim0 w) 9 cX1_play RX1 (some .int) (.code yX1_play cX1_play 9 (some .int)) (rmK f0 q0)) {T : TXT} {z : EXa} (hL : LyX w T z) (hr0 : 2 ≤ f0 ∧ 45 ≤ q0) (hr_playMove : f_playMove + 1 ≤ f0 ∧ 8 + (7 + 11) + q_playMove ≤ q0) (ho_playMove : ∀ (σ : DD) (a1 : Int32) (a2 : Int32) (a3 : Int32) (a4 : Int32) (post : Int32 → DD → Prop), o_playMove σ a1 a2 a3 a4 post → MI X.l w yX1_playMove cX1_playMove 7 .int (rmK f_playMove q_playMove) σ [.ref (wAd w 70), .int a1, .int a2, .int a3, .int a4] post) {post : Int32 → DD → Prop} {a1 : Int32} {a2 : Int32} {a3 : Int32} {t0 : Int32} {σ : DD} (h : w_Morn_play_j47 T o_playMove post σ a1 a2 a3 t0) : gW X w (lim0 w) 9 (QI X w post) σ 47 [(0, .ref (wAd w 70)), (1, .int a1), (2, .int a2), (3, .int a3)] [.int t0] := by
  unfold w_Morn_play_j47 at h
  refine r_istore C [(4, .int t0), (0, .ref (wAd w 70)), (1, .int a1), (2, .int a2), (3, .int a3)] rfl rfl (dk_at dk_Morn_play_0 26 rfl) ?_
  refine r_iload C 0 rfl (dk_at dk_Morn_play_0 27 rfl) ?_
  refine r_if_eq C 59 rfl (dk_at dk_Morn_play_0 28 rfl) (fun c20 => ?_) (fun c20 => ?_)
  · replace h := h.1 c20
    refine r_bipush C 99 (dk_at dk_Morn_play_0 31 rfl) ?_
    refine r_lv [1, 2, 3, 4, 0] rfl ?_
    exact t_Morn_play_j61 C hL hr0 hr_playMove ho_playMove h
  · replace h := h.2 c20
    refine r_bipush C (-99) (dk_at dk_Morn_play_0 29 rfl) ?_
    refine r_goto C 61 rfl (dk_at dk_Morn_play_0 30 rfl) ?_
    refine r_lv [1, 2, 3, 4, 0] rfl ?_
    exact t_Morn_play_j61 C hL hr0 hr_playMove ho_playMove h
set_option maxRecDepth 20000 in
theorem m_Morn_play_o {l : Launch} {w : WO} {T : TXT} {z : EXa} (hL : LyX w T z) {o_playMove : DD → Int32 → Int32 → Int32 → Int32 → (Int32 → DD → Prop) → Prop} {f0 q0 f_playMove q_playMove : Nat} (hr0 : 2 ≤ f0 ∧ 45 ≤ q0) (hr_playMove : f_playMove + 1 ≤ f0 ∧ 8 + (7 + 11) + q_playMove ≤ q0) (ho_playMove : ∀ (σ : DD) (a1 : Int32) (a2 : Int32) (a3 : Int32) (a4 : Int32) (post : Int32 → DD → Prop), o_playMove σ a1 a2 a3 a4 post → MI l w yX1_playMove cX1_playMove 7 .int (rmK f_playMove q_playMove) σ [.ref (wAd w 70), .int a1, .int a2, .int a3, .int a4] post) {σ : DD} {a1 : Int32} {a2 : Int32} {a3 : Int32} {post : Int32 → DD → Prop} (h : w_Morn_play_o T o_playMove σ a1 a2 a3 post) : MI l w yX1_play cX1_play 9 .int (rmK f0 q0) σ [.ref (wAd w 70), .int a1, .int a2, .int a3] post :=
  met_head (rt := (some .int)) (by decide) rfl (fun X hX C => by
  subst hX
  unfold w_Morn_play_o at h
  show gW X w (lim0 w) 9 (QI X w post) σ 0 [(0, .ref (wAd w 70)), (1, .int a1), (2, .int a2), (3, .int a3)] []
  refine r_iload_n C 1 rfl (dk_at dk_Morn_play_0 0 rfl) ?_
  refine r_aload_n C 0 rfl (dk_at dk_Morn_play_0 1 rfl) ?_
  refine r_getI C fl_Morn_63 70 (hL.1 70 _ rfl) rfl (dk_at dk_Morn_play_0 2 rfl) ?_
  refine r_icmp_lt C 36 rfl (dk_at dk_Morn_play_0 3 rfl) (fun c21 => ?_) (fun c21 => ?_)
  · replace h := h.1 c21
    refine r_iload_n C 1 rfl (dk_at dk_Morn_play_0 19 rfl) ?_
    refine r_iconst C 2 (dk_at dk_Morn_play_0 20 rfl) ?_
    refine r_irem C (by decide) (dk_at dk_Morn_play_0 21 rfl) ?_
    refine r_if_ne C 46 rfl (dk_at dk_Morn_play_0 22 rfl) (fun c22 => ?_) (fun c22 => ?_)
    · replace h := h.1 c22
      refine r_iconst C 0 (dk_at dk_Morn_play_0 25 rfl) ?_
      refine r_lv [0, 1, 2, 3] rfl ?_
      exact t_Morn_play_j47 C hL hr0 hr_playMove ho_playMove h
    · replace h := h.2 c22
      refine r_iconst C 1 (dk_at dk_Morn_play_0 23 rfl) ?_
      refine r_goto C 47 rfl (dk_at dk_Morn_play_0 24 rfl) ?_
      refine r_lv [0, 1, 2, 3] rfl ?_
      exact t_Morn_play_j47 C hL hr0 hr_playMove ho_playMove h
  · replace h := h.2 c21
    refine r_aload_n C 0 rfl (dk_at dk_Morn_play_0 4 rfl) ?_
    refine r_cvI C cl_Morn_95 70 (hL.1 70 _ rfl) [] (m_Morn_heldInTheEnd hL h) (rmK_ok2 (f := f0) (q := q0) (f' := 0) (q' := 0) (by omega) (by omega)) rfl rfl (Nat.le_of_ble_eq_true rfl) (dk_at dk_Morn_play_0 5 rfl) (fun r23 σ24 h => ?_)
    refine r_istore C [(4, .int r23), (0, .ref (wAd w 70)), (1, .int a1), (2, .int a2), (3, .int a3)] rfl rfl (dk_at dk_Morn_play_0 6 rfl) ?_
    refine r_iload C 0 rfl (dk_at dk_Morn_play_0 7 rfl) ?_
    refine r_aload_n C 1 rfl (dk_at dk_Morn_play_0 8 rfl) ?_
    refine r_getI C fl_Morn_57 70 (hL.1 70 _ rfl) rfl (dk_at dk_Morn_play_0 9 rfl) ?_
    refine r_iand C (dk_at dk_Morn_play_0 10 rfl) ?_
    refine r_csI C cs_Morn_99 [.int (r23 &&& (gI σ24 70 8))] (m_J6_bitCount_0f7a4 hL h) (rmK_ok2 (f := f0) (q := q0) (f' := 0) (q' := 0) (by omega) (by omega)) rfl rfl (Nat.le_of_ble_eq_true rfl) (dk_at dk_Morn_play_0 11 rfl) (fun r25 σ26 h => ?_)
    refine r_iload C 0 rfl (dk_at dk_Morn_play_0 12 rfl) ?_
    refine r_aload_n C 1 rfl (dk_at dk_Morn_play_0 13 rfl) ?_
    refine r_getI C fl_Morn_60 70 (hL.1 70 _ rfl) rfl (dk_at dk_Morn_play_0 14 rfl) ?_
    refine r_iand C (dk_at dk_Morn_play_0 15 rfl) ?_
    refine r_csI C cs_Morn_99 [.int (r23 &&& (gI σ26 70 9))] (m_J6_bitCount_0f7a4 hL h) (rmK_ok2 (f := f0) (q := q0) (f' := 0) (q' := 0) (by omega) (by omega)) rfl rfl (Nat.le_of_ble_eq_true rfl) (dk_at dk_Morn_play_0 16 rfl) (fun r27 σ28 h => ?_)
    refine r_isub C (dk_at dk_Morn_play_0 17 rfl) ?_
    exact r_iret C h (dk_at dk_Morn_play_0 18 rfl)
  )
set_option maxRecDepth 20000 in
theorem m_Morn_playMove_o {l : Launch} {w : WO} {T : TXT} {z : EXa} (hL : LyX w T z) {o_play : DD → Int32 → Int32 → Int32 → (Int32 → DD → Prop) → Prop} {f0 q0 f_play q_play : Nat} (hr0 : 0 ≤ f0 ∧ 0 ≤ q0) (hr_play : f_play + 1 ≤ f0 ∧ 8 + (9 + 11) + q_play ≤ q0) (ho_play : ∀ (σ : DD) (a1 : Int32) (a2 : Int32) (a3 : Int32) (post : Int32 → DD → Prop), o_play σ a1 a2 a3 post → MI l w yX1_play cX1_play 9 .int (rmK f_play q_play) σ [.ref (wAd w 70), .int a1, .int a2, .int a3] post) {σ : DD} {a1 : Int32} {a2 : Int32} {a3 : Int32} {a4 : Int32} {post : Int32 → DD → Prop} (h : w_Morn_playMove_o T o_play σ a1 a2 a3 a4 post) : MI l w yX1_playMove cX1_playMove 7 .int (rmK f0 q0) σ [.ref (wAd w 70), .int a1, .int a2, .int a3, .int a4] post :=
  met_head (rt := (some .int)) (by decide) rfl (fun X hX C => by
  subst hX
  unfold w_Morn_playMove_o at h
  show gW X w (lim0 w) 7 (QI X w post) σ 0 [(0, .ref (wAd w 70)), (1, .int a1), (2, .int a2), (3, .int a3), (4, .int a4)] []
  refine r_iload_n C 2 rfl (dk_at dk_Morn_playMove_0 0 rfl) ?_
  refine r_iconst C (-1) (dk_at dk_Morn_playMove_0 1 rfl) ?_
  refine r_icmp_ne C 16 rfl (dk_at dk_Morn_playMove_0 2 rfl) (fun c1 => ?_) (fun c1 => ?_)
  · replace h := h.1 c1
    refine r_aload_n C 0 rfl (dk_at dk_Morn_playMove_0 11 rfl) ?_
    refine r_getR C fl_Morn_9 70 (hL.1 70 _ rfl) rfl (dk_at dk_Morn_playMove_0 12 rfl) ?_
    refine r_iload_n C 2 rfl (dk_at dk_Morn_playMove_0 13 rfl) ?_
    obtain ⟨q2, h⟩ := h
    refine r_iald C 73 (hL.1 73 _ rfl) q2 (dk_at dk_Morn_playMove_0 14 rfl) ?_
    refine r_topi (fun v3 e4 => ?_)
    replace h := h v3 e4
    refine r_istore C [(5, .int v3), (0, .ref (wAd w 70)), (1, .int a1), (2, .int a2), (3, .int a3), (4, .int a4)] rfl rfl (dk_at dk_Morn_playMove_0 15 rfl) ?_
    refine r_aload_n C 1 rfl (dk_at dk_Morn_playMove_0 16 rfl) ?_
    refine r_getR C fl_Morn_9 70 (hL.1 70 _ rfl) rfl (dk_at dk_Morn_playMove_0 17 rfl) ?_
    refine r_iload_n C 3 rfl (dk_at dk_Morn_playMove_0 18 rfl) ?_
    refine r_aload_n C 1 rfl (dk_at dk_Morn_playMove_0 19 rfl) ?_
    refine r_getI C fl_Morn_71 70 (hL.1 70 _ rfl) rfl (dk_at dk_Morn_playMove_0 20 rfl) ?_
    refine r_iload_n C 2 rfl (dk_at dk_Morn_playMove_0 21 rfl) ?_
    refine r_iadd C (dk_at dk_Morn_playMove_0 22 rfl) ?_
    refine r_aload_n C 1 rfl (dk_at dk_Morn_playMove_0 23 rfl) ?_
    refine r_getR C fl_Morn_18 70 (hL.1 70 _ rfl) rfl (dk_at dk_Morn_playMove_0 24 rfl) ?_
    refine r_iload_n C 2 rfl (dk_at dk_Morn_playMove_0 25 rfl) ?_
    refine r_bipush C 8 (dk_at dk_Morn_playMove_0 26 rfl) ?_
    refine r_imul C (dk_at dk_Morn_playMove_0 27 rfl) ?_
    refine r_iload_n C 3 rfl (dk_at dk_Morn_playMove_0 28 rfl) ?_
    refine r_iadd C (dk_at dk_Morn_playMove_0 29 rfl) ?_
    obtain ⟨q5, h⟩ := h
    refine r_iald C 75 (hL.1 75 _ rfl) q5 (dk_at dk_Morn_playMove_0 30 rfl) ?_
    refine r_iadd C (dk_at dk_Morn_playMove_0 31 rfl) ?_
    obtain ⟨q8, h⟩ := h
    refine r_iast C 73 (hL.1 73 _ rfl) q8 (dk_at dk_Morn_playMove_0 32 rfl) (r_sg (fun σ6 e7 => ?_))
    replace h := h σ6 e7
    refine r_aload_n C 1 rfl (dk_at dk_Morn_playMove_0 33 rfl) ?_
    refine r_iload_n C 2 rfl (dk_at dk_Morn_playMove_0 34 rfl) ?_
    refine r_iconst C 1 (dk_at dk_Morn_playMove_0 35 rfl) ?_
    refine r_iadd C (dk_at dk_Morn_playMove_0 36 rfl) ?_
    refine r_iload_n C 4 rfl (dk_at dk_Morn_playMove_0 37 rfl) ?_
    refine r_iload C 5 rfl (dk_at dk_Morn_playMove_0 38 rfl) ?_
    refine r_cvI C cl_Morn_53 70 (hL.1 70 _ rfl) [.int (a1 + 1), .int a3, .int a4] (ho_play _ _ _ _ _ h) (rmK_ok2 hr_play.1 hr_play.2) rfl rfl (Nat.le_of_ble_eq_true rfl) (dk_at dk_Morn_playMove_0 39 rfl) (fun r9 σ10 h => ?_)
    refine r_istore C [(6, .int r9), (5, .int v3), (0, .ref (wAd w 70)), (1, .int a1), (2, .int a2), (3, .int a3), (4, .int a4)] rfl rfl (dk_at dk_Morn_playMove_1 0 rfl) ?_
    refine r_aload_n C 2 rfl (dk_at dk_Morn_playMove_1 1 rfl) ?_
    refine r_getR C fl_Morn_9 70 (hL.1 70 _ rfl) rfl (dk_at dk_Morn_playMove_1 2 rfl) ?_
    refine r_iload_n C 4 rfl (dk_at dk_Morn_playMove_1 3 rfl) ?_
    refine r_iload C 1 rfl (dk_at dk_Morn_playMove_1 4 rfl) ?_
    obtain ⟨q13, h⟩ := h
    refine r_iast C 73 (hL.1 73 _ rfl) q13 (dk_at dk_Morn_playMove_1 5 rfl) (r_sg (fun σ11 e12 => ?_))
    replace h := h σ11 e12
    refine r_iload C 0 rfl (dk_at dk_Morn_playMove_1 6 rfl) ?_
    exact r_iret C h (dk_at dk_Morn_playMove_1 7 rfl)
  · replace h := h.2 c1
    refine r_aload_n C 0 rfl (dk_at dk_Morn_playMove_0 3 rfl) ?_
    refine r_iload_n C 1 rfl (dk_at dk_Morn_playMove_0 4 rfl) ?_
    refine r_iconst C 1 (dk_at dk_Morn_playMove_0 5 rfl) ?_
    refine r_iadd C (dk_at dk_Morn_playMove_0 6 rfl) ?_
    refine r_iload_n C 3 rfl (dk_at dk_Morn_playMove_0 7 rfl) ?_
    refine r_iload C 4 rfl (dk_at dk_Morn_playMove_0 8 rfl) ?_
    refine r_cvI C cl_Morn_53 70 (hL.1 70 _ rfl) [.int (a1 + 1), .int a3, .int a4] (ho_play _ _ _ _ _ h) (rmK_ok2 hr_play.1 hr_play.2) rfl rfl (Nat.le_of_ble_eq_true rfl) (dk_at dk_Morn_playMove_0 9 rfl) (fun r14 σ15 h => ?_)
    exact r_iret C h (dk_at dk_Morn_playMove_0 10 rfl)
  )
set_option maxRecDepth 20000 in
theorem m_Morn_play_d {l : Launch} {w : WO} {T : TXT} {z : EXa} (hL : LyX w T z) : ∀ d : Nat, ∀ (σ : DD) (a1 : Int32) (a2 : Int32) (a3 : Int32) (post : Int32 → DD → Prop), w_Morn_play_d T d σ a1 a2 a3 post → MI l w yX1_play cX1_play 9 .int (rmK (2 + 2 * d) (45 + 54 * d)) σ [.ref (wAd w 70), .int a1, .int a2, .int a3] post := by
  intro d
  induction d with
  | zero => exact fun _ _ _ _ _ h => h.elim
  | succ n ih =>
    rw [show 2 + 2 * (n + 1) = 2 + 2 * n + 2 by omega, show 45 + 54 * (n + 1) = 45 + 54 * n + 54 by omega]
    exact (fun _ _ _ _ _ h => m_Morn_play_o hL (f0 := 2 + 2 * n + 2) (q0 := 45 + 54 * n + 54) (f_playMove := 2 + 2 * n + 1) (q_playMove := 45 + 54 * n + 28) (by omega) (by omega) (fun _ _ _ _ _ _ h => m_Morn_playMove_o hL (f0 := 2 + 2 * n + 1) (q0 := 45 + 54 * n + 28) (f_play := 2 + 2 * n + 0) (q_play := 45 + 54 * n + 0) (by omega) (by omega) ih h) h)
set_option maxRecDepth 20000 in
theorem m_Morn_play {l : Launch} {w : WO} {T : TXT} {z : EXa} (hL : LyX w T z) {σ : DD} {a1 : Int32} {a2 : Int32} {a3 : Int32} {post : Int32 → DD → Prop} (h : w_Morn_play T σ a1 a2 a3 post) : MI l w yX1_play cX1_play 9 .int (rmK 26 693) σ [.ref (wAd w 70), .int a1, .int a2, .int a3] post :=
  m_Morn_play_d hL 12 _ _ _ _ _ h
set_option maxRecDepth 20000 in
theorem t_Morn_playOut_j34 {X : CT} {w : WO} (C : CF X w (lim0 w) 7 cX1_playOut RX1 (some .int) (.code yX1_playOut cX1_playOut 7 (some .int)) (rmK 27 721)) {T : TXT} {z : EXa} (hL : LyX w T z) {K11 : DD → Int32 → Prop} {post : Int32 → DD → Prop} {a3 : Int32} {a4 : Int32} {a5 : Int32} {a6 : Int32} {t1 : Int32} {t2 : Int32} (k11 : ∀ (σ : DD) (a6 : Int32), K11 σ a6 → gW X w (lim0 w) 7 (QI X w post) σ 11 [(0, .ref (wAd w 70)), (3, .int a3), (4, .int a4), (5, .int a5), (6, .int a6)] []) {σ : DD} (h : w_Morn_playOut_j34 T K11 post σ a3 a4 a5 a6 t1 t2) : gW X w (lim0 w) 7 (QI X w post) σ 34 [(0, .ref (wAd w 70)), (3, .int a3), (4, .int a4), (5, .int a5), (6, .int a6)] [.int t2, .int t1, .ref (wAd w 70)] := by
  unfold w_Morn_playOut_j34 at h
  refine r_cvV C cl_Morn_39 70 (hL.1 70 _ rfl) [.int t1, .int t2] (m_Morn_lookAhead hL h) (rmK_ok rfl rfl) rfl rfl (Nat.le_of_ble_eq_true rfl) (dk_at dk_Morn_playOut_0 19 rfl) (fun σ2 h => ?_)
  refine r_iinc C 4 rfl rfl [(6, .int (a6 + 1)), (0, .ref (wAd w 70)), (3, .int a3), (4, .int a4), (5, .int a5)] rfl rfl (dk_at dk_Morn_playOut_0 20 rfl) ?_
  refine r_goto C 11 rfl (dk_at dk_Morn_playOut_0 21 rfl) ?_
  refine r_lv [1, 2, 3, 4, 0] rfl ?_
  exact k11 _ _ h
set_option maxRecDepth 20000 in
theorem t_Morn_playOut_b11 {X : CT} {w : WO} (C : CF X w (lim0 w) 7 cX1_playOut RX1 (some .int) (.code yX1_playOut cX1_playOut 7 (some .int)) (rmK 27 721)) {T : TXT} {z : EXa} (hL : LyX w T z) {a3 : Int32} {a4 : Int32} {a5 : Int32} {K11 : DD → Int32 → Prop} {post : Int32 → DD → Prop} (k11 : ∀ (σ : DD) (a6 : Int32), K11 σ a6 → gW X w (lim0 w) 7 (QI X w post) σ 11 [(0, .ref (wAd w 70)), (3, .int a3), (4, .int a4), (5, .int a5), (6, .int a6)] []) {σ : DD} {a6 : Int32} (h : w_Morn_playOut_b11 T a3 a4 a5 K11 post σ a6) : gW X w (lim0 w) 7 (QI X w post) σ 11 [(0, .ref (wAd w 70)), (3, .int a3), (4, .int a4), (5, .int a5), (6, .int a6)] [] := by
  unfold w_Morn_playOut_b11 at h
  refine r_iload C 4 rfl (dk_at dk_Morn_playOut_0 7 rfl) ?_
  refine r_iload C 3 rfl (dk_at dk_Morn_playOut_0 8 rfl) ?_
  refine r_icmp_ge C 43 rfl (dk_at dk_Morn_playOut_0 9 rfl) (fun c3 => ?_) (fun c3 => ?_)
  · replace h := h.1 c3
    refine r_aload_n C 0 rfl (dk_at dk_Morn_playOut_0 22 rfl) ?_
    refine r_iconst C 0 (dk_at dk_Morn_playOut_0 23 rfl) ?_
    refine r_bipush C (-99) (dk_at dk_Morn_playOut_0 24 rfl) ?_
    refine r_bipush C 99 (dk_at dk_Morn_playOut_0 25 rfl) ?_
    refine r_cvI C cl_Morn_53 70 (hL.1 70 _ rfl) [.int 0, .int (-99), .int 99] (m_Morn_play hL h) (rmK_ok rfl rfl) rfl rfl (Nat.le_of_ble_eq_true rfl) (dk_at dk_Morn_playOut_0 26 rfl) (fun r4 σ5 h => ?_)
    exact r_iret C h (dk_at dk_Morn_playOut_0 27 rfl)
  · replace h := h.2 c3
    refine r_aload_n C 0 rfl (dk_at dk_Morn_playOut_0 10 rfl) ?_
    refine r_iload C 4 rfl (dk_at dk_Morn_playOut_0 11 rfl) ?_
    refine r_iload C 4 rfl (dk_at dk_Morn_playOut_0 12 rfl) ?_
    refine r_iconst C 2 (dk_at dk_Morn_playOut_0 13 rfl) ?_
    refine r_irem C (by decide) (dk_at dk_Morn_playOut_0 14 rfl) ?_
    refine r_if_ne C 32 rfl (dk_at dk_Morn_playOut_0 15 rfl) (fun c6 => ?_) (fun c6 => ?_)
    · replace h := h.1 c6
      refine r_iload C 2 rfl (dk_at dk_Morn_playOut_0 18 rfl) ?_
      refine r_lv [0, 1, 2, 3, 4] rfl ?_
      exact t_Morn_playOut_j34 C hL k11 h
    · replace h := h.2 c6
      refine r_iload_n C 1 rfl (dk_at dk_Morn_playOut_0 16 rfl) ?_
      refine r_goto C 34 rfl (dk_at dk_Morn_playOut_0 17 rfl) ?_
      refine r_lv [0, 1, 2, 3, 4] rfl ?_
      exact t_Morn_playOut_j34 C hL k11 h
set_option maxRecDepth 20000 in
theorem t_Morn_playOut_l11 {X : CT} {w : WO} (C : CF X w (lim0 w) 7 cX1_playOut RX1 (some .int) (.code yX1_playOut cX1_playOut 7 (some .int)) (rmK 27 721)) {T : TXT} {z : EXa} (hL : LyX w T z) {a3 : Int32} {a4 : Int32} {a5 : Int32} {post : Int32 → DD → Prop} {σ : DD} {a6 : Int32} (h : w_Morn_playOut_l11 T post σ a3 a4 a5 a6) : gW X w (lim0 w) 7 (QI X w post) σ 11 [(0, .ref (wAd w 70)), (3, .int a3), (4, .int a4), (5, .int a5), (6, .int a6)] [] :=
  LoopW (G := fun x : DD × Int32 => gW X w (lim0 w) 7 (QI X w post) x.1 11 [(0, .ref (wAd w 70)), (3, .int a3), (4, .int a4), (5, .int a5), (6, .int x.2)] []) (fun K x hK hF => t_Morn_playOut_b11 C hL (fun σ a6 q => hK (σ, a6) q) hF) h
set_option maxRecDepth 20000 in
theorem m_Morn_playOut {l : Launch} {w : WO} {T : TXT} {z : EXa} (hL : LyX w T z) {σ : DD} {a1 : Int32} {a2 : Int32} {a3 : Int32} {a4 : Int32} {a5 : Int32} {post : Int32 → DD → Prop} (h : w_Morn_playOut T σ a1 a2 a3 a4 a5 post) : MI l w yX1_playOut cX1_playOut 7 .int (rmK 27 721) σ [.ref (wAd w 70), .int a1, .int a2, .int a3, .int a4, .int a5] post :=
  met_head (rt := (some .int)) (by decide) rfl (fun X hX C => by
  subst hX
  unfold w_Morn_playOut at h
  show gW X w (lim0 w) 7 (QI X w post) σ 0 [(0, .ref (wAd w 70)), (1, .int a1), (2, .int a2), (3, .int a3), (4, .int a4), (5, .int a5)] []
  refine r_aload_n C 0 rfl (dk_at dk_Morn_playOut_0 0 rfl) ?_
  refine r_iload_n C 1 rfl (dk_at dk_Morn_playOut_0 1 rfl) ?_
  refine r_iload_n C 2 rfl (dk_at dk_Morn_playOut_0 2 rfl) ?_
  refine r_iload C 5 rfl (dk_at dk_Morn_playOut_0 3 rfl) ?_
  refine r_cvV C cl_Morn_35 70 (hL.1 70 _ rfl) [.int a1, .int a2, .int a5] (m_Morn_prepare hL h) (rmK_ok rfl rfl) rfl rfl (Nat.le_of_ble_eq_true rfl) (dk_at dk_Morn_playOut_0 4 rfl) (fun σ8 h => ?_)
  refine r_iconst C 0 (dk_at dk_Morn_playOut_0 5 rfl) ?_
  refine r_istore C [(6, .int 0), (0, .ref (wAd w 70)), (1, .int a1), (2, .int a2), (3, .int a3), (4, .int a4), (5, .int a5)] rfl rfl (dk_at dk_Morn_playOut_0 6 rfl) ?_
  refine r_lv [1, 4, 5, 6, 0] rfl ?_
  exact t_Morn_playOut_l11 C hL h
  )
set_option maxRecDepth 20000 in
theorem m_Real_daysSince {l : Launch} {w : WO} {T : TXT} {z : EXa} (hL : LyX w T z) {σ : DD} {a1 : Int32} {a2 : Int32} {post : Int32 → DD → Prop} (h : w_Real_daysSince T σ a1 a2 post) : MI l w yX5_daysSince cX5_daysSince 4 .int (rmK 1 23) σ [.ref (wAd w 200), .int a1, .int a2] post :=
  met_head (rt := (some .int)) (by decide) rfl (fun X hX C => by
  subst hX
  unfold w_Real_daysSince at h
  show gW X w (lim0 w) 4 (QI X w post) σ 0 [(0, .ref (wAd w 200)), (1, .int a1), (2, .int a2)] []
  refine r_aload_n C 0 rfl (dk_at dk_Real_daysSince_0 0 rfl) ?_
  refine r_iload_n C 1 rfl (dk_at dk_Real_daysSince_0 1 rfl) ?_
  refine r_iload_n C 2 rfl (dk_at dk_Real_daysSince_0 2 rfl) ?_
  refine r_cvI C cl_Real_96 200 (hL.1 200 _ rfl) [.int a1, .int a2] (m_Real_latestTold hL h) (rmK_ok rfl rfl) rfl rfl (Nat.le_of_ble_eq_true rfl) (dk_at dk_Real_daysSince_0 3 rfl) (fun r1 σ2 h => ?_)
  refine r_istore_n C [(3, .int r1), (0, .ref (wAd w 200)), (1, .int a1), (2, .int a2)] rfl rfl (dk_at dk_Real_daysSince_0 4 rfl) ?_
  refine r_iload_n C 0 rfl (dk_at dk_Real_daysSince_0 5 rfl) ?_
  refine r_iconst C (-1) (dk_at dk_Real_daysSince_0 6 rfl) ?_
  refine r_icmp_ne C 16 rfl (dk_at dk_Real_daysSince_0 7 rfl) (fun c3 => ?_) (fun c3 => ?_)
  · replace h := h.1 c3
    refine r_iload_n C 3 rfl (dk_at dk_Real_daysSince_0 10 rfl) ?_
    refine r_aload_n C 1 rfl (dk_at dk_Real_daysSince_0 11 rfl) ?_
    refine r_getR C fl_Real_36 200 (hL.1 200 _ rfl) rfl (dk_at dk_Real_daysSince_0 12 rfl) ?_
    refine r_iload_n C 0 rfl (dk_at dk_Real_daysSince_0 13 rfl) ?_
    obtain ⟨q4, h⟩ := h
    refine r_iald C 212 (hL.1 212 _ rfl) q4 (dk_at dk_Real_daysSince_0 14 rfl) ?_
    refine r_isub C (dk_at dk_Real_daysSince_0 15 rfl) ?_
    exact r_iret C h (dk_at dk_Real_daysSince_0 16 rfl)
  · replace h := h.2 c3
    refine r_iconst C (-1) (dk_at dk_Real_daysSince_0 8 rfl) ?_
    refine r_goto C 24 rfl (dk_at dk_Real_daysSince_0 9 rfl) ?_
    exact r_iret C h (dk_at dk_Real_daysSince_0 16 rfl)
  )
set_option maxRecDepth 20000 in
theorem t_Ord_loadWords_j157 {X : CT} {w : WO} (C : CF X w (lim0 w) 4 cX2_loadWords RX2 none (.code yX2_loadWords cX2_loadWords 4 none) (rmK 4 120)) {T : TXT} {z : EXa} (hL : LyX w T z) {K109 : DD → Int32 → Prop} {post : DD → Prop} {a1 : Int32} {a2 : Int32} {a3 : Int32} {t1 : Int32} {t2 : Int32} (k109 : ∀ (σ : DD) (a3 : Int32), K109 σ a3 → gW X w (lim0 w) 4 (QV X w post) σ 109 [(0, .ref (wAd w 60)), (1, .int a1), (2, .int a2), (3, .int a3)] []) {σ : DD} (h : w_Ord_loadWords_j157 T K109 post σ a1 a2 a3 t1 t2) : gW X w (lim0 w) 4 (QV X w post) σ 157 [(0, .ref (wAd w 60)), (1, .int a1), (2, .int a2), (3, .int a3)] [.int t2, .int t1, .ref (wAd w 63)] := by
  unfold w_Ord_loadWords_j157 at h
  obtain ⟨q3, h⟩ := h
  refine r_iast C 63 (hL.1 63 _ rfl) q3 (dk_at dk_Ord_loadWords_2 16 rfl) (r_sg (fun σ1 e2 => ?_))
  replace h := h σ1 e2
  refine r_iinc C 3 rfl rfl [(3, .int (a3 + 1)), (0, .ref (wAd w 60)), (1, .int a1), (2, .int a2)] rfl rfl (dk_at dk_Ord_loadWords_2 17 rfl) ?_
  refine r_goto C 109 rfl (dk_at dk_Ord_loadWords_2 18 rfl) ?_
  refine r_lv [1, 2, 3, 0] rfl ?_
  exact k109 _ _ h
set_option maxRecDepth 20000 in
theorem t_Ord_loadWords_b109 {X : CT} {w : WO} (C : CF X w (lim0 w) 4 cX2_loadWords RX2 none (.code yX2_loadWords cX2_loadWords 4 none) (rmK 4 120)) {T : TXT} {z : EXa} (hL : LyX w T z) {a1 : Int32} {a2 : Int32} {K109 : DD → Int32 → Prop} {post : DD → Prop} (k109 : ∀ (σ : DD) (a3 : Int32), K109 σ a3 → gW X w (lim0 w) 4 (QV X w post) σ 109 [(0, .ref (wAd w 60)), (1, .int a1), (2, .int a2), (3, .int a3)] []) {σ : DD} {a3 : Int32} (h : w_Ord_loadWords_b109 T a1 a2 K109 post σ a3) : gW X w (lim0 w) 4 (QV X w post) σ 109 [(0, .ref (wAd w 60)), (1, .int a1), (2, .int a2), (3, .int a3)] [] := by
  unfold w_Ord_loadWords_b109 at h
  refine r_iload_n C 3 rfl (dk_at dk_Ord_loadWords_1 28 rfl) ?_
  refine r_iconst C 4 (dk_at dk_Ord_loadWords_1 29 rfl) ?_
  refine r_icmp_ge C 164 rfl (dk_at dk_Ord_loadWords_1 30 rfl) (fun c4 => ?_) (fun c4 => ?_)
  · replace h := h.1 c4
    exact r_vret C h (dk_at dk_Ord_loadWords_2 19 rfl)
  · replace h := h.2 c4
    refine r_iload_n C 1 rfl (dk_at dk_Ord_loadWords_1 31 rfl) ?_
    refine r_bipush C 12 (dk_at dk_Ord_loadWords_1 32 rfl) ?_
    refine r_iload_n C 3 rfl (dk_at dk_Ord_loadWords_1 33 rfl) ?_
    refine r_iadd C (dk_at dk_Ord_loadWords_1 34 rfl) ?_
    refine r_ishr C (dk_at dk_Ord_loadWords_1 35 rfl) ?_
    refine r_iconst C 1 (dk_at dk_Ord_loadWords_1 36 rfl) ?_
    refine r_iand C (dk_at dk_Ord_loadWords_1 37 rfl) ?_
    refine r_if_eq C 158 rfl (dk_at dk_Ord_loadWords_1 38 rfl) (fun c5 => ?_) (fun c5 => ?_)
    · replace h := h.1 c5
      refine r_iinc C 3 rfl rfl [(3, .int (a3 + 1)), (0, .ref (wAd w 60)), (1, .int a1), (2, .int a2)] rfl rfl (dk_at dk_Ord_loadWords_2 17 rfl) ?_
      refine r_goto C 109 rfl (dk_at dk_Ord_loadWords_2 18 rfl) ?_
      refine r_lv [1, 2, 3, 0] rfl ?_
      exact k109 _ _ h
    · replace h := h.2 c5
      refine r_aload_n C 0 rfl (dk_at dk_Ord_loadWords_1 39 rfl) ?_
      refine r_getR C fl_Ord_11 60 (hL.1 60 _ rfl) rfl (dk_at dk_Ord_loadWords_2 0 rfl) ?_
      refine r_bipush C 12 (dk_at dk_Ord_loadWords_2 1 rfl) ?_
      refine r_iload_n C 3 rfl (dk_at dk_Ord_loadWords_2 2 rfl) ?_
      refine r_iadd C (dk_at dk_Ord_loadWords_2 3 rfl) ?_
      refine r_aload_n C 0 rfl (dk_at dk_Ord_loadWords_2 4 rfl) ?_
      refine r_getR C fl_Ord_25 60 (hL.1 60 _ rfl) rfl (dk_at dk_Ord_loadWords_2 5 rfl) ?_
      refine r_iload_n C 3 rfl (dk_at dk_Ord_loadWords_2 6 rfl) ?_
      refine r_cvI C cl_Ord_92 200 (hL.1 200 _ rfl) [.int a3] (m_Real_isReader hL h) (rmK_ok rfl rfl) rfl rfl (Nat.le_of_ble_eq_true rfl) (dk_at dk_Ord_loadWords_2 7 rfl) (fun r6 σ7 h => ?_)
      refine r_if_eq C 156 rfl (dk_at dk_Ord_loadWords_2 8 rfl) (fun c8 => ?_) (fun c8 => ?_)
      · replace h := h.1 c8
        refine r_iconst C (-1) (dk_at dk_Ord_loadWords_2 15 rfl) ?_
        refine r_lv [0, 1, 2, 3] rfl ?_
        exact t_Ord_loadWords_j157 C hL k109 h
      · replace h := h.2 c8
        refine r_aload_n C 0 rfl (dk_at dk_Ord_loadWords_2 9 rfl) ?_
        refine r_getR C fl_Ord_29 60 (hL.1 60 _ rfl) rfl (dk_at dk_Ord_loadWords_2 10 rfl) ?_
        refine r_iload_n C 3 rfl (dk_at dk_Ord_loadWords_2 11 rfl) ?_
        refine r_iload_n C 2 rfl (dk_at dk_Ord_loadWords_2 12 rfl) ?_
        refine r_cvI C cl_Ord_96 50 (hL.1 50 _ rfl) [.int a3, .int a2] (m_Court_voiceLeft hL h) (rmK_ok rfl rfl) rfl rfl (Nat.le_of_ble_eq_true rfl) (dk_at dk_Ord_loadWords_2 13 rfl) (fun r9 σ10 h => ?_)
        refine r_goto C 157 rfl (dk_at dk_Ord_loadWords_2 14 rfl) ?_
        refine r_lv [0, 1, 2, 3] rfl ?_
        exact t_Ord_loadWords_j157 C hL k109 h
set_option maxRecDepth 20000 in
theorem t_Ord_loadWords_l109 {X : CT} {w : WO} (C : CF X w (lim0 w) 4 cX2_loadWords RX2 none (.code yX2_loadWords cX2_loadWords 4 none) (rmK 4 120)) {T : TXT} {z : EXa} (hL : LyX w T z) {a1 : Int32} {a2 : Int32} {post : DD → Prop} {σ : DD} {a3 : Int32} (h : w_Ord_loadWords_l109 T post σ a1 a2 a3) : gW X w (lim0 w) 4 (QV X w post) σ 109 [(0, .ref (wAd w 60)), (1, .int a1), (2, .int a2), (3, .int a3)] [] :=
  LoopW (G := fun x : DD × Int32 => gW X w (lim0 w) 4 (QV X w post) x.1 109 [(0, .ref (wAd w 60)), (1, .int a1), (2, .int a2), (3, .int x.2)] []) (fun K x hK hF => t_Ord_loadWords_b109 C hL (fun σ a3 q => hK (σ, a3) q) hF) h
set_option maxRecDepth 20000 in
theorem t_Ord_loadWords_b68 {X : CT} {w : WO} (C : CF X w (lim0 w) 4 cX2_loadWords RX2 none (.code yX2_loadWords cX2_loadWords 4 none) (rmK 4 120)) {T : TXT} {z : EXa} (hL : LyX w T z) {a1 : Int32} {a2 : Int32} {K68 : DD → Int32 → Prop} {post : DD → Prop} (k68 : ∀ (σ : DD) (a3 : Int32), K68 σ a3 → gW X w (lim0 w) 4 (QV X w post) σ 68 [(0, .ref (wAd w 60)), (1, .int a1), (2, .int a2), (3, .int a3)] []) {σ : DD} {a3 : Int32} (h : w_Ord_loadWords_b68 T a1 a2 K68 post σ a3) : gW X w (lim0 w) 4 (QV X w post) σ 68 [(0, .ref (wAd w 60)), (1, .int a1), (2, .int a2), (3, .int a3)] [] := by
  unfold w_Ord_loadWords_b68 at h
  refine r_iload_n C 3 rfl (dk_at dk_Ord_loadWords_1 2 rfl) ?_
  refine r_bipush C 8 (dk_at dk_Ord_loadWords_1 3 rfl) ?_
  refine r_icmp_ge C 107 rfl (dk_at dk_Ord_loadWords_1 4 rfl) (fun c11 => ?_) (fun c11 => ?_)
  · replace h := h.1 c11
    refine r_iconst C 0 (dk_at dk_Ord_loadWords_1 26 rfl) ?_
    refine r_istore_n C [(3, .int 0), (0, .ref (wAd w 60)), (1, .int a1), (2, .int a2)] rfl rfl (dk_at dk_Ord_loadWords_1 27 rfl) ?_
    refine r_lv [1, 2, 3, 0] rfl ?_
    exact t_Ord_loadWords_l109 C hL h
  · replace h := h.2 c11
    refine r_iload_n C 1 rfl (dk_at dk_Ord_loadWords_1 5 rfl) ?_
    refine r_iconst C 4 (dk_at dk_Ord_loadWords_1 6 rfl) ?_
    refine r_iload_n C 3 rfl (dk_at dk_Ord_loadWords_1 7 rfl) ?_
    refine r_iadd C (dk_at dk_Ord_loadWords_1 8 rfl) ?_
    refine r_ishr C (dk_at dk_Ord_loadWords_1 9 rfl) ?_
    refine r_iconst C 1 (dk_at dk_Ord_loadWords_1 10 rfl) ?_
    refine r_iand C (dk_at dk_Ord_loadWords_1 11 rfl) ?_
    refine r_if_eq C 101 rfl (dk_at dk_Ord_loadWords_1 12 rfl) (fun c12 => ?_) (fun c12 => ?_)
    · replace h := h.1 c12
      refine r_iinc C 3 rfl rfl [(3, .int (a3 + 1)), (0, .ref (wAd w 60)), (1, .int a1), (2, .int a2)] rfl rfl (dk_at dk_Ord_loadWords_1 24 rfl) ?_
      refine r_goto C 68 rfl (dk_at dk_Ord_loadWords_1 25 rfl) ?_
      refine r_lv [1, 2, 3, 0] rfl ?_
      exact k68 _ _ h
    · replace h := h.2 c12
      refine r_aload_n C 0 rfl (dk_at dk_Ord_loadWords_1 13 rfl) ?_
      refine r_getR C fl_Ord_11 60 (hL.1 60 _ rfl) rfl (dk_at dk_Ord_loadWords_1 14 rfl) ?_
      refine r_iconst C 4 (dk_at dk_Ord_loadWords_1 15 rfl) ?_
      refine r_iload_n C 3 rfl (dk_at dk_Ord_loadWords_1 16 rfl) ?_
      refine r_iadd C (dk_at dk_Ord_loadWords_1 17 rfl) ?_
      refine r_aload_n C 0 rfl (dk_at dk_Ord_loadWords_1 18 rfl) ?_
      refine r_getR C fl_Ord_25 60 (hL.1 60 _ rfl) rfl (dk_at dk_Ord_loadWords_1 19 rfl) ?_
      refine r_iload_n C 3 rfl (dk_at dk_Ord_loadWords_1 20 rfl) ?_
      refine r_iload_n C 2 rfl (dk_at dk_Ord_loadWords_1 21 rfl) ?_
      refine r_cvI C cl_Ord_89 200 (hL.1 200 _ rfl) [.int a3, .int a2] (m_Real_daysSince hL h) (rmK_ok rfl rfl) rfl rfl (Nat.le_of_ble_eq_true rfl) (dk_at dk_Ord_loadWords_1 22 rfl) (fun r13 σ14 h => ?_)
      obtain ⟨q17, h⟩ := h
      refine r_iast C 63 (hL.1 63 _ rfl) q17 (dk_at dk_Ord_loadWords_1 23 rfl) (r_sg (fun σ15 e16 => ?_))
      replace h := h σ15 e16
      refine r_iinc C 3 rfl rfl [(3, .int (a3 + 1)), (0, .ref (wAd w 60)), (1, .int a1), (2, .int a2)] rfl rfl (dk_at dk_Ord_loadWords_1 24 rfl) ?_
      refine r_goto C 68 rfl (dk_at dk_Ord_loadWords_1 25 rfl) ?_
      refine r_lv [1, 2, 3, 0] rfl ?_
      exact k68 _ _ h
set_option maxRecDepth 20000 in
theorem t_Ord_loadWords_l68 {X : CT} {w : WO} (C : CF X w (lim0 w) 4 cX2_loadWords RX2 none (.code yX2_loadWords cX2_loadWords 4 none) (rmK 4 120)) {T : TXT} {z : EXa} (hL : LyX w T z) {a1 : Int32} {a2 : Int32} {post : DD → Prop} {σ : DD} {a3 : Int32} (h : w_Ord_loadWords_l68 T post σ a1 a2 a3) : gW X w (lim0 w) 4 (QV X w post) σ 68 [(0, .ref (wAd w 60)), (1, .int a1), (2, .int a2), (3, .int a3)] [] :=
  LoopW (G := fun x : DD × Int32 => gW X w (lim0 w) 4 (QV X w post) x.1 68 [(0, .ref (wAd w 60)), (1, .int a1), (2, .int a2), (3, .int x.2)] []) (fun K x hK hF => t_Ord_loadWords_b68 C hL (fun σ a3 q => hK (σ, a3) q) hF) h
set_option maxRecDepth 20000 in
theorem t_Ord_loadWords_j45 {X : CT} {w : WO} (C : CF X w (lim0 w) 4 cX2_loadWords RX2 none (.code yX2_loadWords cX2_loadWords 4 none) (rmK 4 120)) {T : TXT} {z : EXa} (hL : LyX w T z) {post : DD → Prop} {a1 : Int32} {a2 : Int32} {t1 : Int32} {t2 : Int32} {σ : DD} (h : w_Ord_loadWords_j45 T post σ a1 a2 t1 t2) : gW X w (lim0 w) 4 (QV X w post) σ 45 [(0, .ref (wAd w 60)), (1, .int a1), (2, .int a2)] [.int t2, .int t1, .ref (wAd w 63)] := by
  unfold w_Ord_loadWords_j45 at h
  obtain ⟨q20, h⟩ := h
  refine r_iast C 63 (hL.1 63 _ rfl) q20 (dk_at dk_Ord_loadWords_0 27 rfl) (r_sg (fun σ18 e19 => ?_))
  replace h := h σ18 e19
  refine r_aload_n C 0 rfl (dk_at dk_Ord_loadWords_0 28 rfl) ?_
  refine r_getR C fl_Ord_11 60 (hL.1 60 _ rfl) rfl (dk_at dk_Ord_loadWords_0 29 rfl) ?_
  refine r_iconst C 2 (dk_at dk_Ord_loadWords_0 30 rfl) ?_
  refine r_aload_n C 0 rfl (dk_at dk_Ord_loadWords_0 31 rfl) ?_
  refine r_getI C fl_Ord_41 60 (hL.1 60 _ rfl) rfl (dk_at dk_Ord_loadWords_0 32 rfl) ?_
  refine r_iastK C 63 (hL.1 63 _ rfl) lk_2 vk_2_16 (dk_at dk_Ord_loadWords_0 33 rfl) (r_sg (fun σ21 e22 => ?_))
  replace h := h σ21 e22
  refine r_aload_n C 0 rfl (dk_at dk_Ord_loadWords_0 34 rfl) ?_
  refine r_getR C fl_Ord_11 60 (hL.1 60 _ rfl) rfl (dk_at dk_Ord_loadWords_0 35 rfl) ?_
  refine r_iconst C 3 (dk_at dk_Ord_loadWords_0 36 rfl) ?_
  refine r_aload_n C 0 rfl (dk_at dk_Ord_loadWords_0 37 rfl) ?_
  refine r_getI C fl_Ord_44 60 (hL.1 60 _ rfl) rfl (dk_at dk_Ord_loadWords_0 38 rfl) ?_
  refine r_iastK C 63 (hL.1 63 _ rfl) lk_3 vk_3_16 (dk_at dk_Ord_loadWords_0 39 rfl) (r_sg (fun σ23 e24 => ?_))
  replace h := h σ23 e24
  refine r_iconst C 0 (dk_at dk_Ord_loadWords_1 0 rfl) ?_
  refine r_istore_n C [(3, .int 0), (0, .ref (wAd w 60)), (1, .int a1), (2, .int a2)] rfl rfl (dk_at dk_Ord_loadWords_1 1 rfl) ?_
  refine r_lv [1, 2, 3, 0] rfl ?_
  exact t_Ord_loadWords_l68 C hL h
set_option maxRecDepth 20000 in
theorem m_Ord_loadWords {l : Launch} {w : WO} {T : TXT} {z : EXa} (hL : LyX w T z) {σ : DD} {a1 : Int32} {post : DD → Prop} (h : w_Ord_loadWords T σ a1 post) : MV l w yX2_loadWords cX2_loadWords 4 (rmK 4 120) σ [.ref (wAd w 60), .int a1] post :=
  met_head (rt := none) (by decide) rfl (fun X hX C => by
  subst hX
  unfold w_Ord_loadWords at h
  show gW X w (lim0 w) 4 (QV X w post) σ 0 [(0, .ref (wAd w 60)), (1, .int a1)] []
  refine r_aload_n C 0 rfl (dk_at dk_Ord_loadWords_0 0 rfl) ?_
  refine r_getR C fl_Ord_25 60 (hL.1 60 _ rfl) rfl (dk_at dk_Ord_loadWords_0 1 rfl) ?_
  refine r_getR C fl_Ord_38 200 (hL.1 200 _ rfl) rfl (dk_at dk_Ord_loadWords_0 2 rfl) ?_
  refine r_iconst C 0 (dk_at dk_Ord_loadWords_0 3 rfl) ?_
  refine r_ialdK C 208 (hL.1 208 _ rfl) lk_0 (vk_0_4) (dk_at dk_Ord_loadWords_0 4 rfl) ?_
  refine r_topi (fun v25 e26 => ?_)
  replace h := h v25 e26
  refine r_istore_n C [(2, .int v25), (0, .ref (wAd w 60)), (1, .int a1)] rfl rfl (dk_at dk_Ord_loadWords_0 5 rfl) ?_
  refine r_aload_n C 1 rfl (dk_at dk_Ord_loadWords_0 6 rfl) ?_
  refine r_getR C fl_Ord_11 60 (hL.1 60 _ rfl) rfl (dk_at dk_Ord_loadWords_0 7 rfl) ?_
  refine r_iconst C 0 (dk_at dk_Ord_loadWords_0 8 rfl) ?_
  refine r_iload_n C 0 rfl (dk_at dk_Ord_loadWords_0 9 rfl) ?_
  refine r_iastK C 63 (hL.1 63 _ rfl) lk_0 vk_0_16 (dk_at dk_Ord_loadWords_0 10 rfl) (r_sg (fun σ27 e28 => ?_))
  replace h := h σ27 e28
  refine r_aload_n C 1 rfl (dk_at dk_Ord_loadWords_0 11 rfl) ?_
  refine r_getR C fl_Ord_11 60 (hL.1 60 _ rfl) rfl (dk_at dk_Ord_loadWords_0 12 rfl) ?_
  refine r_iconst C 1 (dk_at dk_Ord_loadWords_0 13 rfl) ?_
  refine r_iload_n C 2 rfl (dk_at dk_Ord_loadWords_0 14 rfl) ?_
  refine r_iconst C 1 (dk_at dk_Ord_loadWords_0 15 rfl) ?_
  refine r_ishr C (dk_at dk_Ord_loadWords_0 16 rfl) ?_
  refine r_iconst C 1 (dk_at dk_Ord_loadWords_0 17 rfl) ?_
  refine r_iand C (dk_at dk_Ord_loadWords_0 18 rfl) ?_
  refine r_if_eq C 44 rfl (dk_at dk_Ord_loadWords_0 19 rfl) (fun c29 => ?_) (fun c29 => ?_)
  · replace h := h.1 c29
    refine r_iconst C 0 (dk_at dk_Ord_loadWords_0 26 rfl) ?_
    refine r_lv [1, 2, 0] rfl ?_
    exact t_Ord_loadWords_j45 C hL h
  · replace h := h.2 c29
    refine r_aload_n C 1 rfl (dk_at dk_Ord_loadWords_0 20 rfl) ?_
    refine r_getR C fl_Ord_29 60 (hL.1 60 _ rfl) rfl (dk_at dk_Ord_loadWords_0 21 rfl) ?_
    refine r_iload_n C 0 rfl (dk_at dk_Ord_loadWords_0 22 rfl) ?_
    refine r_cvI C cl_Ord_80 50 (hL.1 50 _ rfl) [.int v25] (m_Court_heldBits hL h) (rmK_ok rfl rfl) rfl rfl (Nat.le_of_ble_eq_true rfl) (dk_at dk_Ord_loadWords_0 23 rfl) (fun r30 σ31 h => ?_)
    refine r_csI C cs_Ord_84 [.int r30] (m_J6_bitCount_0f7a4 hL h) (rmK_ok rfl rfl) rfl rfl (Nat.le_of_ble_eq_true rfl) (dk_at dk_Ord_loadWords_0 24 rfl) (fun r32 σ33 h => ?_)
    refine r_goto C 45 rfl (dk_at dk_Ord_loadWords_0 25 rfl) ?_
    refine r_lv [1, 2, 0] rfl ?_
    exact t_Ord_loadWords_j45 C hL h
  )
set_option maxRecDepth 20000 in
theorem t_Ord_runOnce_j143 {X : CT} {w : WO} (C : CF X w (lim0 w) 8 cX2_runOnce RX2 (some .int) (.code yX2_runOnce cX2_runOnce 8 (some .int)) (rmK 5 145)) {T : TXT} {z : EXa} (hL : LyX w T z) {a1 : Nat} {m1 : Nat} {m2 : Nat} (hT : isT w a1 m1 m2) {post : Int32 → DD → Prop} {σ : DD} (h : w_Ord_runOnce_j143 T a1 m1 m2 post σ) : gW X w (lim0 w) 8 (QI X w post) σ 143 [(0, .ref (wAd w 60))] [] := by
  unfold w_Ord_runOnce_j143 at h
  refine r_aload_n C 0 rfl (dk_at dk_Ord_runOnce_1 38 rfl) ?_
  refine r_dup C rfl (dk_at dk_Ord_runOnce_1 39 rfl) ?_
  refine r_getI C fl_Ord_41 60 (hL.1 60 _ rfl) rfl (dk_at dk_Ord_runOnce_2 0 rfl) ?_
  refine r_iconst C 1 (dk_at dk_Ord_runOnce_2 1 rfl) ?_
  refine r_iadd C (dk_at dk_Ord_runOnce_2 2 rfl) ?_
  refine r_putI C fl_Ord_41 60 (hL.1 60 _ rfl) rfl (dk_at dk_Ord_runOnce_2 3 rfl) (r_sg (fun σ1 e2 => ?_))
  replace h := h σ1 e2
  refine r_iconst C 0 (dk_at dk_Ord_runOnce_2 4 rfl) ?_
  exact r_iret C h (dk_at dk_Ord_runOnce_2 5 rfl)
set_option maxRecDepth 20000 in
theorem m_Ord_runOnce {l : Launch} {w : WO} {T : TXT} {z : EXa} (hL : LyX w T z) {a1 : Nat} {m1 : Nat} {m2 : Nat} (hT : isT w a1 m1 m2) {σ : DD} {a2 : Int32} {post : Int32 → DD → Prop} (h : w_Ord_runOnce T a1 m1 m2 σ a2 post) : MI l w yX2_runOnce cX2_runOnce 8 .int (rmK 5 145) σ [.ref (wAd w 60), .ref (wAd w a1), .int a2] post :=
  met_head (rt := (some .int)) (by decide) rfl (fun X hX C => by
  subst hX
  unfold w_Ord_runOnce at h
  show gW X w (lim0 w) 8 (QI X w post) σ 0 [(0, .ref (wAd w 60)), (1, .ref (wAd w a1)), (2, .int a2)] []
  refine r_aload_n C 0 rfl (dk_at dk_Ord_runOnce_0 0 rfl) ?_
  refine r_aload_n C 1 rfl (dk_at dk_Ord_runOnce_0 1 rfl) ?_
  refine r_getI C fl_Ord_58 a1 hT.1 rfl (dk_at dk_Ord_runOnce_0 2 rfl) ?_
  refine r_cvV C cl_Ord_61 60 (hL.1 60 _ rfl) [.int (gI σ a1 1)] (m_Ord_loadWords hL h) (rmK_ok rfl rfl) rfl rfl (Nat.le_of_ble_eq_true rfl) (dk_at dk_Ord_runOnce_0 3 rfl) (fun σ4 h => ?_)
  refine r_aload_n C 1 rfl (dk_at dk_Ord_runOnce_0 4 rfl) ?_
  refine r_iload_n C 2 rfl (dk_at dk_Ord_runOnce_0 5 rfl) ?_
  refine r_iconst C 2 (dk_at dk_Ord_runOnce_0 6 rfl) ?_
  refine r_aload_n C 0 rfl (dk_at dk_Ord_runOnce_0 7 rfl) ?_
  refine r_getR C fl_Ord_11 60 (hL.1 60 _ rfl) rfl (dk_at dk_Ord_runOnce_0 8 rfl) ?_
  refine r_aload_n C 0 rfl (dk_at dk_Ord_runOnce_0 9 rfl) ?_
  refine r_getR C fl_Ord_17 60 (hL.1 60 _ rfl) rfl (dk_at dk_Ord_runOnce_0 10 rfl) ?_
  refine r_cvL C cl_Ord_65 a1 hT.1 [.int a2, .int 2, .ref (wAd w 63), .ref (wAd w 64)] (m_Text_valueOf hL hT (hL.1 63 _ rfl) (hL.1 64 _ rfl) h) (rmK_ok rfl rfl) rfl rfl (Nat.le_of_ble_eq_true rfl) (dk_at dk_Ord_runOnce_0 11 rfl) (fun r5 σ6 h => ?_)
  refine r_lconst C 1 (dk_at dk_Ord_runOnce_0 12 rfl) ?_
  refine r_lcmp C (dk_at dk_Ord_runOnce_0 13 rfl) ?_
  refine r_if_eq C 29 rfl (dk_at dk_Ord_runOnce_0 14 rfl) (fun c7 => ?_) (fun c7 => ?_)
  · replace h := h.1 c7
    refine r_aload_n C 1 rfl (dk_at dk_Ord_runOnce_0 17 rfl) ?_
    refine r_iload_n C 2 rfl (dk_at dk_Ord_runOnce_0 18 rfl) ?_
    refine r_iconst C 4 (dk_at dk_Ord_runOnce_0 19 rfl) ?_
    refine r_cvI C cl_Ord_50 a1 hT.1 [.int a2, .int 4] (m_Text_headOf hL hT h) (rmK_ok rfl rfl) rfl rfl (Nat.le_of_ble_eq_true rfl) (dk_at dk_Ord_runOnce_0 20 rfl) (fun r8 σ9 h => ?_)
    refine r_iconst C 1 (dk_at dk_Ord_runOnce_0 21 rfl) ?_
    refine r_icmp_ne C 52 rfl (dk_at dk_Ord_runOnce_0 22 rfl) (fun c10 => ?_) (fun c10 => ?_)
    · replace h := h.1 c10
      refine r_aload_n C 1 rfl (dk_at dk_Ord_runOnce_0 29 rfl) ?_
      refine r_iload_n C 2 rfl (dk_at dk_Ord_runOnce_0 30 rfl) ?_
      refine r_iconst C 0 (dk_at dk_Ord_runOnce_0 31 rfl) ?_
      refine r_aload_n C 0 rfl (dk_at dk_Ord_runOnce_0 32 rfl) ?_
      refine r_getR C fl_Ord_11 60 (hL.1 60 _ rfl) rfl (dk_at dk_Ord_runOnce_0 33 rfl) ?_
      refine r_aload_n C 0 rfl (dk_at dk_Ord_runOnce_0 34 rfl) ?_
      refine r_getR C fl_Ord_17 60 (hL.1 60 _ rfl) rfl (dk_at dk_Ord_runOnce_0 35 rfl) ?_
      refine r_cvL C cl_Ord_65 a1 hT.1 [.int a2, .int 0, .ref (wAd w 63), .ref (wAd w 64)] (m_Text_valueOf hL hT (hL.1 63 _ rfl) (hL.1 64 _ rfl) h) (rmK_ok rfl rfl) rfl rfl (Nat.le_of_ble_eq_true rfl) (dk_at dk_Ord_runOnce_0 36 rfl) (fun r11 σ12 h => ?_)
      refine r_lstore_n C [(3, .long r11), (0, .ref (wAd w 60)), (1, .ref (wAd w a1)), (2, .int a2)] rfl rfl (dk_at dk_Ord_runOnce_0 37 rfl) ?_
      refine r_aload_n C 2 rfl (dk_at dk_Ord_runOnce_0 38 rfl) ?_
      refine r_iload_n C 3 rfl (dk_at dk_Ord_runOnce_0 39 rfl) ?_
      refine r_iconst C 1 (dk_at dk_Ord_runOnce_1 0 rfl) ?_
      refine r_aload_n C 1 rfl (dk_at dk_Ord_runOnce_1 1 rfl) ?_
      refine r_getR C fl_Ord_11 60 (hL.1 60 _ rfl) rfl (dk_at dk_Ord_runOnce_1 2 rfl) ?_
      refine r_aload_n C 1 rfl (dk_at dk_Ord_runOnce_1 3 rfl) ?_
      refine r_getR C fl_Ord_17 60 (hL.1 60 _ rfl) rfl (dk_at dk_Ord_runOnce_1 4 rfl) ?_
      refine r_cvL C cl_Ord_65 a1 hT.1 [.int a2, .int 1, .ref (wAd w 63), .ref (wAd w 64)] (m_Text_valueOf hL hT (hL.1 63 _ rfl) (hL.1 64 _ rfl) h) (rmK_ok rfl rfl) rfl rfl (Nat.le_of_ble_eq_true rfl) (dk_at dk_Ord_runOnce_1 5 rfl) (fun r13 σ14 h => ?_)
      refine r_lstore C [(5, .long r13), (3, .long r11), (0, .ref (wAd w 60)), (1, .ref (wAd w a1)), (2, .int a2)] rfl rfl (dk_at dk_Ord_runOnce_1 6 rfl) ?_
      refine r_lload_n C 1 rfl (dk_at dk_Ord_runOnce_1 7 rfl) ?_
      refine r_ldc2 C tw_850 (dk_at dk_Ord_runOnce_1 8 rfl) ?_
      refine r_lcmp C (dk_at dk_Ord_runOnce_1 9 rfl) ?_
      refine r_if_eq C 100 rfl (dk_at dk_Ord_runOnce_1 10 rfl) (fun c15 => ?_) (fun c15 => ?_)
      · replace h := h.1 c15
        refine r_bipush C (-3) (dk_at dk_Ord_runOnce_1 15 rfl) ?_
        exact r_iret C h (dk_at dk_Ord_runOnce_1 16 rfl)
      · replace h := h.2 c15
        refine r_lload C 0 rfl (dk_at dk_Ord_runOnce_1 11 rfl) ?_
        refine r_ldc2 C tw_850 (dk_at dk_Ord_runOnce_1 12 rfl) ?_
        refine r_lcmp C (dk_at dk_Ord_runOnce_1 13 rfl) ?_
        refine r_if_ne C 103 rfl (dk_at dk_Ord_runOnce_1 14 rfl) (fun c16 => ?_) (fun c16 => ?_)
        · replace h := h.1 c16
          refine r_aload_n C 2 rfl (dk_at dk_Ord_runOnce_1 17 rfl) ?_
          refine r_getR C fl_Ord_29 60 (hL.1 60 _ rfl) rfl (dk_at dk_Ord_runOnce_1 18 rfl) ?_
          refine r_lload_n C 1 rfl (dk_at dk_Ord_runOnce_1 19 rfl) ?_
          refine r_l2i C (dk_at dk_Ord_runOnce_1 20 rfl) ?_
          refine r_lload C 0 rfl (dk_at dk_Ord_runOnce_1 21 rfl) ?_
          refine r_l2i C (dk_at dk_Ord_runOnce_1 22 rfl) ?_
          refine r_cvI C cl_Ord_77 50 (hL.1 50 _ rfl) [.int (l2i r11), .int (l2i r13)] (m_Court_tell hL h) (rmK_ok rfl rfl) rfl rfl (Nat.le_of_ble_eq_true rfl) (dk_at dk_Ord_runOnce_1 23 rfl) (fun r17 σ18 h => ?_)
          refine r_istore C [(7, .int r17), (5, .long r13), (3, .long r11), (0, .ref (wAd w 60)), (1, .ref (wAd w a1)), (2, .int a2)] rfl rfl (dk_at dk_Ord_runOnce_1 24 rfl) ?_
          refine r_iload C 0 rfl (dk_at dk_Ord_runOnce_1 25 rfl) ?_
          refine r_if_ge C 137 rfl (dk_at dk_Ord_runOnce_1 26 rfl) (fun c19 => ?_) (fun c19 => ?_)
          · replace h := h.1 c19
            refine r_aload_n C 3 rfl (dk_at dk_Ord_runOnce_1 34 rfl) ?_
            refine r_lload_n C 2 rfl (dk_at dk_Ord_runOnce_1 35 rfl) ?_
            refine r_l2i C (dk_at dk_Ord_runOnce_1 36 rfl) ?_
            refine r_putI C fl_Ord_44 60 (hL.1 60 _ rfl) rfl (dk_at dk_Ord_runOnce_1 37 rfl) (r_sg (fun σ20 e21 => ?_))
            replace h := h σ20 e21
            refine r_lv [3] rfl ?_
            exact t_Ord_runOnce_j143 C hL hT h
          · replace h := h.2 c19
            refine r_iload C 0 rfl (dk_at dk_Ord_runOnce_1 27 rfl) ?_
            refine r_bipush C (-5) (dk_at dk_Ord_runOnce_1 28 rfl) ?_
            refine r_icmp_ne C 134 rfl (dk_at dk_Ord_runOnce_1 29 rfl) (fun c22 => ?_) (fun c22 => ?_)
            · replace h := h.1 c22
              refine r_bipush C (-3) (dk_at dk_Ord_runOnce_1 32 rfl) ?_
              exact r_iret C h (dk_at dk_Ord_runOnce_1 33 rfl)
            · replace h := h.2 c22
              refine r_bipush C (-5) (dk_at dk_Ord_runOnce_1 30 rfl) ?_
              refine r_goto C 136 rfl (dk_at dk_Ord_runOnce_1 31 rfl) ?_
              exact r_iret C h (dk_at dk_Ord_runOnce_1 33 rfl)
        · replace h := h.2 c16
          refine r_bipush C (-3) (dk_at dk_Ord_runOnce_1 15 rfl) ?_
          exact r_iret C h (dk_at dk_Ord_runOnce_1 16 rfl)
    · replace h := h.2 c10
      refine r_aload_n C 0 rfl (dk_at dk_Ord_runOnce_0 23 rfl) ?_
      refine r_getR C fl_Ord_29 60 (hL.1 60 _ rfl) rfl (dk_at dk_Ord_runOnce_0 24 rfl) ?_
      refine r_cvI C cl_Ord_69 50 (hL.1 50 _ rfl) [] (m_Court_nextDay hL h) (rmK_ok rfl rfl) rfl rfl (Nat.le_of_ble_eq_true rfl) (dk_at dk_Ord_runOnce_0 25 rfl) (fun r23 σ24 h => ?_)
      refine r_if_ge C 143 rfl (dk_at dk_Ord_runOnce_0 26 rfl) (fun c25 => ?_) (fun c25 => ?_)
      · replace h := h.1 c25
        refine r_lv [0] rfl ?_
        exact t_Ord_runOnce_j143 C hL hT h
      · replace h := h.2 c25
        refine r_bipush C (-3) (dk_at dk_Ord_runOnce_0 27 rfl) ?_
        exact r_iret C h (dk_at dk_Ord_runOnce_0 28 rfl)
  · replace h := h.2 c7
    refine r_iconst C 0 (dk_at dk_Ord_runOnce_0 15 rfl) ?_
    exact r_iret C h (dk_at dk_Ord_runOnce_0 16 rfl)
  )
set_option maxRecDepth 20000 in
theorem t_Ord_runWholly_b52 {X : CT} {w : WO} (C : CF X w (lim0 w) 8 cX2_runWholly RX2 (some .int) (.code yX2_runWholly cX2_runWholly 8 (some .int)) (rmK 6 172)) {T : TXT} {z : EXa} (hL : LyX w T z) {a1 : Nat} {m1 : Nat} {m2 : Nat} (hT : isT w a1 m1 m2) {K31 : DD → Int32 → Prop} {a2 : Int32} {a3 : Int32} {a4 : Int32} {a5 : Int32} {K52 : DD → Int32 → Prop} {post : Int32 → DD → Prop} (k31 : ∀ (σ : DD) (a4 : Int32), K31 σ a4 → gW X w (lim0 w) 8 (QI X w post) σ 31 [(0, .ref (wAd w 60)), (1, .ref (wAd w a1)), (2, .int a2), (3, .int a3), (4, .int a4)] []) (k52 : ∀ (σ : DD) (a6 : Int32), K52 σ a6 → gW X w (lim0 w) 8 (QI X w post) σ 52 [(0, .ref (wAd w 60)), (1, .ref (wAd w a1)), (2, .int a2), (3, .int a3), (4, .int a4), (5, .int a5), (6, .int a6)] []) {σ : DD} {a6 : Int32} (h : w_Ord_runWholly_b52 T a1 m1 m2 K31 a2 a3 a4 a5 K52 post σ a6) : gW X w (lim0 w) 8 (QI X w post) σ 52 [(0, .ref (wAd w 60)), (1, .ref (wAd w a1)), (2, .int a2), (3, .int a3), (4, .int a4), (5, .int a5), (6, .int a6)] [] := by
  unfold w_Ord_runWholly_b52 at h
  refine r_iload C 6 rfl (dk_at dk_Ord_runWholly_0 29 rfl) ?_
  refine r_iload C 5 rfl (dk_at dk_Ord_runWholly_0 30 rfl) ?_
  refine r_icmp_ge C 106 rfl (dk_at dk_Ord_runWholly_0 31 rfl) (fun c1 => ?_) (fun c1 => ?_)
  · replace h := h.1 c1
    refine r_iinc C 4 rfl rfl [(4, .int (a4 + 1)), (0, .ref (wAd w 60)), (1, .ref (wAd w a1)), (2, .int a2), (3, .int a3), (5, .int a5), (6, .int a6)] rfl rfl (dk_at dk_Ord_runWholly_1 16 rfl) ?_
    refine r_goto C 31 rfl (dk_at dk_Ord_runWholly_1 17 rfl) ?_
    refine r_lv [1, 2, 3, 4, 0] rfl ?_
    exact k31 _ _ h
  · replace h := h.2 c1
    refine r_aload_n C 0 rfl (dk_at dk_Ord_runWholly_0 32 rfl) ?_
    refine r_aload_n C 1 rfl (dk_at dk_Ord_runWholly_0 33 rfl) ?_
    refine r_iload C 4 rfl (dk_at dk_Ord_runWholly_0 34 rfl) ?_
    refine r_cvI C cl_Ord_54 60 (hL.1 60 _ rfl) [.ref (wAd w a1), .int a4] (m_Ord_runOnce hL hT h) (rmK_ok rfl rfl) rfl rfl (Nat.le_of_ble_eq_true rfl) (dk_at dk_Ord_runWholly_0 35 rfl) (fun r2 σ3 h => ?_)
    refine r_istore C [(7, .int r2), (0, .ref (wAd w 60)), (1, .ref (wAd w a1)), (2, .int a2), (3, .int a3), (4, .int a4), (5, .int a5), (6, .int a6)] rfl rfl (dk_at dk_Ord_runWholly_0 36 rfl) ?_
    refine r_iload C 0 rfl (dk_at dk_Ord_runWholly_0 37 rfl) ?_
    refine r_if_eq C 100 rfl (dk_at dk_Ord_runWholly_0 38 rfl) (fun c4 => ?_) (fun c4 => ?_)
    · replace h := h.1 c4
      refine r_iinc C 7 rfl rfl [(6, .int (a6 + 1)), (7, .int r2), (0, .ref (wAd w 60)), (1, .ref (wAd w a1)), (2, .int a2), (3, .int a3), (4, .int a4), (5, .int a5)] rfl rfl (dk_at dk_Ord_runWholly_1 14 rfl) ?_
      refine r_goto C 52 rfl (dk_at dk_Ord_runWholly_1 15 rfl) ?_
      refine r_lv [2, 3, 4, 5, 6, 7, 0] rfl ?_
      exact k52 _ _ h
    · replace h := h.2 c4
      refine r_aload_n C 1 rfl (dk_at dk_Ord_runWholly_0 39 rfl) ?_
      refine r_getR C fl_Ord_25 60 (hL.1 60 _ rfl) rfl (dk_at dk_Ord_runWholly_1 0 rfl) ?_
      refine r_iload_n C 3 rfl (dk_at dk_Ord_runWholly_1 1 rfl) ?_
      refine r_putI C fl_Ord_33 200 (hL.1 200 _ rfl) rfl (dk_at dk_Ord_runWholly_1 2 rfl) (r_sg (fun σ5 e6 => ?_))
      replace h := h σ5 e6
      refine r_aload_n C 1 rfl (dk_at dk_Ord_runWholly_1 3 rfl) ?_
      refine r_getR C fl_Ord_25 60 (hL.1 60 _ rfl) rfl (dk_at dk_Ord_runWholly_1 4 rfl) ?_
      refine r_getR C fl_Ord_38 200 (hL.1 200 _ rfl) rfl (dk_at dk_Ord_runWholly_1 5 rfl) ?_
      refine r_iconst C 0 (dk_at dk_Ord_runWholly_1 6 rfl) ?_
      refine r_iload_n C 4 rfl (dk_at dk_Ord_runWholly_1 7 rfl) ?_
      refine r_iastK C 208 (hL.1 208 _ rfl) lk_0 vk_0_4 (dk_at dk_Ord_runWholly_1 8 rfl) (r_sg (fun σ7 e8 => ?_))
      replace h := h σ7 e8
      refine r_aload_n C 1 rfl (dk_at dk_Ord_runWholly_1 9 rfl) ?_
      refine r_iload C 5 rfl (dk_at dk_Ord_runWholly_1 10 rfl) ?_
      refine r_putI C fl_Ord_21 60 (hL.1 60 _ rfl) rfl (dk_at dk_Ord_runWholly_1 11 rfl) (r_sg (fun σ9 e10 => ?_))
      replace h := h σ9 e10
      refine r_iload C 0 rfl (dk_at dk_Ord_runWholly_1 12 rfl) ?_
      exact r_iret C h (dk_at dk_Ord_runWholly_1 13 rfl)
set_option maxRecDepth 20000 in
theorem t_Ord_runWholly_l52 {X : CT} {w : WO} (C : CF X w (lim0 w) 8 cX2_runWholly RX2 (some .int) (.code yX2_runWholly cX2_runWholly 8 (some .int)) (rmK 6 172)) {T : TXT} {z : EXa} (hL : LyX w T z) {a1 : Nat} {m1 : Nat} {m2 : Nat} (hT : isT w a1 m1 m2) {K31 : DD → Int32 → Prop} {a2 : Int32} {a3 : Int32} {a4 : Int32} {a5 : Int32} {post : Int32 → DD → Prop} (k31 : ∀ (σ : DD) (a4 : Int32), K31 σ a4 → gW X w (lim0 w) 8 (QI X w post) σ 31 [(0, .ref (wAd w 60)), (1, .ref (wAd w a1)), (2, .int a2), (3, .int a3), (4, .int a4)] []) {σ : DD} {a6 : Int32} (h : w_Ord_runWholly_l52 T a1 m1 m2 K31 post σ a2 a3 a4 a5 a6) : gW X w (lim0 w) 8 (QI X w post) σ 52 [(0, .ref (wAd w 60)), (1, .ref (wAd w a1)), (2, .int a2), (3, .int a3), (4, .int a4), (5, .int a5), (6, .int a6)] [] :=
  LoopW (G := fun x : DD × Int32 => gW X w (lim0 w) 8 (QI X w post) x.1 52 [(0, .ref (wAd w 60)), (1, .ref (wAd w a1)), (2, .int a2), (3, .int a3), (4, .int a4), (5, .int a5), (6, .int x.2)] []) (fun K x hK hF => t_Ord_runWholly_b52 C hL hT k31 (fun σ a6 q => hK (σ, a6) q) hF) h
set_option maxRecDepth 20000 in
theorem t_Ord_runWholly_b31 {X : CT} {w : WO} (C : CF X w (lim0 w) 8 cX2_runWholly RX2 (some .int) (.code yX2_runWholly cX2_runWholly 8 (some .int)) (rmK 6 172)) {T : TXT} {z : EXa} (hL : LyX w T z) {a1 : Nat} {m1 : Nat} {m2 : Nat} (hT : isT w a1 m1 m2) {a2 : Int32} {a3 : Int32} {K31 : DD → Int32 → Prop} {post : Int32 → DD → Prop} (k31 : ∀ (σ : DD) (a4 : Int32), K31 σ a4 → gW X w (lim0 w) 8 (QI X w post) σ 31 [(0, .ref (wAd w 60)), (1, .ref (wAd w a1)), (2, .int a2), (3, .int a3), (4, .int a4)] []) {σ : DD} {a4 : Int32} (h : w_Ord_runWholly_b31 T a1 m1 m2 a2 a3 K31 post σ a4) : gW X w (lim0 w) 8 (QI X w post) σ 31 [(0, .ref (wAd w 60)), (1, .ref (wAd w a1)), (2, .int a2), (3, .int a3), (4, .int a4)] [] := by
  unfold w_Ord_runWholly_b31 at h
  refine r_iload C 4 rfl (dk_at dk_Ord_runWholly_0 18 rfl) ?_
  refine r_aload_n C 1 rfl (dk_at dk_Ord_runWholly_0 19 rfl) ?_
  refine r_getI C fl_Ord_47 a1 hT.1 rfl (dk_at dk_Ord_runWholly_0 20 rfl) ?_
  refine r_icmp_ge C 112 rfl (dk_at dk_Ord_runWholly_0 21 rfl) (fun c11 => ?_) (fun c11 => ?_)
  · replace h := h.1 c11
    refine r_aload_n C 0 rfl (dk_at dk_Ord_runWholly_1 18 rfl) ?_
    refine r_getI C fl_Ord_41 60 (hL.1 60 _ rfl) rfl (dk_at dk_Ord_runWholly_1 19 rfl) ?_
    exact r_iret C h (dk_at dk_Ord_runWholly_1 20 rfl)
  · replace h := h.2 c11
    refine r_aload_n C 1 rfl (dk_at dk_Ord_runWholly_0 22 rfl) ?_
    refine r_iload C 4 rfl (dk_at dk_Ord_runWholly_0 23 rfl) ?_
    refine r_iconst C 5 (dk_at dk_Ord_runWholly_0 24 rfl) ?_
    refine r_cvI C cl_Ord_50 a1 hT.1 [.int a4, .int 5] (m_Text_headOf hL hT h) (rmK_ok rfl rfl) rfl rfl (Nat.le_of_ble_eq_true rfl) (dk_at dk_Ord_runWholly_0 25 rfl) (fun r12 σ13 h => ?_)
    refine r_istore C [(5, .int r12), (0, .ref (wAd w 60)), (1, .ref (wAd w a1)), (2, .int a2), (3, .int a3), (4, .int a4)] rfl rfl (dk_at dk_Ord_runWholly_0 26 rfl) ?_
    refine r_iconst C 0 (dk_at dk_Ord_runWholly_0 27 rfl) ?_
    refine r_istore C [(6, .int 0), (5, .int r12), (0, .ref (wAd w 60)), (1, .ref (wAd w a1)), (2, .int a2), (3, .int a3), (4, .int a4)] rfl rfl (dk_at dk_Ord_runWholly_0 28 rfl) ?_
    refine r_lv [2, 3, 4, 5, 6, 1, 0] rfl ?_
    exact t_Ord_runWholly_l52 C hL hT k31 h
set_option maxRecDepth 20000 in
theorem t_Ord_runWholly_l31 {X : CT} {w : WO} (C : CF X w (lim0 w) 8 cX2_runWholly RX2 (some .int) (.code yX2_runWholly cX2_runWholly 8 (some .int)) (rmK 6 172)) {T : TXT} {z : EXa} (hL : LyX w T z) {a1 : Nat} {m1 : Nat} {m2 : Nat} (hT : isT w a1 m1 m2) {a2 : Int32} {a3 : Int32} {post : Int32 → DD → Prop} {σ : DD} {a4 : Int32} (h : w_Ord_runWholly_l31 T a1 m1 m2 post σ a2 a3 a4) : gW X w (lim0 w) 8 (QI X w post) σ 31 [(0, .ref (wAd w 60)), (1, .ref (wAd w a1)), (2, .int a2), (3, .int a3), (4, .int a4)] [] :=
  LoopW (G := fun x : DD × Int32 => gW X w (lim0 w) 8 (QI X w post) x.1 31 [(0, .ref (wAd w 60)), (1, .ref (wAd w a1)), (2, .int a2), (3, .int a3), (4, .int x.2)] []) (fun K x hK hF => t_Ord_runWholly_b31 C hL hT (fun σ a4 q => hK (σ, a4) q) hF) h
set_option maxRecDepth 20000 in
theorem m_Ord_runWholly {l : Launch} {w : WO} {T : TXT} {z : EXa} (hL : LyX w T z) {a1 : Nat} {m1 : Nat} {m2 : Nat} (hT : isT w a1 m1 m2) {σ : DD} {post : Int32 → DD → Prop} (h : w_Ord_runWholly T a1 m1 m2 σ post) : MI l w yX2_runWholly cX2_runWholly 8 .int (rmK 6 172) σ [.ref (wAd w 60), .ref (wAd w a1)] post :=
  met_head (rt := (some .int)) (by decide) rfl (fun X hX C => by
  subst hX
  unfold w_Ord_runWholly at h
  show gW X w (lim0 w) 8 (QI X w post) σ 0 [(0, .ref (wAd w 60)), (1, .ref (wAd w a1))] []
  refine r_aload_n C 0 rfl (dk_at dk_Ord_runWholly_0 0 rfl) ?_
  refine r_getR C fl_Ord_25 60 (hL.1 60 _ rfl) rfl (dk_at dk_Ord_runWholly_0 1 rfl) ?_
  refine r_getI C fl_Ord_33 200 (hL.1 200 _ rfl) rfl (dk_at dk_Ord_runWholly_0 2 rfl) ?_
  refine r_topi (fun v14 e15 => ?_)
  replace h := h v14 e15
  refine r_istore_n C [(2, .int v14), (0, .ref (wAd w 60)), (1, .ref (wAd w a1))] rfl rfl (dk_at dk_Ord_runWholly_0 3 rfl) ?_
  refine r_aload_n C 1 rfl (dk_at dk_Ord_runWholly_0 4 rfl) ?_
  refine r_getR C fl_Ord_25 60 (hL.1 60 _ rfl) rfl (dk_at dk_Ord_runWholly_0 5 rfl) ?_
  refine r_getR C fl_Ord_38 200 (hL.1 200 _ rfl) rfl (dk_at dk_Ord_runWholly_0 6 rfl) ?_
  refine r_iconst C 0 (dk_at dk_Ord_runWholly_0 7 rfl) ?_
  refine r_ialdK C 208 (hL.1 208 _ rfl) lk_0 (vk_0_4) (dk_at dk_Ord_runWholly_0 8 rfl) ?_
  refine r_topi (fun v16 e17 => ?_)
  replace h := h v16 e17
  refine r_istore_n C [(3, .int v16), (2, .int v14), (0, .ref (wAd w 60)), (1, .ref (wAd w a1))] rfl rfl (dk_at dk_Ord_runWholly_0 9 rfl) ?_
  refine r_aload_n C 2 rfl (dk_at dk_Ord_runWholly_0 10 rfl) ?_
  refine r_iconst C 0 (dk_at dk_Ord_runWholly_0 11 rfl) ?_
  refine r_putI C fl_Ord_41 60 (hL.1 60 _ rfl) rfl (dk_at dk_Ord_runWholly_0 12 rfl) (r_sg (fun σ18 e19 => ?_))
  replace h := h σ18 e19
  refine r_aload_n C 2 rfl (dk_at dk_Ord_runWholly_0 13 rfl) ?_
  refine r_iconst C (-1) (dk_at dk_Ord_runWholly_0 14 rfl) ?_
  refine r_putI C fl_Ord_44 60 (hL.1 60 _ rfl) rfl (dk_at dk_Ord_runWholly_0 15 rfl) (r_sg (fun σ20 e21 => ?_))
  replace h := h σ20 e21
  refine r_iconst C 0 (dk_at dk_Ord_runWholly_0 16 rfl) ?_
  refine r_istore C [(4, .int 0), (3, .int v16), (2, .int v14), (0, .ref (wAd w 60)), (1, .ref (wAd w a1))] rfl rfl (dk_at dk_Ord_runWholly_0 17 rfl) ?_
  refine r_lv [3, 4, 2, 1, 0] rfl ?_
  exact t_Ord_runWholly_l31 C hL hT h
  )
set_option maxRecDepth 20000 in
theorem t_J7_fill_d0a16_b6 {X : CT} {w : WO} (C : CF X w (lim0 w) 5 cJ7_fill_d0a16 RJ7 none (.code yJ7_fill_d0a16 cJ7_fill_d0a16 5 none) (rmK 0 0)) {T : TXT} {z : EXa} (hL : LyX w T z) {a0 : Nat} {n0 : Nat} (hy0 : wLy w a0 = some (lJ n0)) {a1 : Int64} {a4 : Int32} {K6 : DD → Int32 → Prop} {post : DD → Prop} (k6 : ∀ (σ : DD) (a3 : Int32), K6 σ a3 → gW X w (lim0 w) 5 (QV X w post) σ 6 [(0, .ref (wAd w a0)), (1, .long a1), (3, .int a3), (4, .int a4)] []) {σ : DD} {a3 : Int32} (h : w_J7_fill_d0a16_b6 T a0 n0 a1 a4 K6 post σ a3) : gW X w (lim0 w) 5 (QV X w post) σ 6 [(0, .ref (wAd w a0)), (1, .long a1), (3, .int a3), (4, .int a4)] [] := by
  unfold w_J7_fill_d0a16_b6 at h
  refine r_iload_n C 2 rfl (dk_at dk_J7_fill_d0a16_0 5 rfl) ?_
  refine r_iload C 3 rfl (dk_at dk_J7_fill_d0a16_0 6 rfl) ?_
  refine r_icmp_ge C 22 rfl (dk_at dk_J7_fill_d0a16_0 7 rfl) (fun c1 => ?_) (fun c1 => ?_)
  · replace h := h.1 c1
    exact r_vret C h (dk_at dk_J7_fill_d0a16_0 14 rfl)
  · replace h := h.2 c1
    refine r_aload_n C 0 rfl (dk_at dk_J7_fill_d0a16_0 8 rfl) ?_
    refine r_iload_n C 2 rfl (dk_at dk_J7_fill_d0a16_0 9 rfl) ?_
    refine r_lload_n C 1 rfl (dk_at dk_J7_fill_d0a16_0 10 rfl) ?_
    obtain ⟨q4, h⟩ := h
    refine r_last C a0 hy0 q4 (dk_at dk_J7_fill_d0a16_0 11 rfl) (r_sg (fun σ2 e3 => ?_))
    replace h := h σ2 e3
    refine r_iinc C 2 rfl rfl [(3, .int (a3 + 1)), (0, .ref (wAd w a0)), (1, .long a1), (4, .int a4)] rfl rfl (dk_at dk_J7_fill_d0a16_0 12 rfl) ?_
    refine r_goto C 6 rfl (dk_at dk_J7_fill_d0a16_0 13 rfl) ?_
    refine r_lv [1, 2, 0, 3] rfl ?_
    exact k6 _ _ h
set_option maxRecDepth 20000 in
theorem t_J7_fill_d0a16_l6 {X : CT} {w : WO} (C : CF X w (lim0 w) 5 cJ7_fill_d0a16 RJ7 none (.code yJ7_fill_d0a16 cJ7_fill_d0a16 5 none) (rmK 0 0)) {T : TXT} {z : EXa} (hL : LyX w T z) {a0 : Nat} {n0 : Nat} (hy0 : wLy w a0 = some (lJ n0)) {a1 : Int64} {a4 : Int32} {post : DD → Prop} {σ : DD} {a3 : Int32} (h : w_J7_fill_d0a16_l6 T a0 n0 post σ a1 a3 a4) : gW X w (lim0 w) 5 (QV X w post) σ 6 [(0, .ref (wAd w a0)), (1, .long a1), (3, .int a3), (4, .int a4)] [] :=
  LoopW (G := fun x : DD × Int32 => gW X w (lim0 w) 5 (QV X w post) x.1 6 [(0, .ref (wAd w a0)), (1, .long a1), (3, .int x.2), (4, .int a4)] []) (fun K x hK hF => t_J7_fill_d0a16_b6 C hL hy0 (fun σ a3 q => hK (σ, a3) q) hF) h
set_option maxRecDepth 20000 in
theorem m_J7_fill_d0a16 {l : Launch} {w : WO} {T : TXT} {z : EXa} (hL : LyX w T z) {a0 : Nat} {n0 : Nat} (hy0 : wLy w a0 = some (lJ n0)) {σ : DD} {a1 : Int64} {post : DD → Prop} (h : w_J7_fill_d0a16 T a0 n0 σ a1 post) : MV l w yJ7_fill_d0a16 cJ7_fill_d0a16 5 (rmK 0 0) σ [.ref (wAd w a0), .long a1] post :=
  met_head (rt := none) (by decide) rfl (fun X hX C => by
  subst hX
  unfold w_J7_fill_d0a16 at h
  show gW X w (lim0 w) 5 (QV X w post) σ 0 [(0, .ref (wAd w a0)), (1, .long a1)] []
  refine r_iconst C 0 (dk_at dk_J7_fill_d0a16_0 0 rfl) ?_
  refine r_istore_n C [(3, .int 0), (0, .ref (wAd w a0)), (1, .long a1)] rfl rfl (dk_at dk_J7_fill_d0a16_0 1 rfl) ?_
  refine r_aload_n C 1 rfl (dk_at dk_J7_fill_d0a16_0 2 rfl) ?_
  refine r_alenJ C a0 hy0 _ rfl (dk_at dk_J7_fill_d0a16_0 3 rfl) ?_
  refine r_topi (fun v5 e6 => ?_)
  replace h := h v5 e6
  refine r_istore C [(4, .int v5), (3, .int 0), (0, .ref (wAd w a0)), (1, .long a1)] rfl rfl (dk_at dk_J7_fill_d0a16_0 4 rfl) ?_
  refine r_lv [2, 3, 1, 0] rfl ?_
  exact t_J7_fill_d0a16_l6 C hL hy0 h
  )
set_option maxRecDepth 20000 in
theorem t_Outl_tryReading_b55 {X : CT} {w : WO} (C : CF X w (lim0 w) 9 cX3_tryReading RX3 none (.code yX3_tryReading cX3_tryReading 9 none) (rmK 3 96)) {T : TXT} {z : EXa} (hL : LyX w T z) {a1 : Int32} {a2 : Int32} {a3 : Int32} {a5 : Int32} {K55 : DD → Int64 → Int32 → Prop} {post : DD → Prop} (k55 : ∀ (σ : DD) (a6 : Int64) (a8 : Int32), K55 σ a6 a8 → gW X w (lim0 w) 9 (QV X w post) σ 55 [(0, .ref (wAd w 100)), (1, .int a1), (2, .int a2), (3, .int a3), (5, .int a5), (6, .long a6), (8, .int a8)] []) {σ : DD} {a6 : Int64} {a8 : Int32} (h : w_Outl_tryReading_b55 T a1 a2 a3 a5 K55 post σ a6 a8) : gW X w (lim0 w) 9 (QV X w post) σ 55 [(0, .ref (wAd w 100)), (1, .int a1), (2, .int a2), (3, .int a3), (5, .int a5), (6, .long a6), (8, .int a8)] [] := by
  unfold w_Outl_tryReading_b55 at h
  refine r_iload C 6 rfl (dk_at dk_Outl_tryReading_0 30 rfl) ?_
  refine r_bipush C 99 (dk_at dk_Outl_tryReading_0 31 rfl) ?_
  refine r_icmp_gt C 113 rfl (dk_at dk_Outl_tryReading_0 32 rfl) (fun c1 => ?_) (fun c1 => ?_)
  · replace h := h.1 c1
    refine r_aload_n C 0 rfl (dk_at dk_Outl_tryReading_1 22 rfl) ?_
    refine r_getR C fl_Outl_9 100 (hL.1 100 _ rfl) rfl (dk_at dk_Outl_tryReading_1 23 rfl) ?_
    refine r_bipush C 99 (dk_at dk_Outl_tryReading_1 24 rfl) ?_
    refine r_aload_n C 0 rfl (dk_at dk_Outl_tryReading_1 25 rfl) ?_
    refine r_getR C fl_Outl_27 100 (hL.1 100 _ rfl) rfl (dk_at dk_Outl_tryReading_1 26 rfl) ?_
    refine r_iload_n C 1 rfl (dk_at dk_Outl_tryReading_1 27 rfl) ?_
    refine r_iload_n C 2 rfl (dk_at dk_Outl_tryReading_1 28 rfl) ?_
    refine r_iload_n C 3 rfl (dk_at dk_Outl_tryReading_1 29 rfl) ?_
    refine r_cvI C cl_Outl_72 50 (hL.1 50 _ rfl) [.int a1, .int a2, .int a3] (m_Court_lasts hL h) (rmK_ok rfl rfl) rfl rfl (Nat.le_of_ble_eq_true rfl) (dk_at dk_Outl_tryReading_1 30 rfl) (fun r2 σ3 h => ?_)
    refine r_mmin C tw_1079 tw_748 tw_14 tw_749 (Nat.le_of_ble_eq_true rfl) (Nat.le_of_ble_eq_true rfl) (dk_at dk_Outl_tryReading_1 31 rfl) ?_
    refine r_dup2 C rfl rfl (dk_at dk_Outl_tryReading_1 32 rfl) ?_
    obtain ⟨q4, h⟩ := h
    refine r_lald C 103 (hL.1 103 _ rfl) q4 (dk_at dk_Outl_tryReading_1 33 rfl) ?_
    refine r_lload C 5 rfl (dk_at dk_Outl_tryReading_1 34 rfl) ?_
    refine r_ladd C (dk_at dk_Outl_tryReading_1 35 rfl) ?_
    obtain ⟨q7, h⟩ := h
    refine r_last C 103 (hL.1 103 _ rfl) q7 (dk_at dk_Outl_tryReading_1 36 rfl) (r_sg (fun σ5 e6 => ?_))
    replace h := h σ5 e6
    exact r_vret C h (dk_at dk_Outl_tryReading_1 37 rfl)
  · replace h := h.2 c1
    refine r_lload C 5 rfl (dk_at dk_Outl_tryReading_0 33 rfl) ?_
    refine r_aload_n C 0 rfl (dk_at dk_Outl_tryReading_0 34 rfl) ?_
    refine r_getR C fl_Outl_9 100 (hL.1 100 _ rfl) rfl (dk_at dk_Outl_tryReading_0 35 rfl) ?_
    refine r_iload C 6 rfl (dk_at dk_Outl_tryReading_0 36 rfl) ?_
    obtain ⟨q8, h⟩ := h
    refine r_lald C 103 (hL.1 103 _ rfl) q8 (dk_at dk_Outl_tryReading_0 37 rfl) ?_
    refine r_bipush C 10 (dk_at dk_Outl_tryReading_0 38 rfl) ?_
    refine r_iload C 4 rfl (dk_at dk_Outl_tryReading_0 39 rfl) ?_
    refine r_isub C (dk_at dk_Outl_tryReading_1 0 rfl) ?_
    refine r_i2l C (dk_at dk_Outl_tryReading_1 1 rfl) ?_
    refine r_lmul C (dk_at dk_Outl_tryReading_1 2 rfl) ?_
    refine r_ldc2 C tw_1088 (dk_at dk_Outl_tryReading_1 3 rfl) ?_
    refine r_ldiv C (by decide) (dk_at dk_Outl_tryReading_1 4 rfl) ?_
    refine r_ladd C (dk_at dk_Outl_tryReading_1 5 rfl) ?_
    refine r_topl (fun v9 e10 => ?_)
    replace h := h v9 e10
    refine r_lstore C [(6, .long v9), (0, .ref (wAd w 100)), (1, .int a1), (2, .int a2), (3, .int a3), (5, .int a5), (8, .int a8)] rfl rfl (dk_at dk_Outl_tryReading_1 6 rfl) ?_
    refine r_aload_n C 1 rfl (dk_at dk_Outl_tryReading_1 7 rfl) ?_
    refine r_getR C fl_Outl_9 100 (hL.1 100 _ rfl) rfl (dk_at dk_Outl_tryReading_1 8 rfl) ?_
    refine r_iload C 6 rfl (dk_at dk_Outl_tryReading_1 9 rfl) ?_
    refine r_aload_n C 1 rfl (dk_at dk_Outl_tryReading_1 10 rfl) ?_
    refine r_getR C fl_Outl_9 100 (hL.1 100 _ rfl) rfl (dk_at dk_Outl_tryReading_1 11 rfl) ?_
    refine r_iload C 6 rfl (dk_at dk_Outl_tryReading_1 12 rfl) ?_
    obtain ⟨q11, h⟩ := h
    refine r_lald C 103 (hL.1 103 _ rfl) q11 (dk_at dk_Outl_tryReading_1 13 rfl) ?_
    refine r_iload C 5 rfl (dk_at dk_Outl_tryReading_1 14 rfl) ?_
    refine r_i2l C (dk_at dk_Outl_tryReading_1 15 rfl) ?_
    refine r_lmul C (dk_at dk_Outl_tryReading_1 16 rfl) ?_
    refine r_ldc2 C tw_1088 (dk_at dk_Outl_tryReading_1 17 rfl) ?_
    refine r_ldiv C (by decide) (dk_at dk_Outl_tryReading_1 18 rfl) ?_
    obtain ⟨q14, h⟩ := h
    refine r_last C 103 (hL.1 103 _ rfl) q14 (dk_at dk_Outl_tryReading_1 19 rfl) (r_sg (fun σ12 e13 => ?_))
    replace h := h σ12 e13
    refine r_iinc C 6 rfl rfl [(8, .int (a8 + 1)), (6, .long v9), (0, .ref (wAd w 100)), (1, .int a1), (2, .int a2), (3, .int a3), (5, .int a5)] rfl rfl (dk_at dk_Outl_tryReading_1 20 rfl) ?_
    refine r_goto C 55 rfl (dk_at dk_Outl_tryReading_1 21 rfl) ?_
    refine r_lv [2, 3, 4, 5, 6, 1, 0] rfl ?_
    exact k55 _ _ _ h
set_option maxRecDepth 20000 in
theorem t_Outl_tryReading_l55 {X : CT} {w : WO} (C : CF X w (lim0 w) 9 cX3_tryReading RX3 none (.code yX3_tryReading cX3_tryReading 9 none) (rmK 3 96)) {T : TXT} {z : EXa} (hL : LyX w T z) {a1 : Int32} {a2 : Int32} {a3 : Int32} {a5 : Int32} {post : DD → Prop} {σ : DD} {a6 : Int64} {a8 : Int32} (h : w_Outl_tryReading_l55 T post σ a1 a2 a3 a5 a6 a8) : gW X w (lim0 w) 9 (QV X w post) σ 55 [(0, .ref (wAd w 100)), (1, .int a1), (2, .int a2), (3, .int a3), (5, .int a5), (6, .long a6), (8, .int a8)] [] :=
  LoopW (G := fun x : DD × Int64 × Int32 => gW X w (lim0 w) 9 (QV X w post) x.1 55 [(0, .ref (wAd w 100)), (1, .int a1), (2, .int a2), (3, .int a3), (5, .int a5), (6, .long x.2.1), (8, .int x.2.2)] []) (fun K x hK hF => t_Outl_tryReading_b55 C hL (fun σ a6 a8 q => hK (σ, a6, a8) q) hF) h
set_option maxRecDepth 20000 in
theorem t_Outl_tryReading_j47 {X : CT} {w : WO} (C : CF X w (lim0 w) 9 cX3_tryReading RX3 none (.code yX3_tryReading cX3_tryReading 9 none) (rmK 3 96)) {T : TXT} {z : EXa} (hL : LyX w T z) {post : DD → Prop} {a1 : Int32} {a2 : Int32} {a3 : Int32} {t0 : Int32} {σ : DD} (h : w_Outl_tryReading_j47 T post σ a1 a2 a3 t0) : gW X w (lim0 w) 9 (QV X w post) σ 47 [(0, .ref (wAd w 100)), (1, .int a1), (2, .int a2), (3, .int a3)] [.int t0] := by
  unfold w_Outl_tryReading_j47 at h
  refine r_istore C [(5, .int t0), (0, .ref (wAd w 100)), (1, .int a1), (2, .int a2), (3, .int a3)] rfl rfl (dk_at dk_Outl_tryReading_0 25 rfl) ?_
  refine r_lconst C 0 (dk_at dk_Outl_tryReading_0 26 rfl) ?_
  refine r_lstore C [(6, .long 0), (5, .int t0), (0, .ref (wAd w 100)), (1, .int a1), (2, .int a2), (3, .int a3)] rfl rfl (dk_at dk_Outl_tryReading_0 27 rfl) ?_
  refine r_iconst C 0 (dk_at dk_Outl_tryReading_0 28 rfl) ?_
  refine r_istore C [(8, .int 0), (6, .long 0), (5, .int t0), (0, .ref (wAd w 100)), (1, .int a1), (2, .int a2), (3, .int a3)] rfl rfl (dk_at dk_Outl_tryReading_0 29 rfl) ?_
  refine r_lv [3, 4, 5, 6, 2, 1, 0] rfl ?_
  exact t_Outl_tryReading_l55 C hL h
set_option maxRecDepth 20000 in
theorem t_Outl_tryReading_j27 {X : CT} {w : WO} (C : CF X w (lim0 w) 9 cX3_tryReading RX3 none (.code yX3_tryReading cX3_tryReading 9 none) (rmK 3 96)) {T : TXT} {z : EXa} (hL : LyX w T z) {post : DD → Prop} {a1 : Int32} {a2 : Int32} {a3 : Int32} {t0 : Int32} {σ : DD} (h : w_Outl_tryReading_j27 T post σ a1 a2 a3 t0) : gW X w (lim0 w) 9 (QV X w post) σ 27 [(0, .ref (wAd w 100)), (1, .int a1), (2, .int a2), (3, .int a3)] [.int t0] := by
  unfold w_Outl_tryReading_j27 at h
  refine r_istore C [(4, .int t0), (0, .ref (wAd w 100)), (1, .int a1), (2, .int a2), (3, .int a3)] rfl rfl (dk_at dk_Outl_tryReading_0 15 rfl) ?_
  refine r_iload C 0 rfl (dk_at dk_Outl_tryReading_0 16 rfl) ?_
  refine r_if_eq C 46 rfl (dk_at dk_Outl_tryReading_0 17 rfl) (fun c15 => ?_) (fun c15 => ?_)
  · replace h := h.1 c15
    refine r_iconst C 0 (dk_at dk_Outl_tryReading_0 24 rfl) ?_
    refine r_lv [1, 2, 3, 4] rfl ?_
    exact t_Outl_tryReading_j47 C hL h
  · replace h := h.2 c15
    refine r_aload_n C 1 rfl (dk_at dk_Outl_tryReading_0 18 rfl) ?_
    refine r_getR C fl_Outl_23 100 (hL.1 100 _ rfl) rfl (dk_at dk_Outl_tryReading_0 19 rfl) ?_
    refine r_getR C fl_Outl_31 200 (hL.1 200 _ rfl) rfl (dk_at dk_Outl_tryReading_0 20 rfl) ?_
    refine r_iconst C 1 (dk_at dk_Outl_tryReading_0 21 rfl) ?_
    refine r_ialdK C 208 (hL.1 208 _ rfl) lk_1 (vk_1_4) (dk_at dk_Outl_tryReading_0 22 rfl) ?_
    refine r_goto C 47 rfl (dk_at dk_Outl_tryReading_0 23 rfl) ?_
    refine r_lv [1, 2, 3, 4] rfl ?_
    exact t_Outl_tryReading_j47 C hL h
set_option maxRecDepth 20000 in
theorem m_Outl_tryReading {l : Launch} {w : WO} {T : TXT} {z : EXa} (hL : LyX w T z) {σ : DD} {a1 : Int32} {a2 : Int32} {a3 : Int32} {post : DD → Prop} (h : w_Outl_tryReading T σ a1 a2 a3 post) : MV l w yX3_tryReading cX3_tryReading 9 (rmK 3 96) σ [.ref (wAd w 100), .int a1, .int a2, .int a3] post :=
  met_head (rt := none) (by decide) rfl (fun X hX C => by
  subst hX
  unfold w_Outl_tryReading at h
  show gW X w (lim0 w) 9 (QV X w post) σ 0 [(0, .ref (wAd w 100)), (1, .int a1), (2, .int a2), (3, .int a3)] []
  refine r_aload_n C 0 rfl (dk_at dk_Outl_tryReading_0 0 rfl) ?_
  refine r_getR C fl_Outl_27 100 (hL.1 100 _ rfl) rfl (dk_at dk_Outl_tryReading_0 1 rfl) ?_
  refine r_iload_n C 1 rfl (dk_at dk_Outl_tryReading_0 2 rfl) ?_
  refine r_iload_n C 2 rfl (dk_at dk_Outl_tryReading_0 3 rfl) ?_
  refine r_iload_n C 3 rfl (dk_at dk_Outl_tryReading_0 4 rfl) ?_
  refine r_cvI C cl_Outl_66 50 (hL.1 50 _ rfl) [.int a1, .int a2, .int a3] (m_Court_takes hL h) (rmK_ok rfl rfl) rfl rfl (Nat.le_of_ble_eq_true rfl) (dk_at dk_Outl_tryReading_0 5 rfl) (fun r16 σ17 h => ?_)
  refine r_aload_n C 0 rfl (dk_at dk_Outl_tryReading_0 6 rfl) ?_
  refine r_getR C fl_Outl_23 100 (hL.1 100 _ rfl) rfl (dk_at dk_Outl_tryReading_0 7 rfl) ?_
  refine r_getR C fl_Outl_31 200 (hL.1 200 _ rfl) rfl (dk_at dk_Outl_tryReading_0 8 rfl) ?_
  refine r_iconst C 2 (dk_at dk_Outl_tryReading_0 9 rfl) ?_
  refine r_ialdK C 208 (hL.1 208 _ rfl) lk_2 (vk_2_4) (dk_at dk_Outl_tryReading_0 10 rfl) ?_
  refine r_icmp_le C 26 rfl (dk_at dk_Outl_tryReading_0 11 rfl) (fun c18 => ?_) (fun c18 => ?_)
  · replace h := h.1 c18
    refine r_iconst C 0 (dk_at dk_Outl_tryReading_0 14 rfl) ?_
    refine r_lv [0, 1, 2, 3] rfl ?_
    exact t_Outl_tryReading_j27 C hL h
  · replace h := h.2 c18
    refine r_iconst C 1 (dk_at dk_Outl_tryReading_0 12 rfl) ?_
    refine r_goto C 27 rfl (dk_at dk_Outl_tryReading_0 13 rfl) ?_
    refine r_lv [0, 1, 2, 3] rfl ?_
    exact t_Outl_tryReading_j27 C hL h
  )
set_option maxRecDepth 20000 in
theorem t_Outl_chances_b102 {X : CT} {w : WO} (C : CF X w (lim0 w) 9 cX3_chances RX3 (some .long) (.code yX3_chances cX3_chances 9 (some .long)) (rmK 4 124)) {T : TXT} {z : EXa} (hL : LyX w T z) {K68 : DD → Int32 → Prop} {a1 : Int32} {a2 : Int32} {a3 : Int32} {a4 : Int32} {a6 : Int32} {K102 : DD → Int32 → Prop} {post : Int64 → DD → Prop} (k68 : ∀ (σ : DD) (a6 : Int32), K68 σ a6 → gW X w (lim0 w) 9 (QL X w post) σ 68 [(0, .ref (wAd w 100)), (1, .int a1), (2, .int a2), (3, .int a3), (4, .int a4), (6, .int a6)] []) (k102 : ∀ (σ : DD) (a7 : Int32), K102 σ a7 → gW X w (lim0 w) 9 (QL X w post) σ 102 [(0, .ref (wAd w 100)), (1, .int a1), (2, .int a2), (3, .int a3), (4, .int a4), (6, .int a6), (7, .int a7)] []) {σ : DD} {a7 : Int32} (h : w_Outl_chances_b102 T K68 a1 a2 a3 a4 a6 K102 post σ a7) : gW X w (lim0 w) 9 (QL X w post) σ 102 [(0, .ref (wAd w 100)), (1, .int a1), (2, .int a2), (3, .int a3), (4, .int a4), (6, .int a6), (7, .int a7)] [] := by
  unfold w_Outl_chances_b102 at h
  refine r_iload C 6 rfl (dk_at dk_Outl_chances_1 14 rfl) ?_
  refine r_bipush C 99 (dk_at dk_Outl_chances_1 15 rfl) ?_
  refine r_icmp_ge C 131 rfl (dk_at dk_Outl_chances_1 16 rfl) (fun c1 => ?_) (fun c1 => ?_)
  · replace h := h.1 c1
    refine r_aload_n C 0 rfl (dk_at dk_Outl_chances_1 29 rfl) ?_
    refine r_getR C fl_Outl_9 100 (hL.1 100 _ rfl) rfl (dk_at dk_Outl_chances_1 30 rfl) ?_
    refine r_bipush C 99 (dk_at dk_Outl_chances_1 31 rfl) ?_
    refine r_lconst C 0 (dk_at dk_Outl_chances_1 32 rfl) ?_
    refine r_lastK C 103 (hL.1 103 _ rfl) lk_99 vk_99_100 (dk_at dk_Outl_chances_1 33 rfl) (r_sg (fun σ2 e3 => ?_))
    replace h := h σ2 e3
    refine r_iinc C 5 rfl rfl [(6, .int (a6 + 1)), (0, .ref (wAd w 100)), (1, .int a1), (2, .int a2), (3, .int a3), (4, .int a4), (7, .int a7)] rfl rfl (dk_at dk_Outl_chances_1 34 rfl) ?_
    refine r_goto C 68 rfl (dk_at dk_Outl_chances_1 35 rfl) ?_
    refine r_lv [1, 2, 3, 4, 5, 0] rfl ?_
    exact k68 _ _ h
  · replace h := h.2 c1
    refine r_aload_n C 0 rfl (dk_at dk_Outl_chances_1 17 rfl) ?_
    refine r_getR C fl_Outl_9 100 (hL.1 100 _ rfl) rfl (dk_at dk_Outl_chances_1 18 rfl) ?_
    refine r_iload C 6 rfl (dk_at dk_Outl_chances_1 19 rfl) ?_
    refine r_aload_n C 0 rfl (dk_at dk_Outl_chances_1 20 rfl) ?_
    refine r_getR C fl_Outl_9 100 (hL.1 100 _ rfl) rfl (dk_at dk_Outl_chances_1 21 rfl) ?_
    refine r_iload C 6 rfl (dk_at dk_Outl_chances_1 22 rfl) ?_
    refine r_iconst C 1 (dk_at dk_Outl_chances_1 23 rfl) ?_
    refine r_iadd C (dk_at dk_Outl_chances_1 24 rfl) ?_
    obtain ⟨q4, h⟩ := h
    refine r_lald C 103 (hL.1 103 _ rfl) q4 (dk_at dk_Outl_chances_1 25 rfl) ?_
    obtain ⟨q7, h⟩ := h
    refine r_last C 103 (hL.1 103 _ rfl) q7 (dk_at dk_Outl_chances_1 26 rfl) (r_sg (fun σ5 e6 => ?_))
    replace h := h σ5 e6
    refine r_iinc C 6 rfl rfl [(7, .int (a7 + 1)), (0, .ref (wAd w 100)), (1, .int a1), (2, .int a2), (3, .int a3), (4, .int a4), (6, .int a6)] rfl rfl (dk_at dk_Outl_chances_1 27 rfl) ?_
    refine r_goto C 102 rfl (dk_at dk_Outl_chances_1 28 rfl) ?_
    refine r_lv [1, 2, 3, 4, 5, 6, 0] rfl ?_
    exact k102 _ _ h
set_option maxRecDepth 20000 in
theorem t_Outl_chances_l102 {X : CT} {w : WO} (C : CF X w (lim0 w) 9 cX3_chances RX3 (some .long) (.code yX3_chances cX3_chances 9 (some .long)) (rmK 4 124)) {T : TXT} {z : EXa} (hL : LyX w T z) {K68 : DD → Int32 → Prop} {a1 : Int32} {a2 : Int32} {a3 : Int32} {a4 : Int32} {a6 : Int32} {post : Int64 → DD → Prop} (k68 : ∀ (σ : DD) (a6 : Int32), K68 σ a6 → gW X w (lim0 w) 9 (QL X w post) σ 68 [(0, .ref (wAd w 100)), (1, .int a1), (2, .int a2), (3, .int a3), (4, .int a4), (6, .int a6)] []) {σ : DD} {a7 : Int32} (h : w_Outl_chances_l102 T K68 post σ a1 a2 a3 a4 a6 a7) : gW X w (lim0 w) 9 (QL X w post) σ 102 [(0, .ref (wAd w 100)), (1, .int a1), (2, .int a2), (3, .int a3), (4, .int a4), (6, .int a6), (7, .int a7)] [] :=
  LoopW (G := fun x : DD × Int32 => gW X w (lim0 w) 9 (QL X w post) x.1 102 [(0, .ref (wAd w 100)), (1, .int a1), (2, .int a2), (3, .int a3), (4, .int a4), (6, .int a6), (7, .int x.2)] []) (fun K x hK hF => t_Outl_chances_b102 C hL k68 (fun σ a7 q => hK (σ, a7) q) hF) h
set_option maxRecDepth 20000 in
theorem t_Outl_chances_b151 {X : CT} {w : WO} (C : CF X w (lim0 w) 9 cX3_chances RX3 (some .long) (.code yX3_chances cX3_chances 9 (some .long)) (rmK 4 124)) {T : TXT} {z : EXa} (hL : LyX w T z) {K151 : DD → Int64 → Int32 → Prop} {post : Int64 → DD → Prop} (k151 : ∀ (σ : DD) (a6 : Int64) (a8 : Int32), K151 σ a6 a8 → gW X w (lim0 w) 9 (QL X w post) σ 151 [(0, .ref (wAd w 100)), (6, .long a6), (8, .int a8)] []) {σ : DD} {a6 : Int64} {a8 : Int32} (h : w_Outl_chances_b151 T K151 post σ a6 a8) : gW X w (lim0 w) 9 (QL X w post) σ 151 [(0, .ref (wAd w 100)), (6, .long a6), (8, .int a8)] [] := by
  unfold w_Outl_chances_b151 at h
  refine r_iload C 2 rfl (dk_at dk_Outl_chances_2 0 rfl) ?_
  refine r_bipush C 99 (dk_at dk_Outl_chances_2 1 rfl) ?_
  refine r_icmp_gt C 176 rfl (dk_at dk_Outl_chances_2 2 rfl) (fun c8 => ?_) (fun c8 => ?_)
  · replace h := h.1 c8
    refine r_lload C 1 rfl (dk_at dk_Outl_chances_2 12 rfl) ?_
    exact r_lret C h (dk_at dk_Outl_chances_2 13 rfl)
  · replace h := h.2 c8
    refine r_lload C 1 rfl (dk_at dk_Outl_chances_2 3 rfl) ?_
    refine r_aload_n C 0 rfl (dk_at dk_Outl_chances_2 4 rfl) ?_
    refine r_getR C fl_Outl_9 100 (hL.1 100 _ rfl) rfl (dk_at dk_Outl_chances_2 5 rfl) ?_
    refine r_iload C 2 rfl (dk_at dk_Outl_chances_2 6 rfl) ?_
    obtain ⟨q9, h⟩ := h
    refine r_lald C 103 (hL.1 103 _ rfl) q9 (dk_at dk_Outl_chances_2 7 rfl) ?_
    refine r_ladd C (dk_at dk_Outl_chances_2 8 rfl) ?_
    refine r_topl (fun v10 e11 => ?_)
    replace h := h v10 e11
    refine r_lstore C [(6, .long v10), (0, .ref (wAd w 100)), (8, .int a8)] rfl rfl (dk_at dk_Outl_chances_2 9 rfl) ?_
    refine r_iinc C 2 rfl rfl [(8, .int (a8 + 1)), (6, .long v10), (0, .ref (wAd w 100))] rfl rfl (dk_at dk_Outl_chances_2 10 rfl) ?_
    refine r_goto C 151 rfl (dk_at dk_Outl_chances_2 11 rfl) ?_
    refine r_lv [2, 1, 0] rfl ?_
    exact k151 _ _ _ h
set_option maxRecDepth 20000 in
theorem t_Outl_chances_l151 {X : CT} {w : WO} (C : CF X w (lim0 w) 9 cX3_chances RX3 (some .long) (.code yX3_chances cX3_chances 9 (some .long)) (rmK 4 124)) {T : TXT} {z : EXa} (hL : LyX w T z) {post : Int64 → DD → Prop} {σ : DD} {a6 : Int64} {a8 : Int32} (h : w_Outl_chances_l151 T post σ a6 a8) : gW X w (lim0 w) 9 (QL X w post) σ 151 [(0, .ref (wAd w 100)), (6, .long a6), (8, .int a8)] [] :=
  LoopW (G := fun x : DD × Int64 × Int32 => gW X w (lim0 w) 9 (QL X w post) x.1 151 [(0, .ref (wAd w 100)), (6, .long x.2.1), (8, .int x.2.2)] []) (fun K x hK hF => t_Outl_chances_b151 C hL (fun σ a6 a8 q => hK (σ, a6, a8) q) hF) h
set_option maxRecDepth 20000 in
theorem t_Outl_chances_b68 {X : CT} {w : WO} (C : CF X w (lim0 w) 9 cX3_chances RX3 (some .long) (.code yX3_chances cX3_chances 9 (some .long)) (rmK 4 124)) {T : TXT} {z : EXa} (hL : LyX w T z) {a1 : Int32} {a2 : Int32} {a3 : Int32} {a4 : Int32} {K68 : DD → Int32 → Prop} {post : Int64 → DD → Prop} (k68 : ∀ (σ : DD) (a6 : Int32), K68 σ a6 → gW X w (lim0 w) 9 (QL X w post) σ 68 [(0, .ref (wAd w 100)), (1, .int a1), (2, .int a2), (3, .int a3), (4, .int a4), (6, .int a6)] []) {σ : DD} {a6 : Int32} (h : w_Outl_chances_b68 T a1 a2 a3 a4 K68 post σ a6) : gW X w (lim0 w) 9 (QL X w post) σ 68 [(0, .ref (wAd w 100)), (1, .int a1), (2, .int a2), (3, .int a3), (4, .int a4), (6, .int a6)] [] := by
  unfold w_Outl_chances_b68 at h
  refine r_iload C 5 rfl (dk_at dk_Outl_chances_0 35 rfl) ?_
  refine r_iload C 4 rfl (dk_at dk_Outl_chances_0 36 rfl) ?_
  refine r_iload_n C 3 rfl (dk_at dk_Outl_chances_0 37 rfl) ?_
  refine r_iadd C (dk_at dk_Outl_chances_0 38 rfl) ?_
  refine r_icmp_gt C 145 rfl (dk_at dk_Outl_chances_0 39 rfl) (fun c12 => ?_) (fun c12 => ?_)
  · replace h := h.1 c12
    refine r_lconst C 0 (dk_at dk_Outl_chances_1 36 rfl) ?_
    refine r_lstore C [(6, .long 0), (0, .ref (wAd w 100)), (1, .int a1), (2, .int a2), (3, .int a3), (4, .int a4)] rfl rfl (dk_at dk_Outl_chances_1 37 rfl) ?_
    refine r_iconst C 0 (dk_at dk_Outl_chances_1 38 rfl) ?_
    refine r_istore C [(8, .int 0), (6, .long 0), (0, .ref (wAd w 100)), (1, .int a1), (2, .int a2), (3, .int a3), (4, .int a4)] rfl rfl (dk_at dk_Outl_chances_1 39 rfl) ?_
    refine r_lv [2, 1, 0] rfl ?_
    exact t_Outl_chances_l151 C hL h
  · replace h := h.2 c12
    refine r_aload_n C 0 rfl (dk_at dk_Outl_chances_1 0 rfl) ?_
    refine r_getR C fl_Outl_27 100 (hL.1 100 _ rfl) rfl (dk_at dk_Outl_chances_1 1 rfl) ?_
    refine r_iload_n C 1 rfl (dk_at dk_Outl_chances_1 2 rfl) ?_
    refine r_iload_n C 2 rfl (dk_at dk_Outl_chances_1 3 rfl) ?_
    refine r_iload C 5 rfl (dk_at dk_Outl_chances_1 4 rfl) ?_
    refine r_cvI C cl_Outl_58 50 (hL.1 50 _ rfl) [.int a1, .int a2, .int a6] (m_Court_canAlone hL h) (rmK_ok rfl rfl) rfl rfl (Nat.le_of_ble_eq_true rfl) (dk_at dk_Outl_chances_1 5 rfl) (fun r13 σ14 h => ?_)
    refine r_if_eq C 99 rfl (dk_at dk_Outl_chances_1 6 rfl) (fun c15 => ?_) (fun c15 => ?_)
    · replace h := h.1 c15
      refine r_iconst C 0 (dk_at dk_Outl_chances_1 12 rfl) ?_
      refine r_istore C [(7, .int 0), (0, .ref (wAd w 100)), (1, .int a1), (2, .int a2), (3, .int a3), (4, .int a4), (6, .int a6)] rfl rfl (dk_at dk_Outl_chances_1 13 rfl) ?_
      refine r_lv [1, 2, 3, 4, 5, 6, 0] rfl ?_
      exact t_Outl_chances_l102 C hL k68 h
    · replace h := h.2 c15
      refine r_aload_n C 0 rfl (dk_at dk_Outl_chances_1 7 rfl) ?_
      refine r_iload_n C 1 rfl (dk_at dk_Outl_chances_1 8 rfl) ?_
      refine r_iload_n C 2 rfl (dk_at dk_Outl_chances_1 9 rfl) ?_
      refine r_iload C 5 rfl (dk_at dk_Outl_chances_1 10 rfl) ?_
      refine r_cvV C cl_Outl_62 100 (hL.1 100 _ rfl) [.int a1, .int a2, .int a6] (m_Outl_tryReading hL h) (rmK_ok rfl rfl) rfl rfl (Nat.le_of_ble_eq_true rfl) (dk_at dk_Outl_chances_1 11 rfl) (fun σ17 h => ?_)
      refine r_iconst C 0 (dk_at dk_Outl_chances_1 12 rfl) ?_
      refine r_istore C [(7, .int 0), (0, .ref (wAd w 100)), (1, .int a1), (2, .int a2), (3, .int a3), (4, .int a4), (6, .int a6)] rfl rfl (dk_at dk_Outl_chances_1 13 rfl) ?_
      refine r_lv [1, 2, 3, 4, 5, 6, 0] rfl ?_
      exact t_Outl_chances_l102 C hL k68 h
set_option maxRecDepth 20000 in
theorem t_Outl_chances_l68 {X : CT} {w : WO} (C : CF X w (lim0 w) 9 cX3_chances RX3 (some .long) (.code yX3_chances cX3_chances 9 (some .long)) (rmK 4 124)) {T : TXT} {z : EXa} (hL : LyX w T z) {a1 : Int32} {a2 : Int32} {a3 : Int32} {a4 : Int32} {post : Int64 → DD → Prop} {σ : DD} {a6 : Int32} (h : w_Outl_chances_l68 T post σ a1 a2 a3 a4 a6) : gW X w (lim0 w) 9 (QL X w post) σ 68 [(0, .ref (wAd w 100)), (1, .int a1), (2, .int a2), (3, .int a3), (4, .int a4), (6, .int a6)] [] :=
  LoopW (G := fun x : DD × Int32 => gW X w (lim0 w) 9 (QL X w post) x.1 68 [(0, .ref (wAd w 100)), (1, .int a1), (2, .int a2), (3, .int a3), (4, .int a4), (6, .int x.2)] []) (fun K x hK hF => t_Outl_chances_b68 C hL (fun σ a6 q => hK (σ, a6) q) hF) h
set_option maxRecDepth 20000 in
theorem t_Outl_chances_j43 {X : CT} {w : WO} (C : CF X w (lim0 w) 9 cX3_chances RX3 (some .long) (.code yX3_chances cX3_chances 9 (some .long)) (rmK 4 124)) {T : TXT} {z : EXa} (hL : LyX w T z) {post : Int64 → DD → Prop} {a1 : Int32} {a2 : Int32} {a3 : Int32} {a4 : Int32} {t0 : Int32} {σ : DD} (h : w_Outl_chances_j43 T post σ a1 a2 a3 a4 t0) : gW X w (lim0 w) 9 (QL X w post) σ 43 [(0, .ref (wAd w 100)), (1, .int a1), (2, .int a2), (3, .int a3), (4, .int a4)] [.int t0] := by
  unfold w_Outl_chances_j43 at h
  refine r_istore C [(5, .int t0), (0, .ref (wAd w 100)), (1, .int a1), (2, .int a2), (3, .int a3), (4, .int a4)] rfl rfl (dk_at dk_Outl_chances_0 23 rfl) ?_
  refine r_aload_n C 1 rfl (dk_at dk_Outl_chances_0 24 rfl) ?_
  refine r_getR C fl_Outl_9 100 (hL.1 100 _ rfl) rfl (dk_at dk_Outl_chances_0 25 rfl) ?_
  refine r_iconst C 0 (dk_at dk_Outl_chances_0 26 rfl) ?_
  refine r_bipush C 99 (dk_at dk_Outl_chances_0 27 rfl) ?_
  refine r_iload C 0 rfl (dk_at dk_Outl_chances_0 28 rfl) ?_
  refine r_mmin C tw_1079 tw_748 tw_14 tw_749 (Nat.le_of_ble_eq_true rfl) (Nat.le_of_ble_eq_true rfl) (dk_at dk_Outl_chances_0 29 rfl) ?_
  refine r_mmax C tw_1080 tw_1001 tw_14 tw_1002 (Nat.le_of_ble_eq_true rfl) (Nat.le_of_ble_eq_true rfl) (dk_at dk_Outl_chances_0 30 rfl) ?_
  refine r_ldc2 C tw_1081 (dk_at dk_Outl_chances_0 31 rfl) ?_
  obtain ⟨q20, h⟩ := h
  refine r_last C 103 (hL.1 103 _ rfl) q20 (dk_at dk_Outl_chances_0 32 rfl) (r_sg (fun σ18 e19 => ?_))
  replace h := h σ18 e19
  refine r_iload C 5 rfl (dk_at dk_Outl_chances_0 33 rfl) ?_
  refine r_istore C [(6, .int a4), (5, .int t0), (0, .ref (wAd w 100)), (1, .int a1), (2, .int a2), (3, .int a3), (4, .int a4)] rfl rfl (dk_at dk_Outl_chances_0 34 rfl) ?_
  refine r_lv [2, 3, 4, 5, 6, 0] rfl ?_
  exact t_Outl_chances_l68 C hL h
set_option maxRecDepth 20000 in
theorem m_Outl_chances {l : Launch} {w : WO} {T : TXT} {z : EXa} (hL : LyX w T z) {σ : DD} {a1 : Int32} {a2 : Int32} {a3 : Int32} {post : Int64 → DD → Prop} (h : w_Outl_chances T σ a1 a2 a3 post) : ML l w yX3_chances cX3_chances 9 (rmK 4 124) σ [.ref (wAd w 100), .int a1, .int a2, .int a3] post :=
  met_head (rt := (some .long)) (by decide) rfl (fun X hX C => by
  subst hX
  unfold w_Outl_chances at h
  show gW X w (lim0 w) 9 (QL X w post) σ 0 [(0, .ref (wAd w 100)), (1, .int a1), (2, .int a2), (3, .int a3)] []
  refine r_aload_n C 0 rfl (dk_at dk_Outl_chances_0 0 rfl) ?_
  refine r_getR C fl_Outl_23 100 (hL.1 100 _ rfl) rfl (dk_at dk_Outl_chances_0 1 rfl) ?_
  refine r_getR C fl_Outl_31 200 (hL.1 200 _ rfl) rfl (dk_at dk_Outl_chances_0 2 rfl) ?_
  refine r_iconst C 0 (dk_at dk_Outl_chances_0 3 rfl) ?_
  refine r_ialdK C 208 (hL.1 208 _ rfl) lk_0 (vk_0_4) (dk_at dk_Outl_chances_0 4 rfl) ?_
  refine r_topi (fun v21 e22 => ?_)
  replace h := h v21 e22
  refine r_istore C [(4, .int v21), (0, .ref (wAd w 100)), (1, .int a1), (2, .int a2), (3, .int a3)] rfl rfl (dk_at dk_Outl_chances_0 5 rfl) ?_
  refine r_aload_n C 1 rfl (dk_at dk_Outl_chances_0 6 rfl) ?_
  refine r_getR C fl_Outl_9 100 (hL.1 100 _ rfl) rfl (dk_at dk_Outl_chances_0 7 rfl) ?_
  refine r_lconst C 0 (dk_at dk_Outl_chances_0 8 rfl) ?_
  refine r_csV C cs_Outl_36 [.ref (wAd w 103), .long 0] (m_J7_fill_d0a16 hL (hL.1 103 _ rfl) h) (rmK_ok rfl rfl) rfl rfl (Nat.le_of_ble_eq_true rfl) (dk_at dk_Outl_chances_0 9 rfl) (fun σ24 h => ?_)
  refine r_iload C 0 rfl (dk_at dk_Outl_chances_0 10 rfl) ?_
  refine r_if_ne C 28 rfl (dk_at dk_Outl_chances_0 11 rfl) (fun c25 => ?_) (fun c25 => ?_)
  · replace h := h.1 c25
    refine r_aload_n C 1 rfl (dk_at dk_Outl_chances_0 14 rfl) ?_
    refine r_getR C fl_Outl_27 100 (hL.1 100 _ rfl) rfl (dk_at dk_Outl_chances_0 15 rfl) ?_
    refine r_iload_n C 2 rfl (dk_at dk_Outl_chances_0 16 rfl) ?_
    refine r_iload C 0 rfl (dk_at dk_Outl_chances_0 17 rfl) ?_
    refine r_iconst C 1 (dk_at dk_Outl_chances_0 18 rfl) ?_
    refine r_isub C (dk_at dk_Outl_chances_0 19 rfl) ?_
    refine r_cvI C cl_Outl_42 50 (hL.1 50 _ rfl) [.int a1, .int (v21 - 1)] (m_Court_holdsUntil hL h) (rmK_ok rfl rfl) rfl rfl (Nat.le_of_ble_eq_true rfl) (dk_at dk_Outl_chances_0 20 rfl) (fun r26 σ27 h => ?_)
    refine r_iload C 0 rfl (dk_at dk_Outl_chances_0 21 rfl) ?_
    refine r_isub C (dk_at dk_Outl_chances_0 22 rfl) ?_
    refine r_lv [1, 2, 3, 4, 0] rfl ?_
    exact t_Outl_chances_j43 C hL h
  · replace h := h.2 c25
    refine r_iconst C 0 (dk_at dk_Outl_chances_0 12 rfl) ?_
    refine r_goto C 43 rfl (dk_at dk_Outl_chances_0 13 rfl) ?_
    refine r_lv [1, 2, 3, 4, 0] rfl ?_
    exact t_Outl_chances_j43 C hL h
  )
set_option maxRecDepth 20000 in
theorem m_Outl_binds {l : Launch} {w : WO} {T : TXT} {z : EXa} (hL : LyX w T z) {σ : DD} {a1 : Int32} {post : Int32 → DD → Prop} (h : w_Outl_binds T σ a1 post) : MI l w yX3_binds cX3_binds 2 .boolean (rmK 1 22) σ [.ref (wAd w 100), .int a1] post :=
  met_head (rt := (some .boolean)) (by decide) rfl (fun X hX C => by
  subst hX
  unfold w_Outl_binds at h
  show gW X w (lim0 w) 2 (QI X w post) σ 0 [(0, .ref (wAd w 100)), (1, .int a1)] []
  refine r_aload_n C 0 rfl (dk_at dk_Outl_binds_0 0 rfl) ?_
  refine r_getR C fl_Outl_23 100 (hL.1 100 _ rfl) rfl (dk_at dk_Outl_binds_0 1 rfl) ?_
  refine r_aload_n C 0 rfl (dk_at dk_Outl_binds_0 2 rfl) ?_
  refine r_getR C fl_Outl_23 100 (hL.1 100 _ rfl) rfl (dk_at dk_Outl_binds_0 3 rfl) ?_
  refine r_getR C fl_Outl_79 200 (hL.1 200 _ rfl) rfl (dk_at dk_Outl_binds_0 4 rfl) ?_
  refine r_iload_n C 1 rfl (dk_at dk_Outl_binds_0 5 rfl) ?_
  obtain ⟨q1, h⟩ := h
  refine r_iald C 216 (hL.1 216 _ rfl) q1 (dk_at dk_Outl_binds_0 6 rfl) ?_
  refine r_iconst C 2 (dk_at dk_Outl_binds_0 7 rfl) ?_
  refine r_cvI C cl_Outl_102 200 (hL.1 200 _ rfl) [.int (gI σ 216 a1.toNatClampNeg), .int 2] (m_Real_trait hL h) (rmK_ok rfl rfl) rfl rfl (Nat.le_of_ble_eq_true rfl) (dk_at dk_Outl_binds_0 8 rfl) (fun r2 σ3 h => ?_)
  refine r_aload_n C 0 rfl (dk_at dk_Outl_binds_0 9 rfl) ?_
  refine r_getR C fl_Outl_23 100 (hL.1 100 _ rfl) rfl (dk_at dk_Outl_binds_0 10 rfl) ?_
  refine r_getR C fl_Outl_105 200 (hL.1 200 _ rfl) rfl (dk_at dk_Outl_binds_0 11 rfl) ?_
  refine r_iload_n C 1 rfl (dk_at dk_Outl_binds_0 12 rfl) ?_
  obtain ⟨q4, h⟩ := h
  refine r_iald C 215 (hL.1 215 _ rfl) q4 (dk_at dk_Outl_binds_0 13 rfl) ?_
  refine r_ishr C (dk_at dk_Outl_binds_0 14 rfl) ?_
  refine r_iconst C 1 (dk_at dk_Outl_binds_0 15 rfl) ?_
  refine r_iand C (dk_at dk_Outl_binds_0 16 rfl) ?_
  refine r_if_eq C 36 rfl (dk_at dk_Outl_binds_0 17 rfl) (fun c5 => ?_) (fun c5 => ?_)
  · replace h := h.1 c5
    refine r_iconst C 0 (dk_at dk_Outl_binds_0 20 rfl) ?_
    exact r_zret C (Or.inl rfl) h (dk_at dk_Outl_binds_0 21 rfl)
  · replace h := h.2 c5
    refine r_iconst C 1 (dk_at dk_Outl_binds_0 18 rfl) ?_
    refine r_goto C 37 rfl (dk_at dk_Outl_binds_0 19 rfl) ?_
    exact r_zret C (Or.inr rfl) h (dk_at dk_Outl_binds_0 21 rfl)
  )
set_option maxRecDepth 20000 in
theorem t_Outl_lookAtFines_j130 {X : CT} {w : WO} (C : CF X w (lim0 w) 6 cX3_lookAtFines RX3 none (.code yX3_lookAtFines cX3_lookAtFines 6 none) (rmK 4 119)) {T : TXT} {z : EXa} (hL : LyX w T z) {K2 : DD → Int32 → Prop} {post : DD → Prop} {a1 : Int32} {t1 : Int32} {t2 : Int32} (k2 : ∀ (σ : DD) (a1 : Int32), K2 σ a1 → gW X w (lim0 w) 6 (QV X w post) σ 2 [(0, .ref (wAd w 100)), (1, .int a1)] []) {σ : DD} (h : w_Outl_lookAtFines_j130 T K2 post σ a1 t1 t2) : gW X w (lim0 w) 6 (QV X w post) σ 130 [(0, .ref (wAd w 100)), (1, .int a1)] [.int t2, .int t1, .ref (wAd w 105)] := by
  unfold w_Outl_lookAtFines_j130 at h
  obtain ⟨q3, h⟩ := h
  refine r_iast C 105 (hL.1 105 _ rfl) q3 (dk_at dk_Outl_lookAtFines_1 31 rfl) (r_sg (fun σ1 e2 => ?_))
  replace h := h σ1 e2
  refine r_iinc C 1 rfl rfl [(1, .int (a1 + 1)), (0, .ref (wAd w 100))] rfl rfl (dk_at dk_Outl_lookAtFines_1 32 rfl) ?_
  refine r_goto C 2 rfl (dk_at dk_Outl_lookAtFines_1 33 rfl) ?_
  refine r_lv [1, 0] rfl ?_
  exact k2 _ _ h
set_option maxRecDepth 20000 in
theorem t_Outl_lookAtFines_j93 {X : CT} {w : WO} (C : CF X w (lim0 w) 6 cX3_lookAtFines RX3 none (.code yX3_lookAtFines cX3_lookAtFines 6 none) (rmK 4 119)) {T : TXT} {z : EXa} (hL : LyX w T z) {K2 : DD → Int32 → Prop} {post : DD → Prop} {a1 : Int32} {a2 : Int32} {a3 : Int32} {t1 : Int32} {t2 : Int32} (k2 : ∀ (σ : DD) (a1 : Int32), K2 σ a1 → gW X w (lim0 w) 6 (QV X w post) σ 2 [(0, .ref (wAd w 100)), (1, .int a1)] []) {σ : DD} (h : w_Outl_lookAtFines_j93 T K2 post σ a1 a2 a3 t1 t2) : gW X w (lim0 w) 6 (QV X w post) σ 93 [(0, .ref (wAd w 100)), (1, .int a1), (2, .int a2), (3, .int a3)] [.int t2, .int t1, .ref (wAd w 104)] := by
  unfold w_Outl_lookAtFines_j93 at h
  obtain ⟨q6, h⟩ := h
  refine r_zast C 104 (hL.1 104 _ rfl) q6 (dk_at dk_Outl_lookAtFines_1 11 rfl) (r_sg (fun σ4 e5 => ?_))
  replace h := h σ4 e5
  refine r_aload_n C 0 rfl (dk_at dk_Outl_lookAtFines_1 12 rfl) ?_
  refine r_getR C fl_Outl_23 100 (hL.1 100 _ rfl) rfl (dk_at dk_Outl_lookAtFines_1 13 rfl) ?_
  refine r_iload_n C 2 rfl (dk_at dk_Outl_lookAtFines_1 14 rfl) ?_
  refine r_iload_n C 3 rfl (dk_at dk_Outl_lookAtFines_1 15 rfl) ?_
  refine r_cvI C cl_Outl_96 200 (hL.1 200 _ rfl) [.int a2, .int a3] (m_Real_latestTold hL h) (rmK_ok rfl rfl) rfl rfl (Nat.le_of_ble_eq_true rfl) (dk_at dk_Outl_lookAtFines_1 16 rfl) (fun r7 σ8 h => ?_)
  refine r_istore C [(5, .int r7), (0, .ref (wAd w 100)), (1, .int a1), (2, .int a2), (3, .int a3)] rfl rfl (dk_at dk_Outl_lookAtFines_1 17 rfl) ?_
  refine r_aload_n C 1 rfl (dk_at dk_Outl_lookAtFines_1 18 rfl) ?_
  refine r_getR C fl_Outl_19 100 (hL.1 100 _ rfl) rfl (dk_at dk_Outl_lookAtFines_1 19 rfl) ?_
  refine r_iload_n C 2 rfl (dk_at dk_Outl_lookAtFines_1 20 rfl) ?_
  refine r_iload C 0 rfl (dk_at dk_Outl_lookAtFines_1 21 rfl) ?_
  refine r_iconst C (-1) (dk_at dk_Outl_lookAtFines_1 22 rfl) ?_
  refine r_icmp_ne C 120 rfl (dk_at dk_Outl_lookAtFines_1 23 rfl) (fun c9 => ?_) (fun c9 => ?_)
  · replace h := h.1 c9
    refine r_aload_n C 1 rfl (dk_at dk_Outl_lookAtFines_1 26 rfl) ?_
    refine r_getR C fl_Outl_23 100 (hL.1 100 _ rfl) rfl (dk_at dk_Outl_lookAtFines_1 27 rfl) ?_
    refine r_getR C fl_Outl_99 200 (hL.1 200 _ rfl) rfl (dk_at dk_Outl_lookAtFines_1 28 rfl) ?_
    refine r_iload C 0 rfl (dk_at dk_Outl_lookAtFines_1 29 rfl) ?_
    obtain ⟨q10, h⟩ := h
    refine r_iald C 212 (hL.1 212 _ rfl) q10 (dk_at dk_Outl_lookAtFines_1 30 rfl) ?_
    refine r_lv [1, 2] rfl ?_
    exact t_Outl_lookAtFines_j130 C hL k2 h
  · replace h := h.2 c9
    refine r_iconst C (-1) (dk_at dk_Outl_lookAtFines_1 24 rfl) ?_
    refine r_goto C 130 rfl (dk_at dk_Outl_lookAtFines_1 25 rfl) ?_
    refine r_lv [1, 2] rfl ?_
    exact t_Outl_lookAtFines_j130 C hL k2 h
set_option maxRecDepth 20000 in
theorem t_Outl_lookAtFines_j85 {X : CT} {w : WO} (C : CF X w (lim0 w) 6 cX3_lookAtFines RX3 none (.code yX3_lookAtFines cX3_lookAtFines 6 none) (rmK 4 119)) {T : TXT} {z : EXa} (hL : LyX w T z) {K2 : DD → Int32 → Prop} {post : DD → Prop} {a1 : Int32} {a2 : Int32} {a3 : Int32} {t1 : Int32} {t2 : Int32} {t3 : Int32} (k2 : ∀ (σ : DD) (a1 : Int32), K2 σ a1 → gW X w (lim0 w) 6 (QV X w post) σ 2 [(0, .ref (wAd w 100)), (1, .int a1)] []) {σ : DD} (h : w_Outl_lookAtFines_j85 T K2 post σ a1 a2 a3 t1 t2 t3) : gW X w (lim0 w) 6 (QV X w post) σ 85 [(0, .ref (wAd w 100)), (1, .int a1), (2, .int a2), (3, .int a3)] [.int t3, .int t2, .int t1, .ref (wAd w 104)] := by
  unfold w_Outl_lookAtFines_j85 at h
  refine r_icmp_ne C 92 rfl (dk_at dk_Outl_lookAtFines_1 7 rfl) (fun c11 => ?_) (fun c11 => ?_)
  · replace h := h.1 c11
    refine r_iconst C 0 (dk_at dk_Outl_lookAtFines_1 10 rfl) ?_
    refine r_lv [0, 1, 2, 3] rfl ?_
    exact t_Outl_lookAtFines_j93 C hL k2 h
  · replace h := h.2 c11
    refine r_iconst C 1 (dk_at dk_Outl_lookAtFines_1 8 rfl) ?_
    refine r_goto C 93 rfl (dk_at dk_Outl_lookAtFines_1 9 rfl) ?_
    refine r_lv [0, 1, 2, 3] rfl ?_
    exact t_Outl_lookAtFines_j93 C hL k2 h
set_option maxRecDepth 20000 in
theorem t_Outl_lookAtFines_j58 {X : CT} {w : WO} (C : CF X w (lim0 w) 6 cX3_lookAtFines RX3 none (.code yX3_lookAtFines cX3_lookAtFines 6 none) (rmK 4 119)) {T : TXT} {z : EXa} (hL : LyX w T z) {K2 : DD → Int32 → Prop} {post : DD → Prop} {a1 : Int32} {a2 : Int32} {a3 : Int32} {t0 : Int32} (k2 : ∀ (σ : DD) (a1 : Int32), K2 σ a1 → gW X w (lim0 w) 6 (QV X w post) σ 2 [(0, .ref (wAd w 100)), (1, .int a1)] []) {σ : DD} (h : w_Outl_lookAtFines_j58 T K2 post σ a1 a2 a3 t0) : gW X w (lim0 w) 6 (QV X w post) σ 58 [(0, .ref (wAd w 100)), (1, .int a1), (2, .int a2), (3, .int a3)] [.int t0] := by
  unfold w_Outl_lookAtFines_j58 at h
  refine r_istore C [(4, .int t0), (0, .ref (wAd w 100)), (1, .int a1), (2, .int a2), (3, .int a3)] rfl rfl (dk_at dk_Outl_lookAtFines_0 32 rfl) ?_
  refine r_aload_n C 1 rfl (dk_at dk_Outl_lookAtFines_0 33 rfl) ?_
  refine r_getR C fl_Outl_15 100 (hL.1 100 _ rfl) rfl (dk_at dk_Outl_lookAtFines_0 34 rfl) ?_
  refine r_iload_n C 2 rfl (dk_at dk_Outl_lookAtFines_0 35 rfl) ?_
  refine r_iload C 0 rfl (dk_at dk_Outl_lookAtFines_0 36 rfl) ?_
  refine r_aload_n C 1 rfl (dk_at dk_Outl_lookAtFines_0 37 rfl) ?_
  refine r_getR C fl_Outl_23 100 (hL.1 100 _ rfl) rfl (dk_at dk_Outl_lookAtFines_0 38 rfl) ?_
  refine r_getR C fl_Outl_93 200 (hL.1 200 _ rfl) rfl (dk_at dk_Outl_lookAtFines_0 39 rfl) ?_
  refine r_iload_n C 2 rfl (dk_at dk_Outl_lookAtFines_1 0 rfl) ?_
  obtain ⟨q12, h⟩ := h
  refine r_iald C 217 (hL.1 217 _ rfl) q12 (dk_at dk_Outl_lookAtFines_1 1 rfl) ?_
  refine r_iconst C 1 (dk_at dk_Outl_lookAtFines_1 2 rfl) ?_
  refine r_icmp_ne C 84 rfl (dk_at dk_Outl_lookAtFines_1 3 rfl) (fun c13 => ?_) (fun c13 => ?_)
  · replace h := h.1 c13
    refine r_iconst C 0 (dk_at dk_Outl_lookAtFines_1 6 rfl) ?_
    refine r_lv [1, 2, 3, 4] rfl ?_
    exact t_Outl_lookAtFines_j85 C hL k2 h
  · replace h := h.2 c13
    refine r_iconst C 1 (dk_at dk_Outl_lookAtFines_1 4 rfl) ?_
    refine r_goto C 85 rfl (dk_at dk_Outl_lookAtFines_1 5 rfl) ?_
    refine r_lv [1, 2, 3, 4] rfl ?_
    exact t_Outl_lookAtFines_j85 C hL k2 h
set_option maxRecDepth 20000 in
theorem t_Outl_lookAtFines_j57 {X : CT} {w : WO} (C : CF X w (lim0 w) 6 cX3_lookAtFines RX3 none (.code yX3_lookAtFines cX3_lookAtFines 6 none) (rmK 4 119)) {T : TXT} {z : EXa} (hL : LyX w T z) {K2 : DD → Int32 → Prop} {post : DD → Prop} {a1 : Int32} {a2 : Int32} {a3 : Int32} (k2 : ∀ (σ : DD) (a1 : Int32), K2 σ a1 → gW X w (lim0 w) 6 (QV X w post) σ 2 [(0, .ref (wAd w 100)), (1, .int a1)] []) {σ : DD} (h : w_Outl_lookAtFines_j57 T K2 post σ a1 a2 a3) : gW X w (lim0 w) 6 (QV X w post) σ 57 [(0, .ref (wAd w 100)), (1, .int a1), (2, .int a2), (3, .int a3)] [] := by
  unfold w_Outl_lookAtFines_j57 at h
  refine r_iconst C 0 (dk_at dk_Outl_lookAtFines_0 31 rfl) ?_
  refine r_lv [0, 1, 2, 3] rfl ?_
  exact t_Outl_lookAtFines_j58 C hL k2 h
set_option maxRecDepth 20000 in
theorem t_Outl_lookAtFines_b2 {X : CT} {w : WO} (C : CF X w (lim0 w) 6 cX3_lookAtFines RX3 none (.code yX3_lookAtFines cX3_lookAtFines 6 none) (rmK 4 119)) {T : TXT} {z : EXa} (hL : LyX w T z) {K2 : DD → Int32 → Prop} {post : DD → Prop} (k2 : ∀ (σ : DD) (a1 : Int32), K2 σ a1 → gW X w (lim0 w) 6 (QV X w post) σ 2 [(0, .ref (wAd w 100)), (1, .int a1)] []) {σ : DD} {a1 : Int32} (h : w_Outl_lookAtFines_b2 T K2 post σ a1) : gW X w (lim0 w) 6 (QV X w post) σ 2 [(0, .ref (wAd w 100)), (1, .int a1)] [] := by
  unfold w_Outl_lookAtFines_b2 at h
  refine r_iload_n C 1 rfl (dk_at dk_Outl_lookAtFines_0 2 rfl) ?_
  refine r_aload_n C 0 rfl (dk_at dk_Outl_lookAtFines_0 3 rfl) ?_
  refine r_getR C fl_Outl_23 100 (hL.1 100 _ rfl) rfl (dk_at dk_Outl_lookAtFines_0 4 rfl) ?_
  refine r_getI C fl_Outl_75 200 (hL.1 200 _ rfl) rfl (dk_at dk_Outl_lookAtFines_0 5 rfl) ?_
  refine r_icmp_ge C 137 rfl (dk_at dk_Outl_lookAtFines_0 6 rfl) (fun c14 => ?_) (fun c14 => ?_)
  · replace h := h.1 c14
    exact r_vret C h (dk_at dk_Outl_lookAtFines_1 34 rfl)
  · replace h := h.2 c14
    refine r_aload_n C 0 rfl (dk_at dk_Outl_lookAtFines_0 7 rfl) ?_
    refine r_getR C fl_Outl_23 100 (hL.1 100 _ rfl) rfl (dk_at dk_Outl_lookAtFines_0 8 rfl) ?_
    refine r_getR C fl_Outl_79 200 (hL.1 200 _ rfl) rfl (dk_at dk_Outl_lookAtFines_0 9 rfl) ?_
    refine r_iload_n C 1 rfl (dk_at dk_Outl_lookAtFines_0 10 rfl) ?_
    obtain ⟨q15, h⟩ := h
    refine r_iald C 216 (hL.1 216 _ rfl) q15 (dk_at dk_Outl_lookAtFines_0 11 rfl) ?_
    refine r_topi (fun v16 e17 => ?_)
    replace h := h v16 e17
    refine r_istore_n C [(2, .int v16), (0, .ref (wAd w 100)), (1, .int a1)] rfl rfl (dk_at dk_Outl_lookAtFines_0 12 rfl) ?_
    refine r_aload_n C 1 rfl (dk_at dk_Outl_lookAtFines_0 13 rfl) ?_
    refine r_getR C fl_Outl_23 100 (hL.1 100 _ rfl) rfl (dk_at dk_Outl_lookAtFines_0 14 rfl) ?_
    refine r_getR C fl_Outl_82 200 (hL.1 200 _ rfl) rfl (dk_at dk_Outl_lookAtFines_0 15 rfl) ?_
    refine r_iload_n C 2 rfl (dk_at dk_Outl_lookAtFines_0 16 rfl) ?_
    obtain ⟨q18, h⟩ := h
    refine r_iald C 214 (hL.1 214 _ rfl) q18 (dk_at dk_Outl_lookAtFines_0 17 rfl) ?_
    refine r_topi (fun v19 e20 => ?_)
    replace h := h v19 e20
    refine r_istore_n C [(3, .int v19), (2, .int v16), (0, .ref (wAd w 100)), (1, .int a1)] rfl rfl (dk_at dk_Outl_lookAtFines_0 18 rfl) ?_
    refine r_aload_n C 2 rfl (dk_at dk_Outl_lookAtFines_0 19 rfl) ?_
    refine r_iload_n C 3 rfl (dk_at dk_Outl_lookAtFines_0 20 rfl) ?_
    refine r_cvI C cl_Outl_85 100 (hL.1 100 _ rfl) [.int a1] (m_Outl_binds hL h) (rmK_ok rfl rfl) rfl rfl (Nat.le_of_ble_eq_true rfl) (dk_at dk_Outl_lookAtFines_0 21 rfl) (fun r21 σ22 h => ?_)
    refine r_if_eq C 57 rfl (dk_at dk_Outl_lookAtFines_0 22 rfl) (fun c23 => ?_) (fun c23 => ?_)
    · replace h := h.1 c23
      refine r_lv [2, 3, 1, 0] rfl ?_
      exact t_Outl_lookAtFines_j57 C hL k2 h
    · replace h := h.2 c23
      refine r_aload_n C 2 rfl (dk_at dk_Outl_lookAtFines_0 23 rfl) ?_
      refine r_getR C fl_Outl_27 100 (hL.1 100 _ rfl) rfl (dk_at dk_Outl_lookAtFines_0 24 rfl) ?_
      refine r_iload_n C 1 rfl (dk_at dk_Outl_lookAtFines_0 25 rfl) ?_
      refine r_iload_n C 0 rfl (dk_at dk_Outl_lookAtFines_0 26 rfl) ?_
      refine r_cvI C cl_Outl_89 50 (hL.1 50 _ rfl) [.int v16, .int v19] (m_Court_holds hL h) (rmK_ok rfl rfl) rfl rfl (Nat.le_of_ble_eq_true rfl) (dk_at dk_Outl_lookAtFines_0 27 rfl) (fun r24 σ25 h => ?_)
      refine r_if_eq C 57 rfl (dk_at dk_Outl_lookAtFines_0 28 rfl) (fun c26 => ?_) (fun c26 => ?_)
      · replace h := h.1 c26
        refine r_lv [2, 3, 1, 0] rfl ?_
        exact t_Outl_lookAtFines_j57 C hL k2 h
      · replace h := h.2 c26
        refine r_iconst C 1 (dk_at dk_Outl_lookAtFines_0 29 rfl) ?_
        refine r_goto C 58 rfl (dk_at dk_Outl_lookAtFines_0 30 rfl) ?_
        refine r_lv [2, 3, 1, 0] rfl ?_
        exact t_Outl_lookAtFines_j58 C hL k2 h
set_option maxRecDepth 20000 in
theorem t_Outl_lookAtFines_l2 {X : CT} {w : WO} (C : CF X w (lim0 w) 6 cX3_lookAtFines RX3 none (.code yX3_lookAtFines cX3_lookAtFines 6 none) (rmK 4 119)) {T : TXT} {z : EXa} (hL : LyX w T z) {post : DD → Prop} {σ : DD} {a1 : Int32} (h : w_Outl_lookAtFines_l2 T post σ a1) : gW X w (lim0 w) 6 (QV X w post) σ 2 [(0, .ref (wAd w 100)), (1, .int a1)] [] :=
  LoopW (G := fun x : DD × Int32 => gW X w (lim0 w) 6 (QV X w post) x.1 2 [(0, .ref (wAd w 100)), (1, .int x.2)] []) (fun K x hK hF => t_Outl_lookAtFines_b2 C hL (fun σ a1 q => hK (σ, a1) q) hF) h
set_option maxRecDepth 20000 in
theorem m_Outl_lookAtFines {l : Launch} {w : WO} {T : TXT} {z : EXa} (hL : LyX w T z) {σ : DD} {post : DD → Prop} (h : w_Outl_lookAtFines T σ post) : MV l w yX3_lookAtFines cX3_lookAtFines 6 (rmK 4 119) σ [.ref (wAd w 100)] post :=
  met_head (rt := none) (by decide) rfl (fun X hX C => by
  subst hX
  unfold w_Outl_lookAtFines at h
  show gW X w (lim0 w) 6 (QV X w post) σ 0 [(0, .ref (wAd w 100))] []
  refine r_iconst C 0 (dk_at dk_Outl_lookAtFines_0 0 rfl) ?_
  refine r_istore_n C [(1, .int 0), (0, .ref (wAd w 100))] rfl rfl (dk_at dk_Outl_lookAtFines_0 1 rfl) ?_
  refine r_lv [1, 0] rfl ?_
  exact t_Outl_lookAtFines_l2 C hL h
  )
set_option maxRecDepth 20000 in
theorem t_Outl_areFinesSo_b6 {X : CT} {w : WO} (C : CF X w (lim0 w) 2 cX3_areFinesSo RX3 (some .boolean) (.code yX3_areFinesSo cX3_areFinesSo 2 (some .boolean)) (rmK 5 144)) {T : TXT} {z : EXa} (hL : LyX w T z) {K6 : DD → Int32 → Prop} {post : Int32 → DD → Prop} (k6 : ∀ (σ : DD) (a1 : Int32), K6 σ a1 → gW X w (lim0 w) 2 (QI X w post) σ 6 [(0, .ref (wAd w 100)), (1, .int a1)] []) {σ : DD} {a1 : Int32} (h : w_Outl_areFinesSo_b6 T K6 post σ a1) : gW X w (lim0 w) 2 (QI X w post) σ 6 [(0, .ref (wAd w 100)), (1, .int a1)] [] := by
  unfold w_Outl_areFinesSo_b6 at h
  refine r_iload_n C 1 rfl (dk_at dk_Outl_areFinesSo_0 4 rfl) ?_
  refine r_aload_n C 0 rfl (dk_at dk_Outl_areFinesSo_0 5 rfl) ?_
  refine r_getR C fl_Outl_23 100 (hL.1 100 _ rfl) rfl (dk_at dk_Outl_areFinesSo_0 6 rfl) ?_
  refine r_getI C fl_Outl_75 200 (hL.1 200 _ rfl) rfl (dk_at dk_Outl_areFinesSo_0 7 rfl) ?_
  refine r_icmp_ge C 34 rfl (dk_at dk_Outl_areFinesSo_0 8 rfl) (fun c1 => ?_) (fun c1 => ?_)
  · replace h := h.1 c1
    refine r_iconst C 1 (dk_at dk_Outl_areFinesSo_0 18 rfl) ?_
    exact r_zret C (Or.inr rfl) h (dk_at dk_Outl_areFinesSo_0 19 rfl)
  · replace h := h.2 c1
    refine r_aload_n C 0 rfl (dk_at dk_Outl_areFinesSo_0 9 rfl) ?_
    refine r_getR C fl_Outl_15 100 (hL.1 100 _ rfl) rfl (dk_at dk_Outl_areFinesSo_0 10 rfl) ?_
    refine r_iload_n C 1 rfl (dk_at dk_Outl_areFinesSo_0 11 rfl) ?_
    obtain ⟨q2, h⟩ := h
    refine r_zald C 104 (hL.1 104 _ rfl) q2 (dk_at dk_Outl_areFinesSo_0 12 rfl) ?_
    refine r_if_ne C 28 rfl (dk_at dk_Outl_areFinesSo_0 13 rfl) (fun c3 => ?_) (fun c3 => ?_)
    · replace h := h.1 c3
      refine r_iinc C 1 rfl rfl [(1, .int (a1 + 1)), (0, .ref (wAd w 100))] rfl rfl (dk_at dk_Outl_areFinesSo_0 16 rfl) ?_
      refine r_goto C 6 rfl (dk_at dk_Outl_areFinesSo_0 17 rfl) ?_
      refine r_lv [1, 0] rfl ?_
      exact k6 _ _ h
    · replace h := h.2 c3
      refine r_iconst C 0 (dk_at dk_Outl_areFinesSo_0 14 rfl) ?_
      exact r_zret C (Or.inl rfl) h (dk_at dk_Outl_areFinesSo_0 15 rfl)
set_option maxRecDepth 20000 in
theorem t_Outl_areFinesSo_l6 {X : CT} {w : WO} (C : CF X w (lim0 w) 2 cX3_areFinesSo RX3 (some .boolean) (.code yX3_areFinesSo cX3_areFinesSo 2 (some .boolean)) (rmK 5 144)) {T : TXT} {z : EXa} (hL : LyX w T z) {post : Int32 → DD → Prop} {σ : DD} {a1 : Int32} (h : w_Outl_areFinesSo_l6 T post σ a1) : gW X w (lim0 w) 2 (QI X w post) σ 6 [(0, .ref (wAd w 100)), (1, .int a1)] [] :=
  LoopW (G := fun x : DD × Int32 => gW X w (lim0 w) 2 (QI X w post) x.1 6 [(0, .ref (wAd w 100)), (1, .int x.2)] []) (fun K x hK hF => t_Outl_areFinesSo_b6 C hL (fun σ a1 q => hK (σ, a1) q) hF) h
set_option maxRecDepth 20000 in
theorem m_Outl_areFinesSo {l : Launch} {w : WO} {T : TXT} {z : EXa} (hL : LyX w T z) {σ : DD} {post : Int32 → DD → Prop} (h : w_Outl_areFinesSo T σ post) : MI l w yX3_areFinesSo cX3_areFinesSo 2 .boolean (rmK 5 144) σ [.ref (wAd w 100)] post :=
  met_head (rt := (some .boolean)) (by decide) rfl (fun X hX C => by
  subst hX
  unfold w_Outl_areFinesSo at h
  show gW X w (lim0 w) 2 (QI X w post) σ 0 [(0, .ref (wAd w 100))] []
  refine r_aload_n C 0 rfl (dk_at dk_Outl_areFinesSo_0 0 rfl) ?_
  refine r_cvV C cl_Outl_108 100 (hL.1 100 _ rfl) [] (m_Outl_lookAtFines hL h) (rmK_ok rfl rfl) rfl rfl (Nat.le_of_ble_eq_true rfl) (dk_at dk_Outl_areFinesSo_0 1 rfl) (fun σ5 h => ?_)
  refine r_iconst C 0 (dk_at dk_Outl_areFinesSo_0 2 rfl) ?_
  refine r_istore_n C [(1, .int 0), (0, .ref (wAd w 100))] rfl rfl (dk_at dk_Outl_areFinesSo_0 3 rfl) ?_
  refine r_lv [1, 0] rfl ?_
  exact t_Outl_areFinesSo_l6 C hL h
  )
set_option maxRecDepth 20000 in
theorem t_Outl_wouldMakeSo_j143 {X : CT} {w : WO} (C : CF X w (lim0 w) 9 cX3_wouldMakeSo RX3 (some .boolean) (.code yX3_wouldMakeSo cX3_wouldMakeSo 9 (some .boolean)) (rmK 3 96)) {T : TXT} {z : EXa} (hL : LyX w T z) {K3 : DD → Int32 → Prop} {post : Int32 → DD → Prop} {a1 : Int32} {a2 : Int32} {a3 : Int32} {a4 : Int32} {a7 : Int32} (k3 : ∀ (σ : DD) (a4 : Int32), K3 σ a4 → gW X w (lim0 w) 9 (QI X w post) σ 3 [(0, .ref (wAd w 100)), (1, .int a1), (2, .int a2), (3, .int a3), (4, .int a4)] []) {σ : DD} (h : w_Outl_wouldMakeSo_j143 T K3 post σ a1 a2 a3 a4 a7) : gW X w (lim0 w) 9 (QI X w post) σ 143 [(0, .ref (wAd w 100)), (1, .int a1), (2, .int a2), (3, .int a3), (4, .int a4), (7, .int a7)] [] := by
  unfold w_Outl_wouldMakeSo_j143 at h
  refine r_iload C 5 rfl (dk_at dk_Outl_wouldMakeSo_1 34 rfl) ?_
  refine r_if_ne C 150 rfl (dk_at dk_Outl_wouldMakeSo_1 35 rfl) (fun c1 => ?_) (fun c1 => ?_)
  · replace h := h.1 c1
    refine r_iinc C 4 rfl rfl [(4, .int (a4 + 1)), (0, .ref (wAd w 100)), (1, .int a1), (2, .int a2), (3, .int a3), (7, .int a7)] rfl rfl (dk_at dk_Outl_wouldMakeSo_1 38 rfl) ?_
    refine r_goto C 3 rfl (dk_at dk_Outl_wouldMakeSo_1 39 rfl) ?_
    refine r_lv [1, 2, 3, 4, 0] rfl ?_
    exact k3 _ _ h
  · replace h := h.2 c1
    refine r_iconst C 0 (dk_at dk_Outl_wouldMakeSo_1 36 rfl) ?_
    exact r_zret C (Or.inl rfl) h (dk_at dk_Outl_wouldMakeSo_1 37 rfl)
set_option maxRecDepth 20000 in
theorem t_Outl_wouldMakeSo_j141 {X : CT} {w : WO} (C : CF X w (lim0 w) 9 cX3_wouldMakeSo RX3 (some .boolean) (.code yX3_wouldMakeSo cX3_wouldMakeSo 9 (some .boolean)) (rmK 3 96)) {T : TXT} {z : EXa} (hL : LyX w T z) {K3 : DD → Int32 → Prop} {post : Int32 → DD → Prop} {a1 : Int32} {a2 : Int32} {a3 : Int32} {a4 : Int32} {t0 : Int32} (k3 : ∀ (σ : DD) (a4 : Int32), K3 σ a4 → gW X w (lim0 w) 9 (QI X w post) σ 3 [(0, .ref (wAd w 100)), (1, .int a1), (2, .int a2), (3, .int a3), (4, .int a4)] []) {σ : DD} (h : w_Outl_wouldMakeSo_j141 T K3 post σ a1 a2 a3 a4 t0) : gW X w (lim0 w) 9 (QI X w post) σ 141 [(0, .ref (wAd w 100)), (1, .int a1), (2, .int a2), (3, .int a3), (4, .int a4)] [.int t0] := by
  unfold w_Outl_wouldMakeSo_j141 at h
  refine r_istore C [(7, .int t0), (0, .ref (wAd w 100)), (1, .int a1), (2, .int a2), (3, .int a3), (4, .int a4)] rfl rfl (dk_at dk_Outl_wouldMakeSo_1 33 rfl) ?_
  refine r_lv [1, 2, 3, 4, 5, 0] rfl ?_
  exact t_Outl_wouldMakeSo_j143 C hL k3 h
set_option maxRecDepth 20000 in
theorem t_Outl_wouldMakeSo_j133 {X : CT} {w : WO} (C : CF X w (lim0 w) 9 cX3_wouldMakeSo RX3 (some .boolean) (.code yX3_wouldMakeSo cX3_wouldMakeSo 9 (some .boolean)) (rmK 3 96)) {T : TXT} {z : EXa} (hL : LyX w T z) {K3 : DD → Int32 → Prop} {post : Int32 → DD → Prop} {a1 : Int32} {a2 : Int32} {a3 : Int32} {a4 : Int32} {t0 : Int32} {t1 : Int32} (k3 : ∀ (σ : DD) (a4 : Int32), K3 σ a4 → gW X w (lim0 w) 9 (QI X w post) σ 3 [(0, .ref (wAd w 100)), (1, .int a1), (2, .int a2), (3, .int a3), (4, .int a4)] []) {σ : DD} (h : w_Outl_wouldMakeSo_j133 T K3 post σ a1 a2 a3 a4 t0 t1) : gW X w (lim0 w) 9 (QI X w post) σ 133 [(0, .ref (wAd w 100)), (1, .int a1), (2, .int a2), (3, .int a3), (4, .int a4)] [.int t1, .int t0] := by
  unfold w_Outl_wouldMakeSo_j133 at h
  refine r_icmp_ne C 140 rfl (dk_at dk_Outl_wouldMakeSo_1 29 rfl) (fun c2 => ?_) (fun c2 => ?_)
  · replace h := h.1 c2
    refine r_iconst C 0 (dk_at dk_Outl_wouldMakeSo_1 32 rfl) ?_
    refine r_lv [0, 1, 2, 3, 4] rfl ?_
    exact t_Outl_wouldMakeSo_j141 C hL k3 h
  · replace h := h.2 c2
    refine r_iconst C 1 (dk_at dk_Outl_wouldMakeSo_1 30 rfl) ?_
    refine r_goto C 141 rfl (dk_at dk_Outl_wouldMakeSo_1 31 rfl) ?_
    refine r_lv [0, 1, 2, 3, 4] rfl ?_
    exact t_Outl_wouldMakeSo_j141 C hL k3 h
set_option maxRecDepth 20000 in
theorem t_Outl_wouldMakeSo_j110 {X : CT} {w : WO} (C : CF X w (lim0 w) 9 cX3_wouldMakeSo RX3 (some .boolean) (.code yX3_wouldMakeSo cX3_wouldMakeSo 9 (some .boolean)) (rmK 3 96)) {T : TXT} {z : EXa} (hL : LyX w T z) {K3 : DD → Int32 → Prop} {post : Int32 → DD → Prop} {a1 : Int32} {a2 : Int32} {a3 : Int32} {a4 : Int32} {t0 : Int32} (k3 : ∀ (σ : DD) (a4 : Int32), K3 σ a4 → gW X w (lim0 w) 9 (QI X w post) σ 3 [(0, .ref (wAd w 100)), (1, .int a1), (2, .int a2), (3, .int a3), (4, .int a4)] []) {σ : DD} (h : w_Outl_wouldMakeSo_j110 T K3 post σ a1 a2 a3 a4 t0) : gW X w (lim0 w) 9 (QI X w post) σ 110 [(0, .ref (wAd w 100)), (1, .int a1), (2, .int a2), (3, .int a3), (4, .int a4)] [.int t0] := by
  unfold w_Outl_wouldMakeSo_j110 at h
  refine r_istore C [(8, .int t0), (0, .ref (wAd w 100)), (1, .int a1), (2, .int a2), (3, .int a3), (4, .int a4)] rfl rfl (dk_at dk_Outl_wouldMakeSo_1 17 rfl) ?_
  refine r_iload C 0 rfl (dk_at dk_Outl_wouldMakeSo_1 18 rfl) ?_
  refine r_aload_n C 1 rfl (dk_at dk_Outl_wouldMakeSo_1 19 rfl) ?_
  refine r_getR C fl_Outl_23 100 (hL.1 100 _ rfl) rfl (dk_at dk_Outl_wouldMakeSo_1 20 rfl) ?_
  refine r_getR C fl_Outl_93 200 (hL.1 200 _ rfl) rfl (dk_at dk_Outl_wouldMakeSo_1 21 rfl) ?_
  refine r_iload C 5 rfl (dk_at dk_Outl_wouldMakeSo_1 22 rfl) ?_
  obtain ⟨q3, h⟩ := h
  refine r_iald C 217 (hL.1 217 _ rfl) q3 (dk_at dk_Outl_wouldMakeSo_1 23 rfl) ?_
  refine r_iconst C 1 (dk_at dk_Outl_wouldMakeSo_1 24 rfl) ?_
  refine r_icmp_ne C 132 rfl (dk_at dk_Outl_wouldMakeSo_1 25 rfl) (fun c4 => ?_) (fun c4 => ?_)
  · replace h := h.1 c4
    refine r_iconst C 0 (dk_at dk_Outl_wouldMakeSo_1 28 rfl) ?_
    refine r_lv [1, 2, 3, 4, 5] rfl ?_
    exact t_Outl_wouldMakeSo_j133 C hL k3 h
  · replace h := h.2 c4
    refine r_iconst C 1 (dk_at dk_Outl_wouldMakeSo_1 26 rfl) ?_
    refine r_goto C 133 rfl (dk_at dk_Outl_wouldMakeSo_1 27 rfl) ?_
    refine r_lv [1, 2, 3, 4, 5] rfl ?_
    exact t_Outl_wouldMakeSo_j133 C hL k3 h
set_option maxRecDepth 20000 in
theorem t_Outl_wouldMakeSo_j109 {X : CT} {w : WO} (C : CF X w (lim0 w) 9 cX3_wouldMakeSo RX3 (some .boolean) (.code yX3_wouldMakeSo cX3_wouldMakeSo 9 (some .boolean)) (rmK 3 96)) {T : TXT} {z : EXa} (hL : LyX w T z) {K3 : DD → Int32 → Prop} {post : Int32 → DD → Prop} {a1 : Int32} {a2 : Int32} {a3 : Int32} {a4 : Int32} (k3 : ∀ (σ : DD) (a4 : Int32), K3 σ a4 → gW X w (lim0 w) 9 (QI X w post) σ 3 [(0, .ref (wAd w 100)), (1, .int a1), (2, .int a2), (3, .int a3), (4, .int a4)] []) {σ : DD} (h : w_Outl_wouldMakeSo_j109 T K3 post σ a1 a2 a3 a4) : gW X w (lim0 w) 9 (QI X w post) σ 109 [(0, .ref (wAd w 100)), (1, .int a1), (2, .int a2), (3, .int a3), (4, .int a4)] [] := by
  unfold w_Outl_wouldMakeSo_j109 at h
  refine r_iconst C 0 (dk_at dk_Outl_wouldMakeSo_1 16 rfl) ?_
  refine r_lv [0, 1, 2, 3, 4] rfl ?_
  exact t_Outl_wouldMakeSo_j110 C hL k3 h
set_option maxRecDepth 20000 in
theorem t_Outl_wouldMakeSo_j63 {X : CT} {w : WO} (C : CF X w (lim0 w) 9 cX3_wouldMakeSo RX3 (some .boolean) (.code yX3_wouldMakeSo cX3_wouldMakeSo 9 (some .boolean)) (rmK 3 96)) {T : TXT} {z : EXa} (hL : LyX w T z) {K3 : DD → Int32 → Prop} {post : Int32 → DD → Prop} {a1 : Int32} {a2 : Int32} {a3 : Int32} {a4 : Int32} {a5 : Int32} {t0 : Int32} (k3 : ∀ (σ : DD) (a4 : Int32), K3 σ a4 → gW X w (lim0 w) 9 (QI X w post) σ 3 [(0, .ref (wAd w 100)), (1, .int a1), (2, .int a2), (3, .int a3), (4, .int a4)] []) {σ : DD} (h : w_Outl_wouldMakeSo_j63 T K3 post σ a1 a2 a3 a4 a5 t0) : gW X w (lim0 w) 9 (QI X w post) σ 63 [(0, .ref (wAd w 100)), (1, .int a1), (2, .int a2), (3, .int a3), (4, .int a4), (5, .int a5)] [.int t0] := by
  unfold w_Outl_wouldMakeSo_j63 at h
  refine r_istore C [(6, .int t0), (0, .ref (wAd w 100)), (1, .int a1), (2, .int a2), (3, .int a3), (4, .int a4), (5, .int a5)] rfl rfl (dk_at dk_Outl_wouldMakeSo_0 32 rfl) ?_
  refine r_aload_n C 1 rfl (dk_at dk_Outl_wouldMakeSo_0 33 rfl) ?_
  refine r_getR C fl_Outl_15 100 (hL.1 100 _ rfl) rfl (dk_at dk_Outl_wouldMakeSo_0 34 rfl) ?_
  refine r_iload C 5 rfl (dk_at dk_Outl_wouldMakeSo_0 35 rfl) ?_
  obtain ⟨q5, h⟩ := h
  refine r_zald C 104 (hL.1 104 _ rfl) q5 (dk_at dk_Outl_wouldMakeSo_0 36 rfl) ?_
  refine r_topi (fun v6 e7 => ?_)
  replace h := h v6 e7
  refine r_istore C [(7, .int v6), (6, .int t0), (0, .ref (wAd w 100)), (1, .int a1), (2, .int a2), (3, .int a3), (4, .int a4), (5, .int a5)] rfl rfl (dk_at dk_Outl_wouldMakeSo_0 37 rfl) ?_
  refine r_iload C 1 rfl (dk_at dk_Outl_wouldMakeSo_0 38 rfl) ?_
  refine r_if_eq C 143 rfl (dk_at dk_Outl_wouldMakeSo_0 39 rfl) (fun c8 => ?_) (fun c8 => ?_)
  · replace h := h.1 c8
    refine r_lv [2, 3, 4, 5, 6, 0] rfl ?_
    exact t_Outl_wouldMakeSo_j143 C hL k3 h
  · replace h := h.2 c8
    refine r_aload_n C 2 rfl (dk_at dk_Outl_wouldMakeSo_1 0 rfl) ?_
    refine r_iload C 6 rfl (dk_at dk_Outl_wouldMakeSo_1 1 rfl) ?_
    refine r_cvI C cl_Outl_85 100 (hL.1 100 _ rfl) [.int a4] (m_Outl_binds hL h) (rmK_ok rfl rfl) rfl rfl (Nat.le_of_ble_eq_true rfl) (dk_at dk_Outl_wouldMakeSo_1 2 rfl) (fun r9 σ10 h => ?_)
    refine r_if_eq C 109 rfl (dk_at dk_Outl_wouldMakeSo_1 3 rfl) (fun c11 => ?_) (fun c11 => ?_)
    · replace h := h.1 c11
      refine r_lv [2, 3, 4, 5, 6] rfl ?_
      exact t_Outl_wouldMakeSo_j109 C hL k3 h
    · replace h := h.2 c11
      refine r_iload C 7 rfl (dk_at dk_Outl_wouldMakeSo_1 4 rfl) ?_
      refine r_iload_n C 5 rfl (dk_at dk_Outl_wouldMakeSo_1 5 rfl) ?_
      refine r_isub C (dk_at dk_Outl_wouldMakeSo_1 6 rfl) ?_
      refine r_aload_n C 2 rfl (dk_at dk_Outl_wouldMakeSo_1 7 rfl) ?_
      refine r_getR C fl_Outl_27 100 (hL.1 100 _ rfl) rfl (dk_at dk_Outl_wouldMakeSo_1 8 rfl) ?_
      refine r_iload_n C 3 rfl (dk_at dk_Outl_wouldMakeSo_1 9 rfl) ?_
      refine r_iload_n C 4 rfl (dk_at dk_Outl_wouldMakeSo_1 10 rfl) ?_
      refine r_iload_n C 5 rfl (dk_at dk_Outl_wouldMakeSo_1 11 rfl) ?_
      refine r_cvI C cl_Outl_72 50 (hL.1 50 _ rfl) [.int a1, .int a2, .int a3] (m_Court_lasts hL h) (rmK_ok rfl rfl) rfl rfl (Nat.le_of_ble_eq_true rfl) (dk_at dk_Outl_wouldMakeSo_1 12 rfl) (fun r12 σ13 h => ?_)
      refine r_icmp_ge C 109 rfl (dk_at dk_Outl_wouldMakeSo_1 13 rfl) (fun c14 => ?_) (fun c14 => ?_)
      · replace h := h.1 c14
        refine r_lv [2, 3, 4, 5, 6] rfl ?_
        exact t_Outl_wouldMakeSo_j109 C hL k3 h
      · replace h := h.2 c14
        refine r_iconst C 1 (dk_at dk_Outl_wouldMakeSo_1 14 rfl) ?_
        refine r_goto C 110 rfl (dk_at dk_Outl_wouldMakeSo_1 15 rfl) ?_
        refine r_lv [2, 3, 4, 5, 6] rfl ?_
        exact t_Outl_wouldMakeSo_j110 C hL k3 h
set_option maxRecDepth 20000 in
theorem t_Outl_wouldMakeSo_j62 {X : CT} {w : WO} (C : CF X w (lim0 w) 9 cX3_wouldMakeSo RX3 (some .boolean) (.code yX3_wouldMakeSo cX3_wouldMakeSo 9 (some .boolean)) (rmK 3 96)) {T : TXT} {z : EXa} (hL : LyX w T z) {K3 : DD → Int32 → Prop} {post : Int32 → DD → Prop} {a1 : Int32} {a2 : Int32} {a3 : Int32} {a4 : Int32} {a5 : Int32} (k3 : ∀ (σ : DD) (a4 : Int32), K3 σ a4 → gW X w (lim0 w) 9 (QI X w post) σ 3 [(0, .ref (wAd w 100)), (1, .int a1), (2, .int a2), (3, .int a3), (4, .int a4)] []) {σ : DD} (h : w_Outl_wouldMakeSo_j62 T K3 post σ a1 a2 a3 a4 a5) : gW X w (lim0 w) 9 (QI X w post) σ 62 [(0, .ref (wAd w 100)), (1, .int a1), (2, .int a2), (3, .int a3), (4, .int a4), (5, .int a5)] [] := by
  unfold w_Outl_wouldMakeSo_j62 at h
  refine r_iconst C 0 (dk_at dk_Outl_wouldMakeSo_0 31 rfl) ?_
  refine r_lv [0, 1, 2, 3, 4, 5] rfl ?_
  exact t_Outl_wouldMakeSo_j63 C hL k3 h
set_option maxRecDepth 20000 in
theorem t_Outl_wouldMakeSo_b3 {X : CT} {w : WO} (C : CF X w (lim0 w) 9 cX3_wouldMakeSo RX3 (some .boolean) (.code yX3_wouldMakeSo cX3_wouldMakeSo 9 (some .boolean)) (rmK 3 96)) {T : TXT} {z : EXa} (hL : LyX w T z) {a1 : Int32} {a2 : Int32} {a3 : Int32} {K3 : DD → Int32 → Prop} {post : Int32 → DD → Prop} (k3 : ∀ (σ : DD) (a4 : Int32), K3 σ a4 → gW X w (lim0 w) 9 (QI X w post) σ 3 [(0, .ref (wAd w 100)), (1, .int a1), (2, .int a2), (3, .int a3), (4, .int a4)] []) {σ : DD} {a4 : Int32} (h : w_Outl_wouldMakeSo_b3 T a1 a2 a3 K3 post σ a4) : gW X w (lim0 w) 9 (QI X w post) σ 3 [(0, .ref (wAd w 100)), (1, .int a1), (2, .int a2), (3, .int a3), (4, .int a4)] [] := by
  unfold w_Outl_wouldMakeSo_b3 at h
  refine r_iload C 4 rfl (dk_at dk_Outl_wouldMakeSo_0 2 rfl) ?_
  refine r_aload_n C 0 rfl (dk_at dk_Outl_wouldMakeSo_0 3 rfl) ?_
  refine r_getR C fl_Outl_23 100 (hL.1 100 _ rfl) rfl (dk_at dk_Outl_wouldMakeSo_0 4 rfl) ?_
  refine r_getI C fl_Outl_75 200 (hL.1 200 _ rfl) rfl (dk_at dk_Outl_wouldMakeSo_0 5 rfl) ?_
  refine r_icmp_ge C 156 rfl (dk_at dk_Outl_wouldMakeSo_0 6 rfl) (fun c15 => ?_) (fun c15 => ?_)
  · replace h := h.1 c15
    refine r_iconst C 1 (dk_at dk_Outl_wouldMakeSo_2 0 rfl) ?_
    exact r_zret C (Or.inr rfl) h (dk_at dk_Outl_wouldMakeSo_2 1 rfl)
  · replace h := h.2 c15
    refine r_aload_n C 0 rfl (dk_at dk_Outl_wouldMakeSo_0 7 rfl) ?_
    refine r_getR C fl_Outl_23 100 (hL.1 100 _ rfl) rfl (dk_at dk_Outl_wouldMakeSo_0 8 rfl) ?_
    refine r_getR C fl_Outl_82 200 (hL.1 200 _ rfl) rfl (dk_at dk_Outl_wouldMakeSo_0 9 rfl) ?_
    refine r_iload C 4 rfl (dk_at dk_Outl_wouldMakeSo_0 10 rfl) ?_
    obtain ⟨q16, h⟩ := h
    refine r_iald C 214 (hL.1 214 _ rfl) q16 (dk_at dk_Outl_wouldMakeSo_0 11 rfl) ?_
    refine r_topi (fun v17 e18 => ?_)
    replace h := h v17 e18
    refine r_istore C [(5, .int v17), (0, .ref (wAd w 100)), (1, .int a1), (2, .int a2), (3, .int a3), (4, .int a4)] rfl rfl (dk_at dk_Outl_wouldMakeSo_0 12 rfl) ?_
    refine r_aload_n C 1 rfl (dk_at dk_Outl_wouldMakeSo_0 13 rfl) ?_
    refine r_getR C fl_Outl_23 100 (hL.1 100 _ rfl) rfl (dk_at dk_Outl_wouldMakeSo_0 14 rfl) ?_
    refine r_getR C fl_Outl_79 200 (hL.1 200 _ rfl) rfl (dk_at dk_Outl_wouldMakeSo_0 15 rfl) ?_
    refine r_iload C 5 rfl (dk_at dk_Outl_wouldMakeSo_0 16 rfl) ?_
    obtain ⟨q19, h⟩ := h
    refine r_iald C 216 (hL.1 216 _ rfl) q19 (dk_at dk_Outl_wouldMakeSo_0 17 rfl) ?_
    refine r_iload_n C 2 rfl (dk_at dk_Outl_wouldMakeSo_0 18 rfl) ?_
    refine r_icmp_ne C 62 rfl (dk_at dk_Outl_wouldMakeSo_0 19 rfl) (fun c20 => ?_) (fun c20 => ?_)
    · replace h := h.1 c20
      refine r_lv [1, 2, 3, 4, 5, 0] rfl ?_
      exact t_Outl_wouldMakeSo_j62 C hL k3 h
    · replace h := h.2 c20
      refine r_iload_n C 4 rfl (dk_at dk_Outl_wouldMakeSo_0 20 rfl) ?_
      refine r_iload C 0 rfl (dk_at dk_Outl_wouldMakeSo_0 21 rfl) ?_
      refine r_icmp_gt C 62 rfl (dk_at dk_Outl_wouldMakeSo_0 22 rfl) (fun c21 => ?_) (fun c21 => ?_)
      · replace h := h.1 c21
        refine r_lv [1, 2, 3, 4, 5, 0] rfl ?_
        exact t_Outl_wouldMakeSo_j62 C hL k3 h
      · replace h := h.2 c21
        refine r_iload_n C 4 rfl (dk_at dk_Outl_wouldMakeSo_0 23 rfl) ?_
        refine r_aload_n C 1 rfl (dk_at dk_Outl_wouldMakeSo_0 24 rfl) ?_
        refine r_getR C fl_Outl_19 100 (hL.1 100 _ rfl) rfl (dk_at dk_Outl_wouldMakeSo_0 25 rfl) ?_
        refine r_iload C 5 rfl (dk_at dk_Outl_wouldMakeSo_0 26 rfl) ?_
        obtain ⟨q22, h⟩ := h
        refine r_iald C 105 (hL.1 105 _ rfl) q22 (dk_at dk_Outl_wouldMakeSo_0 27 rfl) ?_
        refine r_icmp_lt C 62 rfl (dk_at dk_Outl_wouldMakeSo_0 28 rfl) (fun c23 => ?_) (fun c23 => ?_)
        · replace h := h.1 c23
          refine r_lv [1, 2, 3, 4, 5, 0] rfl ?_
          exact t_Outl_wouldMakeSo_j62 C hL k3 h
        · replace h := h.2 c23
          refine r_iconst C 1 (dk_at dk_Outl_wouldMakeSo_0 29 rfl) ?_
          refine r_goto C 63 rfl (dk_at dk_Outl_wouldMakeSo_0 30 rfl) ?_
          refine r_lv [1, 2, 3, 4, 5, 0] rfl ?_
          exact t_Outl_wouldMakeSo_j63 C hL k3 h
