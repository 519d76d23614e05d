set_option maxRecDepth 20000 in
theorem t_M_likely_l105 {X : CT} {w : WO} (C : CF X w (lim0 w) 7 cX11_likely RX11 (some .long) (.code yX11_likely cX11_likely 7 (some .long)) (rmK 93 2255)) (hL : LyM w) {post : Int64 → DD → Prop} {σ : DD} {a4 : Int64} {a6 : Int32} (h : w_M_likely_l105 post σ a4 a6) : gW X w (lim0 w) 7 (QL X w post) σ 105 [(0, .ref (wAd w 0)), (4, .long a4), (6, .int a6)] [] :=
  LoopW (G := fun x : DD × Int64 × Int32 => gW X w (lim0 w) 7 (QL X w post) x.1 105 [(0, .ref (wAd w 0)), (4, .long x.2.1), (6, .int x.2.2)] []) (fun K x hK hF => t_M_likely_b105 C hL (fun σ a4 a6 q => hK (σ, a4, a6) q) hF) h
set_option maxRecDepth 20000 in
theorem t_M_likely_b70 {X : CT} {w : WO} (C : CF X w (lim0 w) 7 cX11_likely RX11 (some .long) (.code yX11_likely cX11_likely 7 (some .long)) (rmK 93 2255)) (hL : LyM w) {a1 : Int32} {a2 : Int32} {a3 : Int32} {K70 : DD → Int32 → Prop} {post : Int64 → DD → Prop} (k70 : ∀ (σ : DD) (a4 : Int32), K70 σ a4 → gW X w (lim0 w) 7 (QL X w post) σ 70 [(0, .ref (wAd w 0)), (1, .int a1), (2, .int a2), (3, .int a3), (4, .int a4)] []) {σ : DD} {a4 : Int32} (h : w_M_likely_b70 a1 a2 a3 K70 post σ a4) : gW X w (lim0 w) 7 (QL X w post) σ 70 [(0, .ref (wAd w 0)), (1, .int a1), (2, .int a2), (3, .int a3), (4, .int a4)] [] := by
  unfold w_M_likely_b70 at h
  refine r_iload C 4 rfl (dk_at dk_M_likely_0 36 rfl) ?_
  refine r_iload_n C 3 rfl (dk_at dk_M_likely_0 37 rfl) ?_
  refine r_icmp_gt C 99 rfl (dk_at dk_M_likely_0 38 rfl) (fun c5 => ?_) (fun c5 => ?_)
  · replace h := h.1 c5
    refine r_lconst C 0 (dk_at dk_M_likely_1 11 rfl) ?_
    refine r_lstore C [(4, .long 0), (0, .ref (wAd w 0)), (1, .int a1), (2, .int a2), (3, .int a3)] rfl rfl (dk_at dk_M_likely_1 12 rfl) ?_
    refine r_iconst C 0 (dk_at dk_M_likely_1 13 rfl) ?_
    refine r_istore C [(6, .int 0), (4, .long 0), (0, .ref (wAd w 0)), (1, .int a1), (2, .int a2), (3, .int a3)] rfl rfl (dk_at dk_M_likely_1 14 rfl) ?_
    refine r_lv [2, 1, 0] rfl ?_
    exact t_M_likely_l105 C hL h
  · replace h := h.2 c5
    refine r_aload_n C 0 rfl (dk_at dk_M_likely_0 39 rfl) ?_
    refine r_iload_n C 1 rfl (dk_at dk_M_likely_1 0 rfl) ?_
    refine r_iload_n C 2 rfl (dk_at dk_M_likely_1 1 rfl) ?_
    refine r_aload_n C 0 rfl (dk_at dk_M_likely_1 2 rfl) ?_
    refine r_getR C fl_M_20 0 (hL 0 _ rfl) rfl (dk_at dk_M_likely_1 3 rfl) ?_
    refine r_sipush C 395 (dk_at dk_M_likely_1 4 rfl) ?_
    refine r_ialdK C 4 (hL 4 _ rfl) lk_395 (vk_395_6012) (dk_at dk_M_likely_1 5 rfl) ?_
    refine r_iload C 4 rfl (dk_at dk_M_likely_1 6 rfl) ?_
    refine r_iadd C (dk_at dk_M_likely_1 7 rfl) ?_
    refine r_cvV C cl_M_396 0 (hL 0 _ rfl) [.int a1, .int a2, .int ((gI σ 4 395) + a4)] (m_M_passesDay hL h) (rmK_ok rfl rfl) rfl rfl (Nat.le_of_ble_eq_true rfl) (dk_at dk_M_likely_1 8 rfl) (fun σ7 h => ?_)
    refine r_iinc C 4 rfl rfl [(4, .int (a4 + 1)), (0, .ref (wAd w 0)), (1, .int a1), (2, .int a2), (3, .int a3)] rfl rfl (dk_at dk_M_likely_1 9 rfl) ?_
    refine r_goto C 70 rfl (dk_at dk_M_likely_1 10 rfl) ?_
    refine r_lv [1, 2, 3, 4, 0] rfl ?_
    exact k70 _ _ h
set_option maxRecDepth 20000 in
theorem t_M_likely_l70 {X : CT} {w : WO} (C : CF X w (lim0 w) 7 cX11_likely RX11 (some .long) (.code yX11_likely cX11_likely 7 (some .long)) (rmK 93 2255)) (hL : LyM w) {a1 : Int32} {a2 : Int32} {a3 : Int32} {post : Int64 → DD → Prop} {σ : DD} {a4 : Int32} (h : w_M_likely_l70 post σ a1 a2 a3 a4) : gW X w (lim0 w) 7 (QL X w post) σ 70 [(0, .ref (wAd w 0)), (1, .int a1), (2, .int a2), (3, .int a3), (4, .int a4)] [] :=
  LoopW (G := fun x : DD × Int32 => gW X w (lim0 w) 7 (QL X w post) x.1 70 [(0, .ref (wAd w 0)), (1, .int a1), (2, .int a2), (3, .int a3), (4, .int x.2)] []) (fun K x hK hF => t_M_likely_b70 C hL (fun σ a4 q => hK (σ, a4) q) hF) h
set_option maxRecDepth 20000 in
theorem t_M_likely_b33 {X : CT} {w : WO} (C : CF X w (lim0 w) 7 cX11_likely RX11 (some .long) (.code yX11_likely cX11_likely 7 (some .long)) (rmK 93 2255)) (hL : LyM w) {a1 : Int32} {a2 : Int32} {a3 : Int32} {K33 : DD → Int32 → Prop} {post : Int64 → DD → Prop} (k33 : ∀ (σ : DD) (a4 : Int32), K33 σ a4 → gW X w (lim0 w) 7 (QL X w post) σ 33 [(0, .ref (wAd w 0)), (1, .int a1), (2, .int a2), (3, .int a3), (4, .int a4)] []) {σ : DD} {a4 : Int32} (h : w_M_likely_b33 a1 a2 a3 K33 post σ a4) : gW X w (lim0 w) 7 (QL X w post) σ 33 [(0, .ref (wAd w 0)), (1, .int a1), (2, .int a2), (3, .int a3), (4, .int a4)] [] := by
  unfold w_M_likely_b33 at h
  refine r_iload C 4 rfl (dk_at dk_M_likely_0 17 rfl) ?_
  refine r_bipush C 99 (dk_at dk_M_likely_0 18 rfl) ?_
  refine r_icmp_gt C 54 rfl (dk_at dk_M_likely_0 19 rfl) (fun c8 => ?_) (fun c8 => ?_)
  · replace h := h.1 c8
    refine r_aload_n C 0 rfl (dk_at dk_M_likely_0 27 rfl) ?_
    refine r_getR C fl_M_82 0 (hL 0 _ rfl) rfl (dk_at dk_M_likely_0 28 rfl) ?_
    refine r_aload_n C 0 rfl (dk_at dk_M_likely_0 29 rfl) ?_
    refine r_iload_n C 1 rfl (dk_at dk_M_likely_0 30 rfl) ?_
    refine r_cvI C cl_M_391 0 (hL 0 _ rfl) [.int a1] (m_M_startsWith hL h) (rmK_ok rfl rfl) rfl rfl (Nat.le_of_ble_eq_true rfl) (dk_at dk_M_likely_0 31 rfl) (fun r9 σ10 h => ?_)
    refine r_ldc2 C tw_1738 (dk_at dk_M_likely_0 32 rfl) ?_
    obtain ⟨q13, h⟩ := h
    refine r_last C 43 (hL 43 _ rfl) q13 (dk_at dk_M_likely_0 33 rfl) (r_sg (fun σ11 e12 => ?_))
    replace h := h σ11 e12
    refine r_iconst C 0 (dk_at dk_M_likely_0 34 rfl) ?_
    refine r_istore C [(4, .int 0), (0, .ref (wAd w 0)), (1, .int a1), (2, .int a2), (3, .int a3)] rfl rfl (dk_at dk_M_likely_0 35 rfl) ?_
    refine r_lv [1, 2, 3, 4, 0] rfl ?_
    exact t_M_likely_l70 C hL h
  · replace h := h.2 c8
    refine r_aload_n C 0 rfl (dk_at dk_M_likely_0 20 rfl) ?_
    refine r_getR C fl_M_82 0 (hL 0 _ rfl) rfl (dk_at dk_M_likely_0 21 rfl) ?_
    refine r_iload C 4 rfl (dk_at dk_M_likely_0 22 rfl) ?_
    refine r_lconst C 0 (dk_at dk_M_likely_0 23 rfl) ?_
    obtain ⟨q16, h⟩ := h
    refine r_last C 43 (hL 43 _ rfl) q16 (dk_at dk_M_likely_0 24 rfl) (r_sg (fun σ14 e15 => ?_))
    replace h := h σ14 e15
    refine r_iinc C 4 rfl rfl [(4, .int (a4 + 1)), (0, .ref (wAd w 0)), (1, .int a1), (2, .int a2), (3, .int a3)] rfl rfl (dk_at dk_M_likely_0 25 rfl) ?_
    refine r_goto C 33 rfl (dk_at dk_M_likely_0 26 rfl) ?_
    refine r_lv [1, 2, 3, 4, 0] rfl ?_
    exact k33 _ _ h
set_option maxRecDepth 20000 in
theorem t_M_likely_l33 {X : CT} {w : WO} (C : CF X w (lim0 w) 7 cX11_likely RX11 (some .long) (.code yX11_likely cX11_likely 7 (some .long)) (rmK 93 2255)) (hL : LyM w) {a1 : Int32} {a2 : Int32} {a3 : Int32} {post : Int64 → DD → Prop} {σ : DD} {a4 : Int32} (h : w_M_likely_l33 post σ a1 a2 a3 a4) : gW X w (lim0 w) 7 (QL X w post) σ 33 [(0, .ref (wAd w 0)), (1, .int a1), (2, .int a2), (3, .int a3), (4, .int a4)] [] :=
  LoopW (G := fun x : DD × Int32 => gW X w (lim0 w) 7 (QL X w post) x.1 33 [(0, .ref (wAd w 0)), (1, .int a1), (2, .int a2), (3, .int a3), (4, .int x.2)] []) (fun K x hK hF => t_M_likely_b33 C hL (fun σ a4 q => hK (σ, a4) q) hF) h
set_option maxRecDepth 20000 in
theorem m_M_likely {l : Launch} {w : WO} (hL : LyM w) {σ : DD} {a1 : Int32} {a2 : Int32} {a3 : Int32} {post : Int64 → DD → Prop} (h : w_M_likely σ a1 a2 a3 post) : ML l w yX11_likely cX11_likely 7 (rmK 93 2255) σ [.ref (wAd w 0), .int a1, .int a2, .int a3] post :=
  met_head (rt := (some .long)) (by decide) rfl (fun X hX C => by
  subst hX
  unfold w_M_likely at h
  show gW X w (lim0 w) 7 (QL X w post) σ 0 [(0, .ref (wAd w 0)), (1, .int a1), (2, .int a2), (3, .int a3)] []
  refine r_aload_n C 0 rfl (dk_at dk_M_likely_0 0 rfl) ?_
  refine r_iload_n C 1 rfl (dk_at dk_M_likely_0 1 rfl) ?_
  refine r_cvI C cl_M_120 0 (hL 0 _ rfl) [.int a1] (m_M_isAct hL h) (rmK_ok rfl rfl) rfl rfl (Nat.le_of_ble_eq_true rfl) (dk_at dk_M_likely_0 2 rfl) (fun r17 σ18 h => ?_)
  refine r_if_eq C 26 rfl (dk_at dk_M_likely_0 3 rfl) (fun c19 => ?_) (fun c19 => ?_)
  · replace h := h.1 c19
    refine r_ldc2 C tw_1733 (dk_at dk_M_likely_0 13 rfl) ?_
    exact r_lret C h (dk_at dk_M_likely_0 14 rfl)
  · replace h := h.2 c19
    refine r_aload_n C 0 rfl (dk_at dk_M_likely_0 4 rfl) ?_
    refine r_iload_n C 2 rfl (dk_at dk_M_likely_0 5 rfl) ?_
    refine r_cvI C cl_M_322 0 (hL 0 _ rfl) [.int a2] (m_M_isReader hL h) (rmK_ok rfl rfl) rfl rfl (Nat.le_of_ble_eq_true rfl) (dk_at dk_M_likely_0 6 rfl) (fun r20 σ21 h => ?_)
    refine r_if_eq C 26 rfl (dk_at dk_M_likely_0 7 rfl) (fun c22 => ?_) (fun c22 => ?_)
    · replace h := h.1 c22
      refine r_ldc2 C tw_1733 (dk_at dk_M_likely_0 13 rfl) ?_
      exact r_lret C h (dk_at dk_M_likely_0 14 rfl)
    · replace h := h.2 c22
      refine r_iload_n C 3 rfl (dk_at dk_M_likely_0 8 rfl) ?_
      refine r_iconst C 0 (dk_at dk_M_likely_0 9 rfl) ?_
      refine r_bipush C 60 (dk_at dk_M_likely_0 10 rfl) ?_
      refine r_csI C cs_M_101 [.int a3, .int 0, .int 60] (m_M_lies hL h) (rmK_ok rfl rfl) rfl rfl (Nat.le_of_ble_eq_true rfl) (dk_at dk_M_likely_0 11 rfl) (fun r23 σ24 h => ?_)
      refine r_if_ne C 30 rfl (dk_at dk_M_likely_0 12 rfl) (fun c25 => ?_) (fun c25 => ?_)
      · replace h := h.1 c25
        refine r_iconst C 0 (dk_at dk_M_likely_0 15 rfl) ?_
        refine r_istore C [(4, .int 0), (0, .ref (wAd w 0)), (1, .int a1), (2, .int a2), (3, .int a3)] rfl rfl (dk_at dk_M_likely_0 16 rfl) ?_
        refine r_lv [1, 2, 3, 4, 0] rfl ?_
        exact t_M_likely_l33 C hL h
      · replace h := h.2 c25
        refine r_ldc2 C tw_1733 (dk_at dk_M_likely_0 13 rfl) ?_
        exact r_lret C h (dk_at dk_M_likely_0 14 rfl)
  )
set_option maxRecDepth 20000 in
theorem t_M_fine_j24 {X : CT} {w : WO} (C : CF X w (lim0 w) 6 cX11_fine RX11 (some .int) (.code yX11_fine cX11_fine 6 (some .int)) (rmK 2 43)) (hL : LyM w) {post : Int32 → DD → Prop} {σ : DD} (h : w_M_fine_j24 post σ) : gW X w (lim0 w) 6 (QI X w post) σ 24 [(0, .ref (wAd w 0))] [] := by
  unfold w_M_fine_j24 at h
  refine r_aload_n C 0 rfl (dk_at dk_M_fine_0 11 rfl) ?_
  refine r_iconst C (-1) (dk_at dk_M_fine_0 12 rfl) ?_
  refine r_cvI C cl_M_105 0 (hL 0 _ rfl) [.int (-1)] (m_M_refuses hL h) (rmK_ok rfl rfl) rfl rfl (Nat.le_of_ble_eq_true rfl) (dk_at dk_M_fine_0 13 rfl) (fun r1 σ2 h => ?_)
  exact r_iret C h (dk_at dk_M_fine_0 14 rfl)
set_option maxRecDepth 20000 in
theorem m_M_fine {l : Launch} {w : WO} (hL : LyM w) {σ : DD} {a1 : Int32} {a2 : Int32} {a3 : Int32} {a4 : Int32} {post : Int32 → DD → Prop} (h : w_M_fine σ a1 a2 a3 a4 post) : MI l w yX11_fine cX11_fine 6 .int (rmK 2 43) σ [.ref (wAd w 0), .int a1, .int a2, .int a3, .int a4] post :=
  met_head (rt := (some .int)) (by decide) rfl (fun X hX C => by
  subst hX
  unfold w_M_fine at h
  show gW X w (lim0 w) 6 (QI X w post) σ 0 [(0, .ref (wAd w 0)), (1, .int a1), (2, .int a2), (3, .int a3), (4, .int a4)] []
  refine r_iload_n C 1 rfl (dk_at dk_M_fine_0 0 rfl) ?_
  refine r_csI C cs_M_131 [.int a1] (m_M_isDay hL h) (rmK_ok rfl rfl) rfl rfl (Nat.le_of_ble_eq_true rfl) (dk_at dk_M_fine_0 1 rfl) (fun r3 σ4 h => ?_)
  refine r_if_eq C 24 rfl (dk_at dk_M_fine_0 2 rfl) (fun c5 => ?_) (fun c5 => ?_)
  · replace h := h.1 c5
    refine r_lv [0] rfl ?_
    exact t_M_fine_j24 C hL h
  · replace h := h.2 c5
    refine r_iload_n C 2 rfl (dk_at dk_M_fine_0 3 rfl) ?_
    refine r_csI C cs_M_128 [.int a2] (m_M_isClass hL h) (rmK_ok rfl rfl) rfl rfl (Nat.le_of_ble_eq_true rfl) (dk_at dk_M_fine_0 4 rfl) (fun r6 σ7 h => ?_)
    refine r_if_eq C 24 rfl (dk_at dk_M_fine_0 5 rfl) (fun c8 => ?_) (fun c8 => ?_)
    · replace h := h.1 c8
      refine r_lv [0] rfl ?_
      exact t_M_fine_j24 C hL h
    · replace h := h.2 c8
      refine r_iload C 4 rfl (dk_at dk_M_fine_0 6 rfl) ?_
      refine r_iconst C 0 (dk_at dk_M_fine_0 7 rfl) ?_
      refine r_iconst C 1 (dk_at dk_M_fine_0 8 rfl) ?_
      refine r_csI C cs_M_101 [.int a4, .int 0, .int 1] (m_M_lies hL h) (rmK_ok rfl rfl) rfl rfl (Nat.le_of_ble_eq_true rfl) (dk_at dk_M_fine_0 9 rfl) (fun r9 σ10 h => ?_)
      refine r_if_ne C 30 rfl (dk_at dk_M_fine_0 10 rfl) (fun c11 => ?_) (fun c11 => ?_)
      · replace h := h.1 c11
        refine r_aload_n C 0 rfl (dk_at dk_M_fine_0 15 rfl) ?_
        refine r_iload_n C 3 rfl (dk_at dk_M_fine_0 16 rfl) ?_
        refine r_cvI C cl_M_120 0 (hL 0 _ rfl) [.int a3] (m_M_isAct hL h) (rmK_ok rfl rfl) rfl rfl (Nat.le_of_ble_eq_true rfl) (dk_at dk_M_fine_0 17 rfl) (fun r12 σ13 h => ?_)
        refine r_if_ne C 45 rfl (dk_at dk_M_fine_0 18 rfl) (fun c14 => ?_) (fun c14 => ?_)
        · replace h := h.1 c14
          refine r_aload_n C 0 rfl (dk_at dk_M_fine_0 23 rfl) ?_
          refine r_getR C fl_M_20 0 (hL 0 _ rfl) rfl (dk_at dk_M_fine_0 24 rfl) ?_
          refine r_sipush C 402 (dk_at dk_M_fine_0 25 rfl) ?_
          refine r_ialdK C 4 (hL 4 _ rfl) lk_402 (vk_402_6012) (dk_at dk_M_fine_0 26 rfl) ?_
          refine r_topi (fun v15 e16 => ?_)
          replace h := h v15 e16
          refine r_istore C [(5, .int v15), (0, .ref (wAd w 0)), (1, .int a1), (2, .int a2), (3, .int a3), (4, .int a4)] rfl rfl (dk_at dk_M_fine_0 27 rfl) ?_
          refine r_iload C 0 rfl (dk_at dk_M_fine_0 28 rfl) ?_
          refine r_bipush C 8 (dk_at dk_M_fine_0 29 rfl) ?_
          refine r_icmp_ne C 69 rfl (dk_at dk_M_fine_0 30 rfl) (fun c17 => ?_) (fun c17 => ?_)
          · replace h := h.1 c17
            refine r_aload_n C 1 rfl (dk_at dk_M_fine_0 35 rfl) ?_
            refine r_getR C fl_M_20 0 (hL 0 _ rfl) rfl (dk_at dk_M_fine_0 36 rfl) ?_
            refine r_sipush C 363 (dk_at dk_M_fine_0 37 rfl) ?_
            refine r_iconst C 4 (dk_at dk_M_fine_0 38 rfl) ?_
            refine r_iload C 0 rfl (dk_at dk_M_fine_0 39 rfl) ?_
            refine r_imul C (dk_at dk_M_fine_1 0 rfl) ?_
            refine r_iadd C (dk_at dk_M_fine_1 1 rfl) ?_
            refine r_iload_n C 2 rfl (dk_at dk_M_fine_1 2 rfl) ?_
            obtain ⟨q20, h⟩ := h
            refine r_iast C 4 (hL 4 _ rfl) q20 (dk_at dk_M_fine_1 3 rfl) (r_sg (fun σ18 e19 => ?_))
            replace h := h σ18 e19
            refine r_aload_n C 1 rfl (dk_at dk_M_fine_1 4 rfl) ?_
            refine r_getR C fl_M_20 0 (hL 0 _ rfl) rfl (dk_at dk_M_fine_1 5 rfl) ?_
            refine r_sipush C 363 (dk_at dk_M_fine_1 6 rfl) ?_
            refine r_iconst C 4 (dk_at dk_M_fine_1 7 rfl) ?_
            refine r_iload C 0 rfl (dk_at dk_M_fine_1 8 rfl) ?_
            refine r_imul C (dk_at dk_M_fine_1 9 rfl) ?_
            refine r_iadd C (dk_at dk_M_fine_1 10 rfl) ?_
            refine r_iconst C 1 (dk_at dk_M_fine_1 11 rfl) ?_
            refine r_iadd C (dk_at dk_M_fine_1 12 rfl) ?_
            refine r_iload_n C 3 rfl (dk_at dk_M_fine_1 13 rfl) ?_
            obtain ⟨q23, h⟩ := h
            refine r_iast C 4 (hL 4 _ rfl) q23 (dk_at dk_M_fine_1 14 rfl) (r_sg (fun σ21 e22 => ?_))
            replace h := h σ21 e22
            refine r_aload_n C 1 rfl (dk_at dk_M_fine_1 15 rfl) ?_
            refine r_getR C fl_M_20 0 (hL 0 _ rfl) rfl (dk_at dk_M_fine_1 16 rfl) ?_
            refine r_sipush C 363 (dk_at dk_M_fine_1 17 rfl) ?_
            refine r_iconst C 4 (dk_at dk_M_fine_1 18 rfl) ?_
            refine r_iload C 0 rfl (dk_at dk_M_fine_1 19 rfl) ?_
            refine r_imul C (dk_at dk_M_fine_1 20 rfl) ?_
            refine r_iadd C (dk_at dk_M_fine_1 21 rfl) ?_
            refine r_iconst C 2 (dk_at dk_M_fine_1 22 rfl) ?_
            refine r_iadd C (dk_at dk_M_fine_1 23 rfl) ?_
            refine r_iload_n C 4 rfl (dk_at dk_M_fine_1 24 rfl) ?_
            obtain ⟨q26, h⟩ := h
            refine r_iast C 4 (hL 4 _ rfl) q26 (dk_at dk_M_fine_1 25 rfl) (r_sg (fun σ24 e25 => ?_))
            replace h := h σ24 e25
            refine r_aload_n C 1 rfl (dk_at dk_M_fine_1 26 rfl) ?_
            refine r_getR C fl_M_20 0 (hL 0 _ rfl) rfl (dk_at dk_M_fine_1 27 rfl) ?_
            refine r_sipush C 363 (dk_at dk_M_fine_1 28 rfl) ?_
            refine r_iconst C 4 (dk_at dk_M_fine_1 29 rfl) ?_
            refine r_iload C 0 rfl (dk_at dk_M_fine_1 30 rfl) ?_
            refine r_imul C (dk_at dk_M_fine_1 31 rfl) ?_
            refine r_iadd C (dk_at dk_M_fine_1 32 rfl) ?_
            refine r_iconst C 3 (dk_at dk_M_fine_1 33 rfl) ?_
            refine r_iadd C (dk_at dk_M_fine_1 34 rfl) ?_
            refine r_iload C 5 rfl (dk_at dk_M_fine_1 35 rfl) ?_
            obtain ⟨q29, h⟩ := h
            refine r_iast C 4 (hL 4 _ rfl) q29 (dk_at dk_M_fine_1 36 rfl) (r_sg (fun σ27 e28 => ?_))
            replace h := h σ27 e28
            refine r_aload_n C 1 rfl (dk_at dk_M_fine_1 37 rfl) ?_
            refine r_getR C fl_M_20 0 (hL 0 _ rfl) rfl (dk_at dk_M_fine_1 38 rfl) ?_
            refine r_sipush C 402 (dk_at dk_M_fine_1 39 rfl) ?_
            refine r_dup2 C rfl rfl (dk_at dk_M_fine_2 0 rfl) ?_
            refine r_ialdK C 4 (hL 4 _ rfl) lk_402 (vk_402_6012) (dk_at dk_M_fine_2 1 rfl) ?_
            refine r_iconst C 1 (dk_at dk_M_fine_2 2 rfl) ?_
            refine r_iadd C (dk_at dk_M_fine_2 3 rfl) ?_
            refine r_iastK C 4 (hL 4 _ rfl) lk_402 vk_402_6012 (dk_at dk_M_fine_2 4 rfl) (r_sg (fun σ30 e31 => ?_))
            replace h := h σ30 e31
            refine r_aload_n C 1 rfl (dk_at dk_M_fine_2 5 rfl) ?_
            refine r_iload C 0 rfl (dk_at dk_M_fine_2 6 rfl) ?_
            refine r_iconst C 1 (dk_at dk_M_fine_2 7 rfl) ?_
            refine r_iadd C (dk_at dk_M_fine_2 8 rfl) ?_
            refine r_cvI C cl_M_109 0 (hL 0 _ rfl) [.int (v15 + 1)] (m_M_good hL h) (rmK_ok rfl rfl) rfl rfl (Nat.le_of_ble_eq_true rfl) (dk_at dk_M_fine_2 9 rfl) (fun r32 σ33 h => ?_)
            exact r_iret C h (dk_at dk_M_fine_2 10 rfl)
          · replace h := h.2 c17
            refine r_aload_n C 1 rfl (dk_at dk_M_fine_0 31 rfl) ?_
            refine r_bipush C (-5) (dk_at dk_M_fine_0 32 rfl) ?_
            refine r_cvI C cl_M_105 0 (hL 0 _ rfl) [.int (-5)] (m_M_refuses hL h) (rmK_ok rfl rfl) rfl rfl (Nat.le_of_ble_eq_true rfl) (dk_at dk_M_fine_0 33 rfl) (fun r34 σ35 h => ?_)
            exact r_iret C h (dk_at dk_M_fine_0 34 rfl)
        · replace h := h.2 c14
          refine r_aload_n C 0 rfl (dk_at dk_M_fine_0 19 rfl) ?_
          refine r_bipush C (-2) (dk_at dk_M_fine_0 20 rfl) ?_
          refine r_cvI C cl_M_105 0 (hL 0 _ rfl) [.int (-2)] (m_M_refuses hL h) (rmK_ok rfl rfl) rfl rfl (Nat.le_of_ble_eq_true rfl) (dk_at dk_M_fine_0 21 rfl) (fun r36 σ37 h => ?_)
          exact r_iret C h (dk_at dk_M_fine_0 22 rfl)
      · replace h := h.2 c11
        refine r_lv [0] rfl ?_
        exact t_M_fine_j24 C hL h
  )
set_option maxRecDepth 20000 in
theorem m_M_forgive {l : Launch} {w : WO} (hL : LyM w) {σ : DD} {post : Int32 → DD → Prop} (h : w_M_forgive σ post) : MI l w yX11_forgive cX11_forgive 2 .int (rmK 0 0) σ [.ref (wAd w 0)] post :=
  met_head (rt := (some .int)) (by decide) rfl (fun X hX C => by
  subst hX
  unfold w_M_forgive at h
  show gW X w (lim0 w) 2 (QI X w post) σ 0 [(0, .ref (wAd w 0))] []
  refine r_aload_n C 0 rfl (dk_at dk_M_forgive_0 0 rfl) ?_
  refine r_getR C fl_M_20 0 (hL 0 _ rfl) rfl (dk_at dk_M_forgive_0 1 rfl) ?_
  refine r_sipush C 402 (dk_at dk_M_forgive_0 2 rfl) ?_
  refine r_ialdK C 4 (hL 4 _ rfl) lk_402 (vk_402_6012) (dk_at dk_M_forgive_0 3 rfl) ?_
  refine r_topi (fun v1 e2 => ?_)
  replace h := h v1 e2
  refine r_istore_n C [(1, .int v1), (0, .ref (wAd w 0))] rfl rfl (dk_at dk_M_forgive_0 4 rfl) ?_
  refine r_aload_n C 1 rfl (dk_at dk_M_forgive_0 5 rfl) ?_
  refine r_getR C fl_M_20 0 (hL 0 _ rfl) rfl (dk_at dk_M_forgive_0 6 rfl) ?_
  refine r_sipush C 402 (dk_at dk_M_forgive_0 7 rfl) ?_
  refine r_iconst C 0 (dk_at dk_M_forgive_0 8 rfl) ?_
  refine r_iastK C 4 (hL 4 _ rfl) lk_402 vk_402_6012 (dk_at dk_M_forgive_0 9 rfl) (r_sg (fun σ3 e4 => ?_))
  replace h := h σ3 e4
  refine r_iload_n C 0 rfl (dk_at dk_M_forgive_0 10 rfl) ?_
  exact r_iret C h (dk_at dk_M_forgive_0 11 rfl)
  )
set_option maxRecDepth 20000 in
theorem t_M_areSo_j94 {X : CT} {w : WO} (C : CF X w (lim0 w) 4 cX11_areSo RX11 (some .boolean) (.code yX11_areSo cX11_areSo 4 (some .boolean)) (rmK 92 2224)) (hL : LyM w) {K2 : DD → Int32 → Prop} {post : Int32 → DD → Prop} {a1 : Int32} {t0 : Int32} {t1 : Int32} (k2 : ∀ (σ : DD) (a1 : Int32), K2 σ a1 → gW X w (lim0 w) 4 (QI X w post) σ 2 [(0, .ref (wAd w 0)), (1, .int a1)] []) {σ : DD} (h : w_M_areSo_j94 K2 post σ a1 t0 t1) : gW X w (lim0 w) 4 (QI X w post) σ 94 [(0, .ref (wAd w 0)), (1, .int a1)] [.int t1, .int t0] := by
  unfold w_M_areSo_j94 at h
  refine r_icmp_eq C 99 rfl (dk_at dk_M_areSo_1 20 rfl) (fun c1 => ?_) (fun c1 => ?_)
  · replace h := h.1 c1
    refine r_iinc C 1 rfl rfl [(1, .int (a1 + 1)), (0, .ref (wAd w 0))] rfl rfl (dk_at dk_M_areSo_1 23 rfl) ?_
    refine r_goto C 2 rfl (dk_at dk_M_areSo_1 24 rfl) ?_
    refine r_lv [1, 0] rfl ?_
    exact k2 _ _ h
  · replace h := h.2 c1
    refine r_iconst C 0 (dk_at dk_M_areSo_1 21 rfl) ?_
    exact r_zret C (Or.inl rfl) h (dk_at dk_M_areSo_1 22 rfl)
set_option maxRecDepth 20000 in
theorem t_M_areSo_j75 {X : CT} {w : WO} (C : CF X w (lim0 w) 4 cX11_areSo RX11 (some .boolean) (.code yX11_areSo cX11_areSo 4 (some .boolean)) (rmK 92 2224)) (hL : LyM w) {K2 : DD → Int32 → Prop} {post : Int32 → DD → Prop} {a1 : Int32} {a2 : Int32} {t0 : Int32} (k2 : ∀ (σ : DD) (a1 : Int32), K2 σ a1 → gW X w (lim0 w) 4 (QI X w post) σ 2 [(0, .ref (wAd w 0)), (1, .int a1)] []) {σ : DD} (h : w_M_areSo_j75 K2 post σ a1 a2 t0) : gW X w (lim0 w) 4 (QI X w post) σ 75 [(0, .ref (wAd w 0)), (1, .int a1), (2, .int a2)] [.int t0] := by
  unfold w_M_areSo_j75 at h
  refine r_istore_n C [(3, .int t0), (0, .ref (wAd w 0)), (1, .int a1), (2, .int a2)] rfl rfl (dk_at dk_M_areSo_1 7 rfl) ?_
  refine r_iload_n C 0 rfl (dk_at dk_M_areSo_1 8 rfl) ?_
  refine r_aload_n C 1 rfl (dk_at dk_M_areSo_1 9 rfl) ?_
  refine r_getR C fl_M_20 0 (hL 0 _ rfl) rfl (dk_at dk_M_areSo_1 10 rfl) ?_
  refine r_iload_n C 3 rfl (dk_at dk_M_areSo_1 11 rfl) ?_
  refine r_iconst C 3 (dk_at dk_M_areSo_1 12 rfl) ?_
  refine r_iadd C (dk_at dk_M_areSo_1 13 rfl) ?_
  obtain ⟨q2, h⟩ := h
  refine r_iald C 4 (hL 4 _ rfl) q2 (dk_at dk_M_areSo_1 14 rfl) ?_
  refine r_iconst C 1 (dk_at dk_M_areSo_1 15 rfl) ?_
  refine r_icmp_ne C 93 rfl (dk_at dk_M_areSo_1 16 rfl) (fun c3 => ?_) (fun c3 => ?_)
  · replace h := h.1 c3
    refine r_iconst C 0 (dk_at dk_M_areSo_1 19 rfl) ?_
    refine r_lv [1, 2] rfl ?_
    exact t_M_areSo_j94 C hL k2 h
  · replace h := h.2 c3
    refine r_iconst C 1 (dk_at dk_M_areSo_1 17 rfl) ?_
    refine r_goto C 94 rfl (dk_at dk_M_areSo_1 18 rfl) ?_
    refine r_lv [1, 2] rfl ?_
    exact t_M_areSo_j94 C hL k2 h
set_option maxRecDepth 20000 in
theorem t_M_areSo_j74 {X : CT} {w : WO} (C : CF X w (lim0 w) 4 cX11_areSo RX11 (some .boolean) (.code yX11_areSo cX11_areSo 4 (some .boolean)) (rmK 92 2224)) (hL : LyM w) {K2 : DD → Int32 → Prop} {post : Int32 → DD → Prop} {a1 : Int32} {a2 : Int32} (k2 : ∀ (σ : DD) (a1 : Int32), K2 σ a1 → gW X w (lim0 w) 4 (QI X w post) σ 2 [(0, .ref (wAd w 0)), (1, .int a1)] []) {σ : DD} (h : w_M_areSo_j74 K2 post σ a1 a2) : gW X w (lim0 w) 4 (QI X w post) σ 74 [(0, .ref (wAd w 0)), (1, .int a1), (2, .int a2)] [] := by
  unfold w_M_areSo_j74 at h
  refine r_iconst C 0 (dk_at dk_M_areSo_1 6 rfl) ?_
  refine r_lv [0, 1, 2] rfl ?_
  exact t_M_areSo_j75 C hL k2 h
set_option maxRecDepth 20000 in
theorem t_M_areSo_b2 {X : CT} {w : WO} (C : CF X w (lim0 w) 4 cX11_areSo RX11 (some .boolean) (.code yX11_areSo cX11_areSo 4 (some .boolean)) (rmK 92 2224)) (hL : LyM w) {K2 : DD → Int32 → Prop} {post : Int32 → DD → Prop} (k2 : ∀ (σ : DD) (a1 : Int32), K2 σ a1 → gW X w (lim0 w) 4 (QI X w post) σ 2 [(0, .ref (wAd w 0)), (1, .int a1)] []) {σ : DD} {a1 : Int32} (h : w_M_areSo_b2 K2 post σ a1) : gW X w (lim0 w) 4 (QI X w post) σ 2 [(0, .ref (wAd w 0)), (1, .int a1)] [] := by
  unfold w_M_areSo_b2 at h
  refine r_iload_n C 1 rfl (dk_at dk_M_areSo_0 2 rfl) ?_
  refine r_aload_n C 0 rfl (dk_at dk_M_areSo_0 3 rfl) ?_
  refine r_getR C fl_M_20 0 (hL 0 _ rfl) rfl (dk_at dk_M_areSo_0 4 rfl) ?_
  refine r_sipush C 402 (dk_at dk_M_areSo_0 5 rfl) ?_
  refine r_ialdK C 4 (hL 4 _ rfl) lk_402 (vk_402_6012) (dk_at dk_M_areSo_0 6 rfl) ?_
  refine r_icmp_ge C 105 rfl (dk_at dk_M_areSo_0 7 rfl) (fun c4 => ?_) (fun c4 => ?_)
  · replace h := h.1 c4
    refine r_iconst C 1 (dk_at dk_M_areSo_1 25 rfl) ?_
    exact r_zret C (Or.inr rfl) h (dk_at dk_M_areSo_1 26 rfl)
  · replace h := h.2 c4
    refine r_sipush C 363 (dk_at dk_M_areSo_0 8 rfl) ?_
    refine r_iconst C 4 (dk_at dk_M_areSo_0 9 rfl) ?_
    refine r_iload_n C 1 rfl (dk_at dk_M_areSo_0 10 rfl) ?_
    refine r_imul C (dk_at dk_M_areSo_0 11 rfl) ?_
    refine r_iadd C (dk_at dk_M_areSo_0 12 rfl) ?_
    refine r_topi (fun v5 e6 => ?_)
    replace h := h v5 e6
    refine r_istore_n C [(2, .int v5), (0, .ref (wAd w 0)), (1, .int a1)] rfl rfl (dk_at dk_M_areSo_0 13 rfl) ?_
    refine r_aload_n C 1 rfl (dk_at dk_M_areSo_0 14 rfl) ?_
    refine r_aload_n C 1 rfl (dk_at dk_M_areSo_0 15 rfl) ?_
    refine r_getR C fl_M_20 0 (hL 0 _ rfl) rfl (dk_at dk_M_areSo_0 16 rfl) ?_
    refine r_iload_n C 0 rfl (dk_at dk_M_areSo_0 17 rfl) ?_
    refine r_iconst C 2 (dk_at dk_M_areSo_0 18 rfl) ?_
    refine r_iadd C (dk_at dk_M_areSo_0 19 rfl) ?_
    obtain ⟨q7, h⟩ := h
    refine r_iald C 4 (hL 4 _ rfl) q7 (dk_at dk_M_areSo_0 20 rfl) ?_
    refine r_iconst C 2 (dk_at dk_M_areSo_0 21 rfl) ?_
    refine r_cvI C cl_M_124 0 (hL 0 _ rfl) [.int (gI σ 4 (v5 + 2).toNatClampNeg), .int 2] (m_M_fact hL h) (rmK_ok rfl rfl) rfl rfl (Nat.le_of_ble_eq_true rfl) (dk_at dk_M_areSo_0 22 rfl) (fun r8 σ9 h => ?_)
    refine r_aload_n C 1 rfl (dk_at dk_M_areSo_0 23 rfl) ?_
    refine r_getR C fl_M_20 0 (hL 0 _ rfl) rfl (dk_at dk_M_areSo_0 24 rfl) ?_
    refine r_iload_n C 0 rfl (dk_at dk_M_areSo_0 25 rfl) ?_
    refine r_iconst C 1 (dk_at dk_M_areSo_0 26 rfl) ?_
    refine r_iadd C (dk_at dk_M_areSo_0 27 rfl) ?_
    obtain ⟨q10, h⟩ := h
    refine r_iald C 4 (hL 4 _ rfl) q10 (dk_at dk_M_areSo_0 28 rfl) ?_
    refine r_csI C cs_M_338 [.int r8, .int (gI σ9 4 (v5 + 1).toNatClampNeg)] (m_M_isIn hL h) (rmK_ok rfl rfl) rfl rfl (Nat.le_of_ble_eq_true rfl) (dk_at dk_M_areSo_0 29 rfl) (fun r11 σ12 h => ?_)
    refine r_if_eq C 74 rfl (dk_at dk_M_areSo_0 30 rfl) (fun c13 => ?_) (fun c13 => ?_)
    · replace h := h.1 c13
      refine r_lv [1, 2, 0] rfl ?_
      exact t_M_areSo_j74 C hL k2 h
    · replace h := h.2 c13
      refine r_aload_n C 1 rfl (dk_at dk_M_areSo_0 31 rfl) ?_
      refine r_aload_n C 1 rfl (dk_at dk_M_areSo_0 32 rfl) ?_
      refine r_getR C fl_M_20 0 (hL 0 _ rfl) rfl (dk_at dk_M_areSo_0 33 rfl) ?_
      refine r_iload_n C 0 rfl (dk_at dk_M_areSo_0 34 rfl) ?_
      refine r_iconst C 2 (dk_at dk_M_areSo_0 35 rfl) ?_
      refine r_iadd C (dk_at dk_M_areSo_0 36 rfl) ?_
      obtain ⟨q14, h⟩ := h
      refine r_iald C 4 (hL 4 _ rfl) q14 (dk_at dk_M_areSo_0 37 rfl) ?_
      refine r_aload_n C 1 rfl (dk_at dk_M_areSo_0 38 rfl) ?_
      refine r_getR C fl_M_20 0 (hL 0 _ rfl) rfl (dk_at dk_M_areSo_0 39 rfl) ?_
      refine r_iload_n C 0 rfl (dk_at dk_M_areSo_1 0 rfl) ?_
      obtain ⟨q15, h⟩ := h
      refine r_iald C 4 (hL 4 _ rfl) q15 (dk_at dk_M_areSo_1 1 rfl) ?_
      refine r_cvI C cl_M_307 0 (hL 0 _ rfl) [.int (gI σ12 4 (v5 + 2).toNatClampNeg), .int (gI σ12 4 v5.toNatClampNeg)] (m_M_holdsOn hL h) (rmK_ok rfl rfl) rfl rfl (Nat.le_of_ble_eq_true rfl) (dk_at dk_M_areSo_1 2 rfl) (fun r16 σ17 h => ?_)
      refine r_if_eq C 74 rfl (dk_at dk_M_areSo_1 3 rfl) (fun c18 => ?_) (fun c18 => ?_)
      · replace h := h.1 c18
        refine r_lv [1, 2, 0] rfl ?_
        exact t_M_areSo_j74 C hL k2 h
      · replace h := h.2 c18
        refine r_iconst C 1 (dk_at dk_M_areSo_1 4 rfl) ?_
        refine r_goto C 75 rfl (dk_at dk_M_areSo_1 5 rfl) ?_
        refine r_lv [1, 2, 0] rfl ?_
        exact t_M_areSo_j75 C hL k2 h
set_option maxRecDepth 20000 in
theorem t_M_areSo_l2 {X : CT} {w : WO} (C : CF X w (lim0 w) 4 cX11_areSo RX11 (some .boolean) (.code yX11_areSo cX11_areSo 4 (some .boolean)) (rmK 92 2224)) (hL : LyM w) {post : Int32 → DD → Prop} {σ : DD} {a1 : Int32} (h : w_M_areSo_l2 post σ a1) : gW X w (lim0 w) 4 (QI X w post) σ 2 [(0, .ref (wAd w 0)), (1, .int a1)] [] :=
  LoopW (G := fun x : DD × Int32 => gW X w (lim0 w) 4 (QI X w post) x.1 2 [(0, .ref (wAd w 0)), (1, .int x.2)] []) (fun K x hK hF => t_M_areSo_b2 C hL (fun σ a1 q => hK (σ, a1) q) hF) h
set_option maxRecDepth 20000 in
theorem m_M_areSo {l : Launch} {w : WO} (hL : LyM w) {σ : DD} {post : Int32 → DD → Prop} (h : w_M_areSo σ post) : MI l w yX11_areSo cX11_areSo 4 .boolean (rmK 92 2224) σ [.ref (wAd w 0)] post :=
  met_head (rt := (some .boolean)) (by decide) rfl (fun X hX C => by
  subst hX
  unfold w_M_areSo at h
  show gW X w (lim0 w) 4 (QI X w post) σ 0 [(0, .ref (wAd w 0))] []
  refine r_iconst C 0 (dk_at dk_M_areSo_0 0 rfl) ?_
  refine r_istore_n C [(1, .int 0), (0, .ref (wAd w 0))] rfl rfl (dk_at dk_M_areSo_0 1 rfl) ?_
  refine r_lv [1, 0] rfl ?_
  exact t_M_areSo_l2 C hL h
  )
set_option maxRecDepth 20000 in
theorem m_M_judge {l : Launch} {w : WO} (hL : LyM w) {σ : DD} {post : Int32 → DD → Prop} (h : w_M_judge σ post) : MI l w yX11_judge cX11_judge 1 .int (rmK 93 2247) σ [.ref (wAd w 0)] post :=
  met_head (rt := (some .int)) (by decide) rfl (fun X hX C => by
  subst hX
  unfold w_M_judge at h
  show gW X w (lim0 w) 1 (QI X w post) σ 0 [(0, .ref (wAd w 0))] []
  refine r_aload_n C 0 rfl (dk_at dk_M_judge_0 0 rfl) ?_
  refine r_cvI C cl_M_399 0 (hL 0 _ rfl) [] (m_M_areSo hL h) (rmK_ok rfl rfl) rfl rfl (Nat.le_of_ble_eq_true rfl) (dk_at dk_M_judge_0 1 rfl) (fun r1 σ2 h => ?_)
  refine r_if_eq C 11 rfl (dk_at dk_M_judge_0 2 rfl) (fun c3 => ?_) (fun c3 => ?_)
  · replace h := h.1 c3
    refine r_iconst C 0 (dk_at dk_M_judge_0 5 rfl) ?_
    exact r_iret C h (dk_at dk_M_judge_0 6 rfl)
  · replace h := h.2 c3
    refine r_iconst C 1 (dk_at dk_M_judge_0 3 rfl) ?_
    refine r_goto C 12 rfl (dk_at dk_M_judge_0 4 rfl) ?_
    exact r_iret C h (dk_at dk_M_judge_0 6 rfl)
  )
set_option maxRecDepth 20000 in
theorem t_M_unwritten_j129 {X : CT} {w : WO} (C : CF X w (lim0 w) 9 cX11_unwritten RX11 (some .int) (.code yX11_unwritten cX11_unwritten 9 (some .int)) (rmK 93 2247)) (hL : LyM w) {K14 : DD → Int32 → Int32 → Int32 → Prop} {post : Int32 → DD → Prop} {a1 : Int32} {a2 : Int32} {a3 : Int32} {a4 : Int32} (k14 : ∀ (σ : DD) (a2 : Int32) (a3 : Int32) (a4 : Int32), K14 σ a2 a3 a4 → gW X w (lim0 w) 9 (QI X w post) σ 14 [(0, .ref (wAd w 0)), (1, .int a1), (2, .int a2), (3, .int a3), (4, .int a4)] []) {σ : DD} (h : w_M_unwritten_j129 K14 post σ a1 a2 a3 a4) : gW X w (lim0 w) 9 (QI X w post) σ 129 [(0, .ref (wAd w 0)), (1, .int a1), (2, .int a2), (3, .int a3), (4, .int a4)] [] := by
  unfold w_M_unwritten_j129 at h
  refine r_iinc C 2 rfl rfl [(2, .int (a2 + 1)), (0, .ref (wAd w 0)), (1, .int a1), (3, .int a3), (4, .int a4)] rfl rfl (dk_at dk_M_unwritten_1 31 rfl) ?_
  refine r_iinc C 4 rfl rfl [(4, .int (a4 + 1)), (2, .int (a2 + 1)), (0, .ref (wAd w 0)), (1, .int a1), (3, .int a3)] rfl rfl (dk_at dk_M_unwritten_1 32 rfl) ?_
  refine r_goto C 14 rfl (dk_at dk_M_unwritten_1 33 rfl) ?_
  refine r_lv [2, 3, 1, 4, 0] rfl ?_
  exact k14 _ _ _ _ h
set_option maxRecDepth 20000 in
theorem t_M_unwritten_j138 {X : CT} {w : WO} (C : CF X w (lim0 w) 9 cX11_unwritten RX11 (some .int) (.code yX11_unwritten cX11_unwritten 9 (some .int)) (rmK 93 2247)) (hL : LyM w) {post : Int32 → DD → Prop} {a1 : Int32} {a2 : Int32} {a3 : Int32} {σ : DD} (h : w_M_unwritten_j138 post σ a1 a2 a3) : gW X w (lim0 w) 9 (QI X w post) σ 138 [(1, .int a1), (2, .int a2), (3, .int a3)] [] := by
  unfold w_M_unwritten_j138 at h
  refine r_iload_n C 0 rfl (dk_at dk_M_unwritten_1 34 rfl) ?_
  refine r_iconst C (-1) (dk_at dk_M_unwritten_1 35 rfl) ?_
  refine r_icmp_ne C 147 rfl (dk_at dk_M_unwritten_1 36 rfl) (fun c1 => ?_) (fun c1 => ?_)
  · replace h := h.1 c1
    refine r_iload_n C 2 rfl (dk_at dk_M_unwritten_1 39 rfl) ?_
    exact r_iret C h (dk_at dk_M_unwritten_2 0 rfl)
  · replace h := h.2 c1
    refine r_iload_n C 1 rfl (dk_at dk_M_unwritten_1 37 rfl) ?_
    refine r_goto C 148 rfl (dk_at dk_M_unwritten_1 38 rfl) ?_
    exact r_iret C h (dk_at dk_M_unwritten_2 0 rfl)
set_option maxRecDepth 20000 in
theorem t_M_unwritten_b14 {X : CT} {w : WO} (C : CF X w (lim0 w) 9 cX11_unwritten RX11 (some .int) (.code yX11_unwritten cX11_unwritten 9 (some .int)) (rmK 93 2247)) (hL : LyM w) {a1 : Int32} {K14 : DD → Int32 → Int32 → Int32 → Prop} {post : Int32 → DD → Prop} (k14 : ∀ (σ : DD) (a2 : Int32) (a3 : Int32) (a4 : Int32), K14 σ a2 a3 a4 → gW X w (lim0 w) 9 (QI X w post) σ 14 [(0, .ref (wAd w 0)), (1, .int a1), (2, .int a2), (3, .int a3), (4, .int a4)] []) {σ : DD} {a2 : Int32} {a3 : Int32} {a4 : Int32} (h : w_M_unwritten_b14 a1 K14 post σ a2 a3 a4) : gW X w (lim0 w) 9 (QI X w post) σ 14 [(0, .ref (wAd w 0)), (1, .int a1), (2, .int a2), (3, .int a3), (4, .int a4)] [] := by
  unfold w_M_unwritten_b14 at h
  refine r_iload C 4 rfl (dk_at dk_M_unwritten_0 11 rfl) ?_
  refine r_sipush C 960 (dk_at dk_M_unwritten_0 12 rfl) ?_
  refine r_icmp_ge C 138 rfl (dk_at dk_M_unwritten_0 13 rfl) (fun c2 => ?_) (fun c2 => ?_)
  · replace h := h.1 c2
    refine r_lv [1, 2, 3] rfl ?_
    exact t_M_unwritten_j138 C hL h
  · replace h := h.2 c2
    refine r_iload_n C 3 rfl (dk_at dk_M_unwritten_0 14 rfl) ?_
    refine r_iconst C (-1) (dk_at dk_M_unwritten_0 15 rfl) ?_
    refine r_icmp_ne C 138 rfl (dk_at dk_M_unwritten_0 16 rfl) (fun c3 => ?_) (fun c3 => ?_)
    · replace h := h.1 c3
      refine r_lv [1, 2, 3] rfl ?_
      exact t_M_unwritten_j138 C hL h
    · replace h := h.2 c3
      refine r_aload_n C 0 rfl (dk_at dk_M_unwritten_0 17 rfl) ?_
      refine r_getR C fl_M_20 0 (hL 0 _ rfl) rfl (dk_at dk_M_unwritten_0 18 rfl) ?_
      refine r_sipush C 395 (dk_at dk_M_unwritten_0 19 rfl) ?_
      refine r_ialdK C 4 (hL 4 _ rfl) lk_395 (vk_395_6012) (dk_at dk_M_unwritten_0 20 rfl) ?_
      refine r_iload C 4 rfl (dk_at dk_M_unwritten_0 21 rfl) ?_
      refine r_bipush C 32 (dk_at dk_M_unwritten_0 22 rfl) ?_
      refine r_idiv C (by decide) (dk_at dk_M_unwritten_0 23 rfl) ?_
      refine r_isub C (dk_at dk_M_unwritten_0 24 rfl) ?_
      refine r_topi (fun v4 e5 => ?_)
      replace h := h v4 e5
      refine r_istore C [(5, .int v4), (0, .ref (wAd w 0)), (1, .int a1), (2, .int a2), (3, .int a3), (4, .int a4)] rfl rfl (dk_at dk_M_unwritten_0 25 rfl) ?_
      refine r_iload C 5 rfl (dk_at dk_M_unwritten_0 26 rfl) ?_
      refine r_bipush C 8 (dk_at dk_M_unwritten_0 27 rfl) ?_
      refine r_idiv C (by decide) (dk_at dk_M_unwritten_0 28 rfl) ?_
      refine r_iconst C 4 (dk_at dk_M_unwritten_0 29 rfl) ?_
      refine r_irem C (by decide) (dk_at dk_M_unwritten_0 30 rfl) ?_
      refine r_topi (fun v6 e7 => ?_)
      replace h := h v6 e7
      refine r_istore C [(6, .int v6), (5, .int v4), (0, .ref (wAd w 0)), (1, .int a1), (2, .int a2), (3, .int a3), (4, .int a4)] rfl rfl (dk_at dk_M_unwritten_0 31 rfl) ?_
      refine r_iload C 6 rfl (dk_at dk_M_unwritten_0 32 rfl) ?_
      refine r_bipush C 8 (dk_at dk_M_unwritten_0 33 rfl) ?_
      refine r_irem C (by decide) (dk_at dk_M_unwritten_0 34 rfl) ?_
      refine r_topi (fun v8 e9 => ?_)
      replace h := h v8 e9
      refine r_istore C [(7, .int v8), (6, .int v6), (5, .int v4), (0, .ref (wAd w 0)), (1, .int a1), (2, .int a2), (3, .int a3), (4, .int a4)] rfl rfl (dk_at dk_M_unwritten_0 35 rfl) ?_
      refine r_iload C 2 rfl (dk_at dk_M_unwritten_0 36 rfl) ?_
      refine r_if_lt C 132 rfl (dk_at dk_M_unwritten_0 37 rfl) (fun c10 => ?_) (fun c10 => ?_)
      · replace h := h.1 c10
        refine r_iinc C 7 rfl rfl [(4, .int (a4 + 1)), (7, .int v8), (6, .int v6), (5, .int v4), (0, .ref (wAd w 0)), (1, .int a1), (2, .int a2), (3, .int a3)] rfl rfl (dk_at dk_M_unwritten_1 32 rfl) ?_
        refine r_goto C 14 rfl (dk_at dk_M_unwritten_1 33 rfl) ?_
        refine r_lv [4, 5, 6, 7, 0] rfl ?_
        exact k14 _ _ _ _ h
      · replace h := h.2 c10
        refine r_aload_n C 3 rfl (dk_at dk_M_unwritten_0 38 rfl) ?_
        refine r_iload C 1 rfl (dk_at dk_M_unwritten_0 39 rfl) ?_
        refine r_cvI C cl_M_322 0 (hL 0 _ rfl) [.int v6] (m_M_isReader hL h) (rmK_ok rfl rfl) rfl rfl (Nat.le_of_ble_eq_true rfl) (dk_at dk_M_unwritten_1 0 rfl) (fun r11 σ12 h => ?_)
        refine r_if_eq C 132 rfl (dk_at dk_M_unwritten_1 1 rfl) (fun c13 => ?_) (fun c13 => ?_)
        · replace h := h.1 c13
          refine r_iinc C 7 rfl rfl [(4, .int (a4 + 1)), (7, .int v8), (6, .int v6), (5, .int v4), (0, .ref (wAd w 0)), (1, .int a1), (2, .int a2), (3, .int a3)] rfl rfl (dk_at dk_M_unwritten_1 32 rfl) ?_
          refine r_goto C 14 rfl (dk_at dk_M_unwritten_1 33 rfl) ?_
          refine r_lv [4, 5, 6, 7, 0] rfl ?_
          exact k14 _ _ _ _ h
        · replace h := h.2 c13
          refine r_aload_n C 3 rfl (dk_at dk_M_unwritten_1 2 rfl) ?_
          refine r_iload C 0 rfl (dk_at dk_M_unwritten_1 3 rfl) ?_
          refine r_cvI C cl_M_120 0 (hL 0 _ rfl) [.int v8] (m_M_isAct hL h) (rmK_ok rfl rfl) rfl rfl (Nat.le_of_ble_eq_true rfl) (dk_at dk_M_unwritten_1 4 rfl) (fun r14 σ15 h => ?_)
          refine r_if_ne C 85 rfl (dk_at dk_M_unwritten_1 5 rfl) (fun c16 => ?_) (fun c16 => ?_)
          · replace h := h.1 c16
            refine r_aload_n C 3 rfl (dk_at dk_M_unwritten_1 7 rfl) ?_
            refine r_iload C 0 rfl (dk_at dk_M_unwritten_1 8 rfl) ?_
            refine r_iload C 1 rfl (dk_at dk_M_unwritten_1 9 rfl) ?_
            refine r_iload C 2 rfl (dk_at dk_M_unwritten_1 10 rfl) ?_
            refine r_cvV C cl_M_328 0 (hL 0 _ rfl) [.int v8, .int v6, .int v4] (m_M_logs hL h) (rmK_ok rfl rfl) rfl rfl (Nat.le_of_ble_eq_true rfl) (dk_at dk_M_unwritten_1 11 rfl) (fun σ18 h => ?_)
            refine r_aload_n C 3 rfl (dk_at dk_M_unwritten_1 12 rfl) ?_
            refine r_cvI C cl_M_399 0 (hL 0 _ rfl) [] (m_M_areSo hL h) (rmK_ok rfl rfl) rfl rfl (Nat.le_of_ble_eq_true rfl) (dk_at dk_M_unwritten_1 13 rfl) (fun r19 σ20 h => ?_)
            refine r_istore C [(8, .int r19), (7, .int v8), (6, .int v6), (5, .int v4), (0, .ref (wAd w 0)), (1, .int a1), (2, .int a2), (3, .int a3), (4, .int a4)] rfl rfl (dk_at dk_M_unwritten_1 14 rfl) ?_
            refine r_aload_n C 4 rfl (dk_at dk_M_unwritten_1 15 rfl) ?_
            refine r_getR C fl_M_20 0 (hL 0 _ rfl) rfl (dk_at dk_M_unwritten_1 16 rfl) ?_
            refine r_sipush C 401 (dk_at dk_M_unwritten_1 17 rfl) ?_
            refine r_dup2 C rfl rfl (dk_at dk_M_unwritten_1 18 rfl) ?_
            refine r_ialdK C 4 (hL 4 _ rfl) lk_401 (vk_401_6012) (dk_at dk_M_unwritten_1 19 rfl) ?_
            refine r_iconst C 1 (dk_at dk_M_unwritten_1 20 rfl) ?_
            refine r_isub C (dk_at dk_M_unwritten_1 21 rfl) ?_
            refine r_iastK C 4 (hL 4 _ rfl) lk_401 vk_401_6012 (dk_at dk_M_unwritten_1 22 rfl) (r_sg (fun σ21 e22 => ?_))
            replace h := h σ21 e22
            refine r_iload C 0 rfl (dk_at dk_M_unwritten_1 23 rfl) ?_
            refine r_if_ne C 121 rfl (dk_at dk_M_unwritten_1 24 rfl) (fun c23 => ?_) (fun c23 => ?_)
            · replace h := h.1 c23
              refine r_iload_n C 6 rfl (dk_at dk_M_unwritten_1 26 rfl) ?_
              refine r_iload_n C 5 rfl (dk_at dk_M_unwritten_1 27 rfl) ?_
              refine r_icmp_ne C 129 rfl (dk_at dk_M_unwritten_1 28 rfl) (fun c24 => ?_) (fun c24 => ?_)
              · replace h := h.1 c24
                refine r_lv [4, 5, 6, 7, 8] rfl ?_
                exact t_M_unwritten_j129 C hL k14 h
              · replace h := h.2 c24
                refine r_iload C 8 rfl (dk_at dk_M_unwritten_1 29 rfl) ?_
                refine r_istore_n C [(3, .int a4), (8, .int r19), (7, .int v8), (6, .int v6), (5, .int v4), (0, .ref (wAd w 0)), (1, .int a1), (2, .int a2), (4, .int a4)] rfl rfl (dk_at dk_M_unwritten_1 30 rfl) ?_
                refine r_lv [5, 6, 7, 0, 8] rfl ?_
                exact t_M_unwritten_j129 C hL k14 h
            · replace h := h.2 c23
              refine r_goto C 132 rfl (dk_at dk_M_unwritten_1 25 rfl) ?_
              refine r_iinc C 8 rfl rfl [(4, .int (a4 + 1)), (8, .int r19), (7, .int v8), (6, .int v6), (5, .int v4), (0, .ref (wAd w 0)), (1, .int a1), (2, .int a2), (3, .int a3)] rfl rfl (dk_at dk_M_unwritten_1 32 rfl) ?_
              refine r_goto C 14 rfl (dk_at dk_M_unwritten_1 33 rfl) ?_
              refine r_lv [5, 6, 7, 8, 0] rfl ?_
              exact k14 _ _ _ _ h
          · replace h := h.2 c16
            refine r_goto C 132 rfl (dk_at dk_M_unwritten_1 6 rfl) ?_
            refine r_iinc C 7 rfl rfl [(4, .int (a4 + 1)), (7, .int v8), (6, .int v6), (5, .int v4), (0, .ref (wAd w 0)), (1, .int a1), (2, .int a2), (3, .int a3)] rfl rfl (dk_at dk_M_unwritten_1 32 rfl) ?_
            refine r_goto C 14 rfl (dk_at dk_M_unwritten_1 33 rfl) ?_
            refine r_lv [4, 5, 6, 7, 0] rfl ?_
            exact k14 _ _ _ _ h
set_option maxRecDepth 20000 in
theorem t_M_unwritten_l14 {X : CT} {w : WO} (C : CF X w (lim0 w) 9 cX11_unwritten RX11 (some .int) (.code yX11_unwritten cX11_unwritten 9 (some .int)) (rmK 93 2247)) (hL : LyM w) {a1 : Int32} {post : Int32 → DD → Prop} {σ : DD} {a2 : Int32} {a3 : Int32} {a4 : Int32} (h : w_M_unwritten_l14 post σ a1 a2 a3 a4) : gW X w (lim0 w) 9 (QI X w post) σ 14 [(0, .ref (wAd w 0)), (1, .int a1), (2, .int a2), (3, .int a3), (4, .int a4)] [] :=
  LoopW (G := fun x : DD × Int32 × Int32 × Int32 => gW X w (lim0 w) 9 (QI X w post) x.1 14 [(0, .ref (wAd w 0)), (1, .int a1), (2, .int x.2.1), (3, .int x.2.2.1), (4, .int x.2.2.2)] []) (fun K x hK hF => t_M_unwritten_b14 C hL (fun σ a2 a3 a4 q => hK (σ, a2, a3, a4) q) hF) h
set_option maxRecDepth 20000 in
theorem m_M_unwritten {l : Launch} {w : WO} (hL : LyM w) {σ : DD} {a1 : Int32} {post : Int32 → DD → Prop} (h : w_M_unwritten σ a1 post) : MI l w yX11_unwritten cX11_unwritten 9 .int (rmK 93 2247) σ [.ref (wAd w 0), .int a1] post :=
  met_head (rt := (some .int)) (by decide) rfl (fun X hX C => by
  subst hX
  unfold w_M_unwritten at h
  show gW X w (lim0 w) 9 (QI X w post) σ 0 [(0, .ref (wAd w 0)), (1, .int a1)] []
  refine r_iload_n C 1 rfl (dk_at dk_M_unwritten_0 0 rfl) ?_
  refine r_iconst C (-1) (dk_at dk_M_unwritten_0 1 rfl) ?_
  refine r_icmp_ge C 7 rfl (dk_at dk_M_unwritten_0 2 rfl) (fun c25 => ?_) (fun c25 => ?_)
  · replace h := h.1 c25
    refine r_iconst C 0 (dk_at dk_M_unwritten_0 5 rfl) ?_
    refine r_istore_n C [(2, .int 0), (0, .ref (wAd w 0)), (1, .int a1)] rfl rfl (dk_at dk_M_unwritten_0 6 rfl) ?_
    refine r_iconst C (-1) (dk_at dk_M_unwritten_0 7 rfl) ?_
    refine r_istore_n C [(3, .int (-1)), (2, .int 0), (0, .ref (wAd w 0)), (1, .int a1)] rfl rfl (dk_at dk_M_unwritten_0 8 rfl) ?_
    refine r_iconst C 0 (dk_at dk_M_unwritten_0 9 rfl) ?_
    refine r_istore C [(4, .int 0), (3, .int (-1)), (2, .int 0), (0, .ref (wAd w 0)), (1, .int a1)] rfl rfl (dk_at dk_M_unwritten_0 10 rfl) ?_
    refine r_lv [3, 4, 2, 1, 0] rfl ?_
    exact t_M_unwritten_l14 C hL h
  · replace h := h.2 c25
    refine r_iconst C (-1) (dk_at dk_M_unwritten_0 3 rfl) ?_
    exact r_iret C h (dk_at dk_M_unwritten_0 4 rfl)
  )
set_option maxRecDepth 20000 in
theorem m_M_stopped {l : Launch} {w : WO} (hL : LyM w) {σ : DD} {post : Int32 → DD → Prop} (h : w_M_stopped σ post) : MI l w yX11_stopped cX11_stopped 1 .int (rmK 0 0) σ [.ref (wAd w 0)] post :=
  met_head (rt := (some .int)) (by decide) rfl (fun X hX C => by
  subst hX
  unfold w_M_stopped at h
  show gW X w (lim0 w) 1 (QI X w post) σ 0 [(0, .ref (wAd w 0))] []
  refine r_aload_n C 0 rfl (dk_at dk_M_stopped_0 0 rfl) ?_
  refine r_getI C fl_M_89 0 (hL 0 _ rfl) rfl (dk_at dk_M_stopped_0 1 rfl) ?_
  exact r_iret C h (dk_at dk_M_stopped_0 2 rfl)
  )
set_option maxRecDepth 20000 in
theorem t_M_setsOrder_j63 {X : CT} {w : WO} (C : CF X w (lim0 w) 3 cX11_setsOrder RX11 none (.code yX11_setsOrder cX11_setsOrder 3 none) (rmK 93 2247)) (hL : LyM w) {K2 : DD → Int32 → Prop} {post : DD → Prop} {a1 : Int32} {t1 : Int32} {t2 : Int32} (k2 : ∀ (σ : DD) (a1 : Int32), K2 σ a1 → gW X w (lim0 w) 3 (QV X w post) σ 2 [(0, .ref (wAd w 0)), (1, .int a1)] []) {σ : DD} (h : w_M_setsOrder_j63 K2 post σ a1 t1 t2) : gW X w (lim0 w) 3 (QV X w post) σ 63 [(0, .ref (wAd w 0)), (1, .int a1)] [.int t2, .int t1, .ref (wAd w 27)] := by
  unfold w_M_setsOrder_j63 at h
  obtain ⟨q3, h⟩ := h
  refine r_iast C 27 (hL 27 _ rfl) q3 (dk_at dk_M_setsOrder_0 36 rfl) (r_sg (fun σ1 e2 => ?_))
  replace h := h σ1 e2
  refine r_iinc C 1 rfl rfl [(1, .int (a1 + 1)), (0, .ref (wAd w 0))] rfl rfl (dk_at dk_M_setsOrder_0 37 rfl) ?_
  refine r_goto C 2 rfl (dk_at dk_M_setsOrder_0 38 rfl) ?_
  refine r_lv [1, 0] rfl ?_
  exact k2 _ _ h
set_option maxRecDepth 20000 in
theorem t_M_setsOrder_j33 {X : CT} {w : WO} (C : CF X w (lim0 w) 3 cX11_setsOrder RX11 none (.code yX11_setsOrder cX11_setsOrder 3 none) (rmK 93 2247)) (hL : LyM w) {K2 : DD → Int32 → Prop} {post : DD → Prop} {a1 : Int32} {t0 : Int32} (k2 : ∀ (σ : DD) (a1 : Int32), K2 σ a1 → gW X w (lim0 w) 3 (QV X w post) σ 2 [(0, .ref (wAd w 0)), (1, .int a1)] []) {σ : DD} (h : w_M_setsOrder_j33 K2 post σ a1 t0) : gW X w (lim0 w) 3 (QV X w post) σ 33 [(0, .ref (wAd w 0)), (1, .int a1)] [.int t0] := by
  unfold w_M_setsOrder_j33 at h
  refine r_istore_n C [(2, .int t0), (0, .ref (wAd w 0)), (1, .int a1)] rfl rfl (dk_at dk_M_setsOrder_0 18 rfl) ?_
  refine r_aload_n C 1 rfl (dk_at dk_M_setsOrder_0 19 rfl) ?_
  refine r_getR C fl_M_55 0 (hL 0 _ rfl) rfl (dk_at dk_M_setsOrder_0 20 rfl) ?_
  refine r_iload_n C 2 rfl (dk_at dk_M_setsOrder_0 21 rfl) ?_
  refine r_iload_n C 0 rfl (dk_at dk_M_setsOrder_0 22 rfl) ?_
  refine r_iconst C (-1) (dk_at dk_M_setsOrder_0 23 rfl) ?_
  refine r_icmp_ne C 48 rfl (dk_at dk_M_setsOrder_0 24 rfl) (fun c4 => ?_) (fun c4 => ?_)
  · replace h := h.1 c4
    refine r_aload_n C 1 rfl (dk_at dk_M_setsOrder_0 27 rfl) ?_
    refine r_getR C fl_M_20 0 (hL 0 _ rfl) rfl (dk_at dk_M_setsOrder_0 28 rfl) ?_
    refine r_sipush C 395 (dk_at dk_M_setsOrder_0 29 rfl) ?_
    refine r_ialdK C 4 (hL 4 _ rfl) lk_395 (vk_395_6012) (dk_at dk_M_setsOrder_0 30 rfl) ?_
    refine r_aload_n C 1 rfl (dk_at dk_M_setsOrder_0 31 rfl) ?_
    refine r_iload_n C 0 rfl (dk_at dk_M_setsOrder_0 32 rfl) ?_
    refine r_iconst C 2 (dk_at dk_M_setsOrder_0 33 rfl) ?_
    refine r_cvI C cl_M_137 0 (hL 0 _ rfl) [.int t0, .int 2] (m_M_reading hL h) (rmK_ok rfl rfl) rfl rfl (Nat.le_of_ble_eq_true rfl) (dk_at dk_M_setsOrder_0 34 rfl) (fun r5 σ6 h => ?_)
    refine r_isub C (dk_at dk_M_setsOrder_0 35 rfl) ?_
    refine r_lv [1, 2] rfl ?_
    exact t_M_setsOrder_j63 C hL k2 h
  · replace h := h.2 c4
    refine r_iconst C (-1) (dk_at dk_M_setsOrder_0 25 rfl) ?_
    refine r_goto C 63 rfl (dk_at dk_M_setsOrder_0 26 rfl) ?_
    refine r_lv [1, 2] rfl ?_
    exact t_M_setsOrder_j63 C hL k2 h
set_option maxRecDepth 20000 in
theorem t_M_setsOrder_j107 {X : CT} {w : WO} (C : CF X w (lim0 w) 3 cX11_setsOrder RX11 none (.code yX11_setsOrder cX11_setsOrder 3 none) (rmK 93 2247)) (hL : LyM w) {K72 : DD → Int32 → Prop} {post : DD → Prop} {a1 : Int32} {t1 : Int32} {t2 : Int32} (k72 : ∀ (σ : DD) (a1 : Int32), K72 σ a1 → gW X w (lim0 w) 3 (QV X w post) σ 72 [(0, .ref (wAd w 0)), (1, .int a1)] []) {σ : DD} (h : w_M_setsOrder_j107 K72 post σ a1 t1 t2) : gW X w (lim0 w) 3 (QV X w post) σ 107 [(0, .ref (wAd w 0)), (1, .int a1)] [.int t2, .int t1, .ref (wAd w 28)] := by
  unfold w_M_setsOrder_j107 at h
  obtain ⟨q9, h⟩ := h
  refine r_iast C 28 (hL 28 _ rfl) q9 (dk_at dk_M_setsOrder_1 20 rfl) (r_sg (fun σ7 e8 => ?_))
  replace h := h σ7 e8
  refine r_iinc C 1 rfl rfl [(1, .int (a1 + 1)), (0, .ref (wAd w 0))] rfl rfl (dk_at dk_M_setsOrder_1 21 rfl) ?_
  refine r_goto C 72 rfl (dk_at dk_M_setsOrder_1 22 rfl) ?_
  refine r_lv [1, 0] rfl ?_
  exact k72 _ _ h
set_option maxRecDepth 20000 in
theorem t_M_setsOrder_b72 {X : CT} {w : WO} (C : CF X w (lim0 w) 3 cX11_setsOrder RX11 none (.code yX11_setsOrder cX11_setsOrder 3 none) (rmK 93 2247)) (hL : LyM w) {K72 : DD → Int32 → Prop} {post : DD → Prop} (k72 : ∀ (σ : DD) (a1 : Int32), K72 σ a1 → gW X w (lim0 w) 3 (QV X w post) σ 72 [(0, .ref (wAd w 0)), (1, .int a1)] []) {σ : DD} {a1 : Int32} (h : w_M_setsOrder_b72 K72 post σ a1) : gW X w (lim0 w) 3 (QV X w post) σ 72 [(0, .ref (wAd w 0)), (1, .int a1)] [] := by
  unfold w_M_setsOrder_b72 at h
  refine r_iload_n C 1 rfl (dk_at dk_M_setsOrder_1 1 rfl) ?_
  refine r_iconst C 4 (dk_at dk_M_setsOrder_1 2 rfl) ?_
  refine r_icmp_ge C 114 rfl (dk_at dk_M_setsOrder_1 3 rfl) (fun c10 => ?_) (fun c10 => ?_)
  · replace h := h.1 c10
    refine r_aload_n C 0 rfl (dk_at dk_M_setsOrder_1 23 rfl) ?_
    refine r_aload_n C 0 rfl (dk_at dk_M_setsOrder_1 24 rfl) ?_
    refine r_getR C fl_M_20 0 (hL 0 _ rfl) rfl (dk_at dk_M_setsOrder_1 25 rfl) ?_
    refine r_sipush C 395 (dk_at dk_M_setsOrder_1 26 rfl) ?_
    refine r_ialdK C 4 (hL 4 _ rfl) lk_395 (vk_395_6012) (dk_at dk_M_setsOrder_1 27 rfl) ?_
    refine r_cvI C cl_M_335 0 (hL 0 _ rfl) [.int (gI σ 4 395)] (m_M_heldOn hL h) (rmK_ok rfl rfl) rfl rfl (Nat.le_of_ble_eq_true rfl) (dk_at dk_M_setsOrder_1 28 rfl) (fun r11 σ12 h => ?_)
    refine r_csI C cs_M_288 [.int r11] (m_M_ones hL h) (rmK_ok rfl rfl) rfl rfl (Nat.le_of_ble_eq_true rfl) (dk_at dk_M_setsOrder_1 29 rfl) (fun r13 σ14 h => ?_)
    refine r_istore_n C [(1, .int r13), (0, .ref (wAd w 0))] rfl rfl (dk_at dk_M_setsOrder_1 30 rfl) ?_
    refine r_aload_n C 1 rfl (dk_at dk_M_setsOrder_1 31 rfl) ?_
    refine r_getR C fl_M_52 0 (hL 0 _ rfl) rfl (dk_at dk_M_setsOrder_1 32 rfl) ?_
    refine r_iconst C 0 (dk_at dk_M_setsOrder_1 33 rfl) ?_
    refine r_aload_n C 1 rfl (dk_at dk_M_setsOrder_1 34 rfl) ?_
    refine r_getR C fl_M_20 0 (hL 0 _ rfl) rfl (dk_at dk_M_setsOrder_1 35 rfl) ?_
    refine r_sipush C 395 (dk_at dk_M_setsOrder_1 36 rfl) ?_
    refine r_ialdK C 4 (hL 4 _ rfl) lk_395 (vk_395_6012) (dk_at dk_M_setsOrder_1 37 rfl) ?_
    refine r_iastK C 26 (hL 26 _ rfl) lk_0 vk_0_8 (dk_at dk_M_setsOrder_1 38 rfl) (r_sg (fun σ15 e16 => ?_))
    replace h := h σ15 e16
    refine r_aload_n C 1 rfl (dk_at dk_M_setsOrder_1 39 rfl) ?_
    refine r_getR C fl_M_52 0 (hL 0 _ rfl) rfl (dk_at dk_M_setsOrder_2 0 rfl) ?_
    refine r_iconst C 1 (dk_at dk_M_setsOrder_2 1 rfl) ?_
    refine r_iload_n C 0 rfl (dk_at dk_M_setsOrder_2 2 rfl) ?_
    refine r_iastK C 26 (hL 26 _ rfl) lk_1 vk_1_8 (dk_at dk_M_setsOrder_2 3 rfl) (r_sg (fun σ17 e18 => ?_))
    replace h := h σ17 e18
    refine r_aload_n C 1 rfl (dk_at dk_M_setsOrder_2 4 rfl) ?_
    refine r_getR C fl_M_52 0 (hL 0 _ rfl) rfl (dk_at dk_M_setsOrder_2 5 rfl) ?_
    refine r_iconst C 2 (dk_at dk_M_setsOrder_2 6 rfl) ?_
    refine r_aload_n C 1 rfl (dk_at dk_M_setsOrder_2 7 rfl) ?_
    refine r_getI C fl_M_402 0 (hL 0 _ rfl) rfl (dk_at dk_M_setsOrder_2 8 rfl) ?_
    refine r_iastK C 26 (hL 26 _ rfl) lk_2 vk_2_8 (dk_at dk_M_setsOrder_2 9 rfl) (r_sg (fun σ19 e20 => ?_))
    replace h := h σ19 e20
    refine r_aload_n C 1 rfl (dk_at dk_M_setsOrder_2 10 rfl) ?_
    refine r_getR C fl_M_52 0 (hL 0 _ rfl) rfl (dk_at dk_M_setsOrder_2 11 rfl) ?_
    refine r_iconst C 3 (dk_at dk_M_setsOrder_2 12 rfl) ?_
    refine r_aload_n C 1 rfl (dk_at dk_M_setsOrder_2 13 rfl) ?_
    refine r_getI C fl_M_405 0 (hL 0 _ rfl) rfl (dk_at dk_M_setsOrder_2 14 rfl) ?_
    refine r_iastK C 26 (hL 26 _ rfl) lk_3 vk_3_8 (dk_at dk_M_setsOrder_2 15 rfl) (r_sg (fun σ21 e22 => ?_))
    replace h := h σ21 e22
    refine r_aload_n C 1 rfl (dk_at dk_M_setsOrder_2 16 rfl) ?_
    refine r_bipush C 16 (dk_at dk_M_setsOrder_2 17 rfl) ?_
    refine r_putI C fl_M_218 0 (hL 0 _ rfl) rfl (dk_at dk_M_setsOrder_2 18 rfl) (r_sg (fun σ23 e24 => ?_))
    replace h := h σ23 e24
    exact r_vret C h (dk_at dk_M_setsOrder_2 19 rfl)
  · replace h := h.2 c10
    refine r_aload_n C 0 rfl (dk_at dk_M_setsOrder_1 4 rfl) ?_
    refine r_getR C fl_M_58 0 (hL 0 _ rfl) rfl (dk_at dk_M_setsOrder_1 5 rfl) ?_
    refine r_iload_n C 1 rfl (dk_at dk_M_setsOrder_1 6 rfl) ?_
    refine r_aload_n C 0 rfl (dk_at dk_M_setsOrder_1 7 rfl) ?_
    refine r_iload_n C 1 rfl (dk_at dk_M_setsOrder_1 8 rfl) ?_
    refine r_cvI C cl_M_322 0 (hL 0 _ rfl) [.int a1] (m_M_isReader hL h) (rmK_ok rfl rfl) rfl rfl (Nat.le_of_ble_eq_true rfl) (dk_at dk_M_setsOrder_1 9 rfl) (fun r25 σ26 h => ?_)
    refine r_if_eq C 106 rfl (dk_at dk_M_setsOrder_1 10 rfl) (fun c27 => ?_) (fun c27 => ?_)
    · replace h := h.1 c27
      refine r_iconst C (-1) (dk_at dk_M_setsOrder_1 19 rfl) ?_
      refine r_lv [0, 1] rfl ?_
      exact t_M_setsOrder_j107 C hL k72 h
    · replace h := h.2 c27
      refine r_aload_n C 0 rfl (dk_at dk_M_setsOrder_1 11 rfl) ?_
      refine r_iload_n C 1 rfl (dk_at dk_M_setsOrder_1 12 rfl) ?_
      refine r_aload_n C 0 rfl (dk_at dk_M_setsOrder_1 13 rfl) ?_
      refine r_getR C fl_M_20 0 (hL 0 _ rfl) rfl (dk_at dk_M_setsOrder_1 14 rfl) ?_
      refine r_sipush C 395 (dk_at dk_M_setsOrder_1 15 rfl) ?_
      refine r_ialdK C 4 (hL 4 _ rfl) lk_395 (vk_395_6012) (dk_at dk_M_setsOrder_1 16 rfl) ?_
      refine r_cvI C cl_M_319 0 (hL 0 _ rfl) [.int a1, .int (gI σ26 4 395)] (m_M_leftOn hL h) (rmK_ok rfl rfl) rfl rfl (Nat.le_of_ble_eq_true rfl) (dk_at dk_M_setsOrder_1 17 rfl) (fun r28 σ29 h => ?_)
      refine r_goto C 107 rfl (dk_at dk_M_setsOrder_1 18 rfl) ?_
      refine r_lv [0, 1] rfl ?_
      exact t_M_setsOrder_j107 C hL k72 h
set_option maxRecDepth 20000 in
theorem t_M_setsOrder_l72 {X : CT} {w : WO} (C : CF X w (lim0 w) 3 cX11_setsOrder RX11 none (.code yX11_setsOrder cX11_setsOrder 3 none) (rmK 93 2247)) (hL : LyM w) {post : DD → Prop} {σ : DD} {a1 : Int32} (h : w_M_setsOrder_l72 post σ a1) : gW X w (lim0 w) 3 (QV X w post) σ 72 [(0, .ref (wAd w 0)), (1, .int a1)] [] :=
  LoopW (G := fun x : DD × Int32 => gW X w (lim0 w) 3 (QV X w post) x.1 72 [(0, .ref (wAd w 0)), (1, .int x.2)] []) (fun K x hK hF => t_M_setsOrder_b72 C hL (fun σ a1 q => hK (σ, a1) q) hF) h
set_option maxRecDepth 20000 in
theorem t_M_setsOrder_b2 {X : CT} {w : WO} (C : CF X w (lim0 w) 3 cX11_setsOrder RX11 none (.code yX11_setsOrder cX11_setsOrder 3 none) (rmK 93 2247)) (hL : LyM w) {K2 : DD → Int32 → Prop} {post : DD → Prop} (k2 : ∀ (σ : DD) (a1 : Int32), K2 σ a1 → gW X w (lim0 w) 3 (QV X w post) σ 2 [(0, .ref (wAd w 0)), (1, .int a1)] []) {σ : DD} {a1 : Int32} (h : w_M_setsOrder_b2 K2 post σ a1) : gW X w (lim0 w) 3 (QV X w post) σ 2 [(0, .ref (wAd w 0)), (1, .int a1)] [] := by
  unfold w_M_setsOrder_b2 at h
  refine r_iload_n C 1 rfl (dk_at dk_M_setsOrder_0 2 rfl) ?_
  refine r_bipush C 8 (dk_at dk_M_setsOrder_0 3 rfl) ?_
  refine r_icmp_ge C 70 rfl (dk_at dk_M_setsOrder_0 4 rfl) (fun c30 => ?_) (fun c30 => ?_)
  · replace h := h.1 c30
    refine r_iconst C 0 (dk_at dk_M_setsOrder_0 39 rfl) ?_
    refine r_istore_n C [(1, .int 0), (0, .ref (wAd w 0))] rfl rfl (dk_at dk_M_setsOrder_1 0 rfl) ?_
    refine r_lv [1, 0] rfl ?_
    exact t_M_setsOrder_l72 C hL h
  · replace h := h.2 c30
    refine r_aload_n C 0 rfl (dk_at dk_M_setsOrder_0 5 rfl) ?_
    refine r_iload_n C 1 rfl (dk_at dk_M_setsOrder_0 6 rfl) ?_
    refine r_cvI C cl_M_120 0 (hL 0 _ rfl) [.int a1] (m_M_isAct hL h) (rmK_ok rfl rfl) rfl rfl (Nat.le_of_ble_eq_true rfl) (dk_at dk_M_setsOrder_0 7 rfl) (fun r31 σ32 h => ?_)
    refine r_if_eq C 32 rfl (dk_at dk_M_setsOrder_0 8 rfl) (fun c33 => ?_) (fun c33 => ?_)
    · replace h := h.1 c33
      refine r_iconst C (-1) (dk_at dk_M_setsOrder_0 17 rfl) ?_
      refine r_lv [0, 1] rfl ?_
      exact t_M_setsOrder_j33 C hL k2 h
    · replace h := h.2 c33
      refine r_aload_n C 0 rfl (dk_at dk_M_setsOrder_0 9 rfl) ?_
      refine r_iload_n C 1 rfl (dk_at dk_M_setsOrder_0 10 rfl) ?_
      refine r_aload_n C 0 rfl (dk_at dk_M_setsOrder_0 11 rfl) ?_
      refine r_getR C fl_M_20 0 (hL 0 _ rfl) rfl (dk_at dk_M_setsOrder_0 12 rfl) ?_
      refine r_sipush C 395 (dk_at dk_M_setsOrder_0 13 rfl) ?_
      refine r_ialdK C 4 (hL 4 _ rfl) lk_395 (vk_395_6012) (dk_at dk_M_setsOrder_0 14 rfl) ?_
      refine r_cvI C cl_M_300 0 (hL 0 _ rfl) [.int a1, .int (gI σ32 4 395)] (m_M_latestOf hL h) (rmK_ok rfl rfl) rfl rfl (Nat.le_of_ble_eq_true rfl) (dk_at dk_M_setsOrder_0 15 rfl) (fun r34 σ35 h => ?_)
      refine r_goto C 33 rfl (dk_at dk_M_setsOrder_0 16 rfl) ?_
      refine r_lv [0, 1] rfl ?_
      exact t_M_setsOrder_j33 C hL k2 h
set_option maxRecDepth 20000 in
theorem t_M_setsOrder_l2 {X : CT} {w : WO} (C : CF X w (lim0 w) 3 cX11_setsOrder RX11 none (.code yX11_setsOrder cX11_setsOrder 3 none) (rmK 93 2247)) (hL : LyM w) {post : DD → Prop} {σ : DD} {a1 : Int32} (h : w_M_setsOrder_l2 post σ a1) : gW X w (lim0 w) 3 (QV X w post) σ 2 [(0, .ref (wAd w 0)), (1, .int a1)] [] :=
  LoopW (G := fun x : DD × Int32 => gW X w (lim0 w) 3 (QV X w post) x.1 2 [(0, .ref (wAd w 0)), (1, .int x.2)] []) (fun K x hK hF => t_M_setsOrder_b2 C hL (fun σ a1 q => hK (σ, a1) q) hF) h
set_option maxRecDepth 20000 in
theorem m_M_setsOrder {l : Launch} {w : WO} (hL : LyM w) {σ : DD} {post : DD → Prop} (h : w_M_setsOrder σ post) : MV l w yX11_setsOrder cX11_setsOrder 3 (rmK 93 2247) σ [.ref (wAd w 0)] post :=
  met_head (rt := none) (by decide) rfl (fun X hX C => by
  subst hX
  unfold w_M_setsOrder at h
  show gW X w (lim0 w) 3 (QV X w post) σ 0 [(0, .ref (wAd w 0))] []
  refine r_iconst C 0 (dk_at dk_M_setsOrder_0 0 rfl) ?_
  refine r_istore_n C [(1, .int 0), (0, .ref (wAd w 0))] rfl rfl (dk_at dk_M_setsOrder_0 1 rfl) ?_
  refine r_lv [1, 0] rfl ?_
  exact t_M_setsOrder_l2 C hL h
  )
set_option maxRecDepth 20000 in
theorem t_M_goesAlong_j120 {X : CT} {w : WO} (C : CF X w (lim0 w) 5 cX11_goesAlong RX11 none (.code yX11_goesAlong cX11_goesAlong 5 none) (rmK 94 2269)) (hL : LyM w) {K62 : DD → Int32 → Prop} {post : DD → Prop} {a2 : Int32} {a3 : Int32} {a4 : Int32} {t1 : Int32} (k62 : ∀ (σ : DD) (a4 : Int32), K62 σ a4 → gW X w (lim0 w) 5 (QV X w post) σ 62 [(0, .ref (wAd w 0)), (2, .int a2), (3, .int a3), (4, .int a4)] []) {σ : DD} (h : w_M_goesAlong_j120 K62 post σ a2 a3 a4 t1) : gW X w (lim0 w) 5 (QV X w post) σ 120 [(0, .ref (wAd w 0)), (2, .int a2), (3, .int a3), (4, .int a4)] [.int t1, .ref (wAd w 0)] := by
  unfold w_M_goesAlong_j120 at h
  obtain ⟨q1, h⟩ := h
  refine r_putZ C fl_M_420 0 (hL 0 _ rfl) rfl q1 (dk_at dk_M_goesAlong_1 25 rfl) (r_sg (fun σ2 e3 => ?_))
  replace h := h σ2 e3
  refine r_iinc C 3 rfl rfl [(4, .int (a4 + 1)), (0, .ref (wAd w 0)), (2, .int a2), (3, .int a3)] rfl rfl (dk_at dk_M_goesAlong_1 26 rfl) ?_
  refine r_goto C 62 rfl (dk_at dk_M_goesAlong_1 27 rfl) ?_
  refine r_lv [1, 2, 3, 0] rfl ?_
  exact k62 _ _ h
set_option maxRecDepth 20000 in
theorem t_M_goesAlong_j119 {X : CT} {w : WO} (C : CF X w (lim0 w) 5 cX11_goesAlong RX11 none (.code yX11_goesAlong cX11_goesAlong 5 none) (rmK 94 2269)) (hL : LyM w) {K62 : DD → Int32 → Prop} {post : DD → Prop} {a2 : Int32} {a3 : Int32} {a4 : Int32} (k62 : ∀ (σ : DD) (a4 : Int32), K62 σ a4 → gW X w (lim0 w) 5 (QV X w post) σ 62 [(0, .ref (wAd w 0)), (2, .int a2), (3, .int a3), (4, .int a4)] []) {σ : DD} (h : w_M_goesAlong_j119 K62 post σ a2 a3 a4) : gW X w (lim0 w) 5 (QV X w post) σ 119 [(0, .ref (wAd w 0)), (2, .int a2), (3, .int a3), (4, .int a4)] [.ref (wAd w 0)] := by
  unfold w_M_goesAlong_j119 at h
  refine r_iconst C 0 (dk_at dk_M_goesAlong_1 24 rfl) ?_
  refine r_lv [0, 1, 2, 3] rfl ?_
  exact t_M_goesAlong_j120 C hL k62 h
set_option maxRecDepth 20000 in
theorem t_M_goesAlong_j83 {X : CT} {w : WO} (C : CF X w (lim0 w) 5 cX11_goesAlong RX11 none (.code yX11_goesAlong cX11_goesAlong 5 none) (rmK 94 2269)) (hL : LyM w) {K62 : DD → Int32 → Prop} {post : DD → Prop} {a2 : Int32} {a3 : Int32} {a4 : Int32} (k62 : ∀ (σ : DD) (a4 : Int32), K62 σ a4 → gW X w (lim0 w) 5 (QV X w post) σ 62 [(0, .ref (wAd w 0)), (2, .int a2), (3, .int a3), (4, .int a4)] []) {σ : DD} (h : w_M_goesAlong_j83 K62 post σ a2 a3 a4) : gW X w (lim0 w) 5 (QV X w post) σ 83 [(0, .ref (wAd w 0)), (2, .int a2), (3, .int a3), (4, .int a4)] [] := by
  unfold w_M_goesAlong_j83 at h
  refine r_aload_n C 0 rfl (dk_at dk_M_goesAlong_1 5 rfl) ?_
  refine r_iconst C 0 (dk_at dk_M_goesAlong_1 6 rfl) ?_
  refine r_putZ C fl_M_256 0 (hL 0 _ rfl) rfl (Or.inl rfl) (dk_at dk_M_goesAlong_1 7 rfl) (r_sg (fun σ4 e5 => ?_))
  replace h := h σ4 e5
  refine r_aload_n C 0 rfl (dk_at dk_M_goesAlong_1 8 rfl) ?_
  refine r_getR C fl_M_92 0 (hL 0 _ rfl) rfl (dk_at dk_M_goesAlong_1 9 rfl) ?_
  refine r_iload C 3 rfl (dk_at dk_M_goesAlong_1 10 rfl) ?_
  refine r_aload_n C 0 rfl (dk_at dk_M_goesAlong_1 11 rfl) ?_
  refine r_iload_n C 1 rfl (dk_at dk_M_goesAlong_1 12 rfl) ?_
  refine r_cvL C cl_M_273 0 (hL 0 _ rfl) [.int a2] (m_M_sumOf hL h) (rmK_ok rfl rfl) rfl rfl (Nat.le_of_ble_eq_true rfl) (dk_at dk_M_goesAlong_1 13 rfl) (fun r6 σ7 h => ?_)
  obtain ⟨q10, h⟩ := h
  refine r_last C 53 (hL 53 _ rfl) q10 (dk_at dk_M_goesAlong_1 14 rfl) (r_sg (fun σ8 e9 => ?_))
  replace h := h σ8 e9
  refine r_aload_n C 0 rfl (dk_at dk_M_goesAlong_1 15 rfl) ?_
  refine r_aload_n C 0 rfl (dk_at dk_M_goesAlong_1 16 rfl) ?_
  refine r_getI C fl_M_420 0 (hL 0 _ rfl) rfl (dk_at dk_M_goesAlong_1 17 rfl) ?_
  refine r_if_eq C 119 rfl (dk_at dk_M_goesAlong_1 18 rfl) (fun c11 => ?_) (fun c11 => ?_)
  · replace h := h.1 c11
    refine r_lv [0, 1, 2, 3] rfl ?_
    exact t_M_goesAlong_j119 C hL k62 h
  · replace h := h.2 c11
    refine r_aload_n C 0 rfl (dk_at dk_M_goesAlong_1 19 rfl) ?_
    refine r_getI C fl_M_256 0 (hL 0 _ rfl) rfl (dk_at dk_M_goesAlong_1 20 rfl) ?_
    refine r_if_ne C 119 rfl (dk_at dk_M_goesAlong_1 21 rfl) (fun c12 => ?_) (fun c12 => ?_)
    · replace h := h.1 c12
      refine r_lv [0, 1, 2, 3] rfl ?_
      exact t_M_goesAlong_j119 C hL k62 h
    · replace h := h.2 c12
      refine r_iconst C 1 (dk_at dk_M_goesAlong_1 22 rfl) ?_
      refine r_goto C 120 rfl (dk_at dk_M_goesAlong_1 23 rfl) ?_
      refine r_lv [0, 1, 2, 3] rfl ?_
      exact t_M_goesAlong_j120 C hL k62 h
set_option maxRecDepth 20000 in
theorem t_M_goesAlong_j220 {X : CT} {w : WO} (C : CF X w (lim0 w) 5 cX11_goesAlong RX11 none (.code yX11_goesAlong cX11_goesAlong 5 none) (rmK 94 2269)) (hL : LyM w) {post : DD → Prop} {t1 : Int32} {σ : DD} (h : w_M_goesAlong_j220 post σ t1) : gW X w (lim0 w) 5 (QV X w post) σ 220 [(0, .ref (wAd w 0))] [.int t1, .ref (wAd w 0)] := by
  unfold w_M_goesAlong_j220 at h
  obtain ⟨q13, h⟩ := h
  refine r_putZ C fl_M_426 0 (hL 0 _ rfl) rfl q13 (dk_at dk_M_goesAlong_2 36 rfl) (r_sg (fun σ14 e15 => ?_))
  replace h := h σ14 e15
  refine r_aload_n C 0 rfl (dk_at dk_M_goesAlong_2 37 rfl) ?_
  refine r_dup C rfl (dk_at dk_M_goesAlong_2 38 rfl) ?_
  refine r_getI C fl_M_246 0 (hL 0 _ rfl) rfl (dk_at dk_M_goesAlong_2 39 rfl) ?_
  refine r_iconst C 1 (dk_at dk_M_goesAlong_3 0 rfl) ?_
  refine r_iadd C (dk_at dk_M_goesAlong_3 1 rfl) ?_
  refine r_putI C fl_M_246 0 (hL 0 _ rfl) rfl (dk_at dk_M_goesAlong_3 2 rfl) (r_sg (fun σ16 e17 => ?_))
  replace h := h σ16 e17
  exact r_vret C h (dk_at dk_M_goesAlong_3 3 rfl)
set_option maxRecDepth 20000 in
theorem t_M_goesAlong_j219 {X : CT} {w : WO} (C : CF X w (lim0 w) 5 cX11_goesAlong RX11 none (.code yX11_goesAlong cX11_goesAlong 5 none) (rmK 94 2269)) (hL : LyM w) {post : DD → Prop} {σ : DD} (h : w_M_goesAlong_j219 post σ) : gW X w (lim0 w) 5 (QV X w post) σ 219 [(0, .ref (wAd w 0))] [.ref (wAd w 0)] := by
  unfold w_M_goesAlong_j219 at h
  refine r_iconst C 0 (dk_at dk_M_goesAlong_2 35 rfl) ?_
  refine r_lv [0] rfl ?_
  exact t_M_goesAlong_j220 C hL h
set_option maxRecDepth 20000 in
theorem t_M_goesAlong_j197 {X : CT} {w : WO} (C : CF X w (lim0 w) 5 cX11_goesAlong RX11 none (.code yX11_goesAlong cX11_goesAlong 5 none) (rmK 94 2269)) (hL : LyM w) {post : DD → Prop} {t1 : Int32} {σ : DD} (h : w_M_goesAlong_j197 post σ t1) : gW X w (lim0 w) 5 (QV X w post) σ 197 [(0, .ref (wAd w 0))] [.int t1, .ref (wAd w 0)] := by
  unfold w_M_goesAlong_j197 at h
  obtain ⟨q18, h⟩ := h
  refine r_putZ C fl_M_426 0 (hL 0 _ rfl) rfl q18 (dk_at dk_M_goesAlong_2 25 rfl) (r_sg (fun σ19 e20 => ?_))
  replace h := h σ19 e20
  refine r_aload_n C 0 rfl (dk_at dk_M_goesAlong_2 26 rfl) ?_
  refine r_aload_n C 0 rfl (dk_at dk_M_goesAlong_2 27 rfl) ?_
  refine r_getI C fl_M_426 0 (hL 0 _ rfl) rfl (dk_at dk_M_goesAlong_2 28 rfl) ?_
  refine r_if_eq C 219 rfl (dk_at dk_M_goesAlong_2 29 rfl) (fun c21 => ?_) (fun c21 => ?_)
  · replace h := h.1 c21
    refine r_lv [0] rfl ?_
    exact t_M_goesAlong_j219 C hL h
  · replace h := h.2 c21
    refine r_aload_n C 0 rfl (dk_at dk_M_goesAlong_2 30 rfl) ?_
    refine r_getI C fl_M_256 0 (hL 0 _ rfl) rfl (dk_at dk_M_goesAlong_2 31 rfl) ?_
    refine r_if_ne C 219 rfl (dk_at dk_M_goesAlong_2 32 rfl) (fun c22 => ?_) (fun c22 => ?_)
    · replace h := h.1 c22
      refine r_lv [0] rfl ?_
      exact t_M_goesAlong_j219 C hL h
    · replace h := h.2 c22
      refine r_iconst C 1 (dk_at dk_M_goesAlong_2 33 rfl) ?_
      refine r_goto C 220 rfl (dk_at dk_M_goesAlong_2 34 rfl) ?_
      refine r_lv [0] rfl ?_
      exact t_M_goesAlong_j220 C hL h
set_option maxRecDepth 20000 in
theorem t_M_goesAlong_j192 {X : CT} {w : WO} (C : CF X w (lim0 w) 5 cX11_goesAlong RX11 none (.code yX11_goesAlong cX11_goesAlong 5 none) (rmK 94 2269)) (hL : LyM w) {post : DD → Prop} {σ : DD} (h : w_M_goesAlong_j192 post σ) : gW X w (lim0 w) 5 (QV X w post) σ 192 [(0, .ref (wAd w 0))] [.ref (wAd w 0)] := by
  unfold w_M_goesAlong_j192 at h
  refine r_iconst C 1 (dk_at dk_M_goesAlong_2 22 rfl) ?_
  refine r_goto C 197 rfl (dk_at dk_M_goesAlong_2 23 rfl) ?_
  refine r_lv [0] rfl ?_
  exact t_M_goesAlong_j197 C hL h
set_option maxRecDepth 20000 in
theorem t_M_goesAlong_j170 {X : CT} {w : WO} (C : CF X w (lim0 w) 5 cX11_goesAlong RX11 none (.code yX11_goesAlong cX11_goesAlong 5 none) (rmK 94 2269)) (hL : LyM w) {post : DD → Prop} {a2 : Int32} {σ : DD} (h : w_M_goesAlong_j170 post σ a2) : gW X w (lim0 w) 5 (QV X w post) σ 170 [(0, .ref (wAd w 0)), (2, .int a2)] [] := by
  unfold w_M_goesAlong_j170 at h
  refine r_aload_n C 0 rfl (dk_at dk_M_goesAlong_2 10 rfl) ?_
  refine r_iconst C 0 (dk_at dk_M_goesAlong_2 11 rfl) ?_
  refine r_putZ C fl_M_256 0 (hL 0 _ rfl) rfl (Or.inl rfl) (dk_at dk_M_goesAlong_2 12 rfl) (r_sg (fun σ23 e24 => ?_))
  replace h := h σ23 e24
  refine r_aload_n C 0 rfl (dk_at dk_M_goesAlong_2 13 rfl) ?_
  refine r_aload_n C 0 rfl (dk_at dk_M_goesAlong_2 14 rfl) ?_
  refine r_iconst C 4 (dk_at dk_M_goesAlong_2 15 rfl) ?_
  refine r_cvI C cl_M_270 0 (hL 0 _ rfl) [.int 4] (m_M_passes0 hL h) (rmK_ok rfl rfl) rfl rfl (Nat.le_of_ble_eq_true rfl) (dk_at dk_M_goesAlong_2 16 rfl) (fun r25 σ26 h => ?_)
  refine r_if_eq C 192 rfl (dk_at dk_M_goesAlong_2 17 rfl) (fun c27 => ?_) (fun c27 => ?_)
  · replace h := h.1 c27
    refine r_lv [0] rfl ?_
    exact t_M_goesAlong_j192 C hL h
  · replace h := h.2 c27
    refine r_aload_n C 0 rfl (dk_at dk_M_goesAlong_2 18 rfl) ?_
    refine r_iload_n C 1 rfl (dk_at dk_M_goesAlong_2 19 rfl) ?_
    refine r_cvI C cl_M_285 0 (hL 0 _ rfl) [.int a2] (m_M_testOf hL h) (rmK_ok rfl rfl) rfl rfl (Nat.le_of_ble_eq_true rfl) (dk_at dk_M_goesAlong_2 20 rfl) (fun r28 σ29 h => ?_)
    refine r_if_eq C 196 rfl (dk_at dk_M_goesAlong_2 21 rfl) (fun c30 => ?_) (fun c30 => ?_)
    · replace h := h.1 c30
      refine r_iconst C 0 (dk_at dk_M_goesAlong_2 24 rfl) ?_
      refine r_lv [0] rfl ?_
      exact t_M_goesAlong_j197 C hL h
    · replace h := h.2 c30
      refine r_lv [0] rfl ?_
      exact t_M_goesAlong_j192 C hL h
set_option maxRecDepth 20000 in
theorem t_M_goesAlong_b62 {X : CT} {w : WO} (C : CF X w (lim0 w) 5 cX11_goesAlong RX11 none (.code yX11_goesAlong cX11_goesAlong 5 none) (rmK 94 2269)) (hL : LyM w) {a2 : Int32} {a3 : Int32} {K62 : DD → Int32 → Prop} {post : DD → Prop} (k62 : ∀ (σ : DD) (a4 : Int32), K62 σ a4 → gW X w (lim0 w) 5 (QV X w post) σ 62 [(0, .ref (wAd w 0)), (2, .int a2), (3, .int a3), (4, .int a4)] []) {σ : DD} {a4 : Int32} (h : w_M_goesAlong_b62 a2 a3 K62 post σ a4) : gW X w (lim0 w) 5 (QV X w post) σ 62 [(0, .ref (wAd w 0)), (2, .int a2), (3, .int a3), (4, .int a4)] [] := by
  unfold w_M_goesAlong_b62 at h
  refine r_iload C 3 rfl (dk_at dk_M_goesAlong_0 34 rfl) ?_
  refine r_iload_n C 2 rfl (dk_at dk_M_goesAlong_0 35 rfl) ?_
  refine r_icmp_ge C 129 rfl (dk_at dk_M_goesAlong_0 36 rfl) (fun c31 => ?_) (fun c31 => ?_)
  · replace h := h.1 c31
    refine r_aload_n C 0 rfl (dk_at dk_M_goesAlong_1 28 rfl) ?_
    refine r_iconst C 1 (dk_at dk_M_goesAlong_1 29 rfl) ?_
    refine r_putI C fl_M_423 0 (hL 0 _ rfl) rfl (dk_at dk_M_goesAlong_1 30 rfl) (r_sg (fun σ32 e33 => ?_))
    replace h := h σ32 e33
    refine r_aload_n C 0 rfl (dk_at dk_M_goesAlong_1 31 rfl) ?_
    refine r_bipush C 25 (dk_at dk_M_goesAlong_1 32 rfl) ?_
    refine r_cvI C cl_M_270 0 (hL 0 _ rfl) [.int 25] (m_M_passes0 hL h) (rmK_ok rfl rfl) rfl rfl (Nat.le_of_ble_eq_true rfl) (dk_at dk_M_goesAlong_1 33 rfl) (fun r34 σ35 h => ?_)
    refine r_if_eq C 170 rfl (dk_at dk_M_goesAlong_1 34 rfl) (fun c36 => ?_) (fun c36 => ?_)
    · replace h := h.1 c36
      refine r_lv [0, 1] rfl ?_
      exact t_M_goesAlong_j170 C hL h
    · replace h := h.2 c36
      refine r_aload_n C 0 rfl (dk_at dk_M_goesAlong_1 35 rfl) ?_
      refine r_aload_n C 0 rfl (dk_at dk_M_goesAlong_1 36 rfl) ?_
      refine r_getR C fl_M_20 0 (hL 0 _ rfl) rfl (dk_at dk_M_goesAlong_1 37 rfl) ?_
      refine r_sipush C 3212 (dk_at dk_M_goesAlong_1 38 rfl) ?_
      refine r_aload_n C 0 rfl (dk_at dk_M_goesAlong_1 39 rfl) ?_
      refine r_getI C fl_M_246 0 (hL 0 _ rfl) rfl (dk_at dk_M_goesAlong_2 0 rfl) ?_
      refine r_iadd C (dk_at dk_M_goesAlong_2 1 rfl) ?_
      obtain ⟨q37, h⟩ := h
      refine r_iald C 4 (hL 4 _ rfl) q37 (dk_at dk_M_goesAlong_2 2 rfl) ?_
      refine r_putI C fl_M_423 0 (hL 0 _ rfl) rfl (dk_at dk_M_goesAlong_2 3 rfl) (r_sg (fun σ38 e39 => ?_))
      replace h := h σ38 e39
      refine r_aload_n C 0 rfl (dk_at dk_M_goesAlong_2 4 rfl) ?_
      refine r_dup C rfl (dk_at dk_M_goesAlong_2 5 rfl) ?_
      refine r_getI C fl_M_246 0 (hL 0 _ rfl) rfl (dk_at dk_M_goesAlong_2 6 rfl) ?_
      refine r_iconst C 1 (dk_at dk_M_goesAlong_2 7 rfl) ?_
      refine r_iadd C (dk_at dk_M_goesAlong_2 8 rfl) ?_
      refine r_putI C fl_M_246 0 (hL 0 _ rfl) rfl (dk_at dk_M_goesAlong_2 9 rfl) (r_sg (fun σ40 e41 => ?_))
      replace h := h σ40 e41
      refine r_lv [0, 1] rfl ?_
      exact t_M_goesAlong_j170 C hL h
  · replace h := h.2 c31
    refine r_iload C 3 rfl (dk_at dk_M_goesAlong_0 37 rfl) ?_
    refine r_if_le C 83 rfl (dk_at dk_M_goesAlong_0 38 rfl) (fun c42 => ?_) (fun c42 => ?_)
    · replace h := h.1 c42
      refine r_lv [0, 1, 2, 3] rfl ?_
      exact t_M_goesAlong_j83 C hL k62 h
    · replace h := h.2 c42
      refine r_aload_n C 0 rfl (dk_at dk_M_goesAlong_0 39 rfl) ?_
      refine r_dup C rfl (dk_at dk_M_goesAlong_1 0 rfl) ?_
      refine r_getI C fl_M_246 0 (hL 0 _ rfl) rfl (dk_at dk_M_goesAlong_1 1 rfl) ?_
      refine r_iconst C 1 (dk_at dk_M_goesAlong_1 2 rfl) ?_
      refine r_iadd C (dk_at dk_M_goesAlong_1 3 rfl) ?_
      refine r_putI C fl_M_246 0 (hL 0 _ rfl) rfl (dk_at dk_M_goesAlong_1 4 rfl) (r_sg (fun σ43 e44 => ?_))
      replace h := h σ43 e44
      refine r_lv [0, 1, 2, 3] rfl ?_
      exact t_M_goesAlong_j83 C hL k62 h
set_option maxRecDepth 20000 in
theorem t_M_goesAlong_l62 {X : CT} {w : WO} (C : CF X w (lim0 w) 5 cX11_goesAlong RX11 none (.code yX11_goesAlong cX11_goesAlong 5 none) (rmK 94 2269)) (hL : LyM w) {a2 : Int32} {a3 : Int32} {post : DD → Prop} {σ : DD} {a4 : Int32} (h : w_M_goesAlong_l62 post σ a2 a3 a4) : gW X w (lim0 w) 5 (QV X w post) σ 62 [(0, .ref (wAd w 0)), (2, .int a2), (3, .int a3), (4, .int a4)] [] :=
  LoopW (G := fun x : DD × Int32 => gW X w (lim0 w) 5 (QV X w post) x.1 62 [(0, .ref (wAd w 0)), (2, .int a2), (3, .int a3), (4, .int x.2)] []) (fun K x hK hF => t_M_goesAlong_b62 C hL (fun σ a4 q => hK (σ, a4) q) hF) h
set_option maxRecDepth 20000 in
theorem t_M_goesAlong_j58 {X : CT} {w : WO} (C : CF X w (lim0 w) 5 cX11_goesAlong RX11 none (.code yX11_goesAlong cX11_goesAlong 5 none) (rmK 94 2269)) (hL : LyM w) {post : DD → Prop} {a2 : Int32} {t0 : Int32} {σ : DD} (h : w_M_goesAlong_j58 post σ a2 t0) : gW X w (lim0 w) 5 (QV X w post) σ 58 [(0, .ref (wAd w 0)), (2, .int a2)] [.int t0] := by
  unfold w_M_goesAlong_j58 at h
  refine r_istore_n C [(3, .int t0), (0, .ref (wAd w 0)), (2, .int a2)] rfl rfl (dk_at dk_M_goesAlong_0 31 rfl) ?_
  refine r_iconst C 0 (dk_at dk_M_goesAlong_0 32 rfl) ?_
  refine r_istore C [(4, .int 0), (3, .int t0), (0, .ref (wAd w 0)), (2, .int a2)] rfl rfl (dk_at dk_M_goesAlong_0 33 rfl) ?_
  refine r_lv [2, 3, 1, 0] rfl ?_
  exact t_M_goesAlong_l62 C hL h
set_option maxRecDepth 20000 in
theorem m_M_goesAlong {l : Launch} {w : WO} (hL : LyM w) {σ : DD} {a1 : Int32} {a2 : Int32} {post : DD → Prop} (h : w_M_goesAlong σ a1 a2 post) : MV l w yX11_goesAlong cX11_goesAlong 5 (rmK 94 2269) σ [.ref (wAd w 0), .int a1, .int a2] post :=
  met_head (rt := none) (by decide) rfl (fun X hX C => by
  subst hX
  unfold w_M_goesAlong at h
  show gW X w (lim0 w) 5 (QV X w post) σ 0 [(0, .ref (wAd w 0)), (1, .int a1), (2, .int a2)] []
  refine r_aload_n C 0 rfl (dk_at dk_M_goesAlong_0 0 rfl) ?_
  refine r_cvV C cl_M_414 0 (hL 0 _ rfl) [] (m_M_setsOrder hL h) (rmK_ok rfl rfl) rfl rfl (Nat.le_of_ble_eq_true rfl) (dk_at dk_M_goesAlong_0 1 rfl) (fun σ46 h => ?_)
  refine r_aload_n C 0 rfl (dk_at dk_M_goesAlong_0 2 rfl) ?_
  refine r_iload_n C 1 rfl (dk_at dk_M_goesAlong_0 3 rfl) ?_
  refine r_putI C fl_M_243 0 (hL 0 _ rfl) rfl (dk_at dk_M_goesAlong_0 4 rfl) (r_sg (fun σ47 e48 => ?_))
  replace h := h σ47 e48
  refine r_aload_n C 0 rfl (dk_at dk_M_goesAlong_0 5 rfl) ?_
  refine r_aload_n C 0 rfl (dk_at dk_M_goesAlong_0 6 rfl) ?_
  refine r_getI C fl_M_408 0 (hL 0 _ rfl) rfl (dk_at dk_M_goesAlong_0 7 rfl) ?_
  refine r_putI C fl_M_246 0 (hL 0 _ rfl) rfl (dk_at dk_M_goesAlong_0 8 rfl) (r_sg (fun σ49 e50 => ?_))
  replace h := h σ49 e50
  refine r_aload_n C 0 rfl (dk_at dk_M_goesAlong_0 9 rfl) ?_
  refine r_aload_n C 0 rfl (dk_at dk_M_goesAlong_0 10 rfl) ?_
  refine r_aload_n C 0 rfl (dk_at dk_M_goesAlong_0 11 rfl) ?_
  refine r_getI C fl_M_246 0 (hL 0 _ rfl) rfl (dk_at dk_M_goesAlong_0 12 rfl) ?_
  refine r_cvI C cl_M_249 0 (hL 0 _ rfl) [.int (gI σ49 0 22)] (m_M_codeAt hL h) (rmK_ok rfl rfl) rfl rfl (Nat.le_of_ble_eq_true rfl) (dk_at dk_M_goesAlong_0 13 rfl) (fun r51 σ52 h => ?_)
  refine r_putI C fl_M_417 0 (hL 0 _ rfl) rfl (dk_at dk_M_goesAlong_0 14 rfl) (r_sg (fun σ53 e54 => ?_))
  replace h := h σ53 e54
  refine r_aload_n C 0 rfl (dk_at dk_M_goesAlong_0 15 rfl) ?_
  refine r_dup C rfl (dk_at dk_M_goesAlong_0 16 rfl) ?_
  refine r_getI C fl_M_246 0 (hL 0 _ rfl) rfl (dk_at dk_M_goesAlong_0 17 rfl) ?_
  refine r_iconst C 1 (dk_at dk_M_goesAlong_0 18 rfl) ?_
  refine r_iadd C (dk_at dk_M_goesAlong_0 19 rfl) ?_
  refine r_putI C fl_M_246 0 (hL 0 _ rfl) rfl (dk_at dk_M_goesAlong_0 20 rfl) (r_sg (fun σ55 e56 => ?_))
  replace h := h σ55 e56
  refine r_aload_n C 0 rfl (dk_at dk_M_goesAlong_0 21 rfl) ?_
  refine r_iconst C 1 (dk_at dk_M_goesAlong_0 22 rfl) ?_
  refine r_putZ C fl_M_420 0 (hL 0 _ rfl) rfl (Or.inr rfl) (dk_at dk_M_goesAlong_0 23 rfl) (r_sg (fun σ57 e58 => ?_))
  replace h := h σ57 e58
  refine r_aload_n C 0 rfl (dk_at dk_M_goesAlong_0 24 rfl) ?_
  refine r_getI C fl_M_417 0 (hL 0 _ rfl) rfl (dk_at dk_M_goesAlong_0 25 rfl) ?_
  refine r_bipush C 24 (dk_at dk_M_goesAlong_0 26 rfl) ?_
  refine r_icmp_ne C 57 rfl (dk_at dk_M_goesAlong_0 27 rfl) (fun c59 => ?_) (fun c59 => ?_)
  · replace h := h.1 c59
    refine r_iconst C 2 (dk_at dk_M_goesAlong_0 30 rfl) ?_
    refine r_lv [0, 2] rfl ?_
    exact t_M_goesAlong_j58 C hL h
  · replace h := h.2 c59
    refine r_iconst C 0 (dk_at dk_M_goesAlong_0 28 rfl) ?_
    refine r_goto C 58 rfl (dk_at dk_M_goesAlong_0 29 rfl) ?_
    refine r_lv [0, 2] rfl ?_
    exact t_M_goesAlong_j58 C hL h
  )
set_option maxRecDepth 20000 in
theorem m_M_small {l : Launch} {w : WO} (hL : LyM w) {σ : DD} {a0 : Int64} {post : Int32 → DD → Prop} (h : w_M_small σ a0 post) : MI l w yX11_small cX11_small 2 .int (rmK 0 0) σ [.long a0] post :=
  met_head (rt := (some .int)) (by decide) rfl (fun X hX C => by
  subst hX
  unfold w_M_small at h
  show gW X w (lim0 w) 2 (QI X w post) σ 0 [(0, .long a0)] []
  refine r_lload_n C 0 rfl (dk_at dk_M_small_0 0 rfl) ?_
  refine r_lconst C 0 (dk_at dk_M_small_0 1 rfl) ?_
  refine r_lcmp C (dk_at dk_M_small_0 2 rfl) ?_
  refine r_if_lt C 14 rfl (dk_at dk_M_small_0 3 rfl) (fun c1 => ?_) (fun c1 => ?_)
  · replace h := h.1 c1
    refine r_iconst C (-1) (dk_at dk_M_small_0 8 rfl) ?_
    refine r_goto C 20 rfl (dk_at dk_M_small_0 9 rfl) ?_
    exact r_iret C h (dk_at dk_M_small_0 12 rfl)
  · replace h := h.2 c1
    refine r_lload_n C 0 rfl (dk_at dk_M_small_0 4 rfl) ?_
    refine r_ldc2 C tw_1795 (dk_at dk_M_small_0 5 rfl) ?_
    refine r_lcmp C (dk_at dk_M_small_0 6 rfl) ?_
    refine r_if_le C 18 rfl (dk_at dk_M_small_0 7 rfl) (fun c2 => ?_) (fun c2 => ?_)
    · replace h := h.1 c2
      refine r_lload_n C 0 rfl (dk_at dk_M_small_0 10 rfl) ?_
      refine r_l2i C (dk_at dk_M_small_0 11 rfl) ?_
      exact r_iret C h (dk_at dk_M_small_0 12 rfl)
    · replace h := h.2 c2
      refine r_iconst C (-1) (dk_at dk_M_small_0 8 rfl) ?_
      refine r_goto C 20 rfl (dk_at dk_M_small_0 9 rfl) ?_
      exact r_iret C h (dk_at dk_M_small_0 12 rfl)
  )
set_option maxRecDepth 20000 in
theorem m_M_obeys {l : Launch} {w : WO} (hL : LyM w) {σ : DD} {post : Int32 → DD → Prop} (h : w_M_obeys σ post) : MI l w yX11_obeys cX11_obeys 3 .int (rmK 94 2271) σ [.ref (wAd w 0)] post :=
  met_head (rt := (some .int)) (by decide) rfl (fun X hX C => by
  subst hX
  unfold w_M_obeys at h
  show gW X w (lim0 w) 3 (QI X w post) σ 0 [(0, .ref (wAd w 0))] []
  refine r_aload_n C 0 rfl (dk_at dk_M_obeys_0 0 rfl) ?_
  refine r_getI C fl_M_417 0 (hL 0 _ rfl) rfl (dk_at dk_M_obeys_0 1 rfl) ?_
  refine r_bipush C 24 (dk_at dk_M_obeys_0 2 rfl) ?_
  refine r_icmp_ne C 40 rfl (dk_at dk_M_obeys_0 3 rfl) (fun c1 => ?_) (fun c1 => ?_)
  · replace h := h.1 c1
    refine r_aload_n C 0 rfl (dk_at dk_M_obeys_0 22 rfl) ?_
    refine r_getR C fl_M_92 0 (hL 0 _ rfl) rfl (dk_at dk_M_obeys_0 23 rfl) ?_
    refine r_iconst C 0 (dk_at dk_M_obeys_0 24 rfl) ?_
    refine r_laldK C 53 (hL 53 _ rfl) lk_0 (vk_0_2) (dk_at dk_M_obeys_0 25 rfl) ?_
    refine r_csI C cs_M_431 [.long (gL σ 53 0)] (m_M_small hL h) (rmK_ok rfl rfl) rfl rfl (Nat.le_of_ble_eq_true rfl) (dk_at dk_M_obeys_0 26 rfl) (fun r2 σ3 h => ?_)
    refine r_istore_n C [(1, .int r2), (0, .ref (wAd w 0))] rfl rfl (dk_at dk_M_obeys_0 27 rfl) ?_
    refine r_aload_n C 1 rfl (dk_at dk_M_obeys_0 28 rfl) ?_
    refine r_iload_n C 0 rfl (dk_at dk_M_obeys_0 29 rfl) ?_
    refine r_aload_n C 1 rfl (dk_at dk_M_obeys_0 30 rfl) ?_
    refine r_getR C fl_M_92 0 (hL 0 _ rfl) rfl (dk_at dk_M_obeys_0 31 rfl) ?_
    refine r_iconst C 1 (dk_at dk_M_obeys_0 32 rfl) ?_
    refine r_laldK C 53 (hL 53 _ rfl) lk_1 (vk_1_2) (dk_at dk_M_obeys_0 33 rfl) ?_
    refine r_csI C cs_M_431 [.long (gL σ3 53 1)] (m_M_small hL h) (rmK_ok rfl rfl) rfl rfl (Nat.le_of_ble_eq_true rfl) (dk_at dk_M_obeys_0 34 rfl) (fun r4 σ5 h => ?_)
    refine r_cvI C cl_M_332 0 (hL 0 _ rfl) [.int r2, .int r4] (m_M_readsKept hL h) (rmK_ok rfl rfl) rfl rfl (Nat.le_of_ble_eq_true rfl) (dk_at dk_M_obeys_0 35 rfl) (fun r6 σ7 h => ?_)
    refine r_istore_n C [(2, .int r6), (1, .int r2), (0, .ref (wAd w 0))] rfl rfl (dk_at dk_M_obeys_0 36 rfl) ?_
    refine r_iload_n C 0 rfl (dk_at dk_M_obeys_0 37 rfl) ?_
    refine r_if_ne C 74 rfl (dk_at dk_M_obeys_0 38 rfl) (fun c8 => ?_) (fun c8 => ?_)
    · replace h := h.1 c8
      refine r_iload_n C 0 rfl (dk_at dk_M_obeys_1 2 rfl) ?_
      exact r_iret C h (dk_at dk_M_obeys_1 3 rfl)
    · replace h := h.2 c8
      refine r_aload_n C 2 rfl (dk_at dk_M_obeys_0 39 rfl) ?_
      refine r_iload_n C 1 rfl (dk_at dk_M_obeys_1 0 rfl) ?_
      refine r_putI C fl_M_405 0 (hL 0 _ rfl) rfl (dk_at dk_M_obeys_1 1 rfl) (r_sg (fun σ9 e10 => ?_))
      replace h := h σ9 e10
      refine r_iload_n C 0 rfl (dk_at dk_M_obeys_1 2 rfl) ?_
      exact r_iret C h (dk_at dk_M_obeys_1 3 rfl)
  · replace h := h.2 c1
    refine r_aload_n C 0 rfl (dk_at dk_M_obeys_0 4 rfl) ?_
    refine r_getR C fl_M_20 0 (hL 0 _ rfl) rfl (dk_at dk_M_obeys_0 5 rfl) ?_
    refine r_sipush C 395 (dk_at dk_M_obeys_0 6 rfl) ?_
    refine r_ialdK C 4 (hL 4 _ rfl) lk_395 (vk_395_6012) (dk_at dk_M_obeys_0 7 rfl) ?_
    refine r_sipush C 999 (dk_at dk_M_obeys_0 8 rfl) ?_
    refine r_icmp_ne C 26 rfl (dk_at dk_M_obeys_0 9 rfl) (fun c11 => ?_) (fun c11 => ?_)
    · replace h := h.1 c11
      refine r_aload_n C 0 rfl (dk_at dk_M_obeys_0 12 rfl) ?_
      refine r_getR C fl_M_20 0 (hL 0 _ rfl) rfl (dk_at dk_M_obeys_0 13 rfl) ?_
      refine r_sipush C 395 (dk_at dk_M_obeys_0 14 rfl) ?_
      refine r_dup2 C rfl rfl (dk_at dk_M_obeys_0 15 rfl) ?_
      refine r_ialdK C 4 (hL 4 _ rfl) lk_395 (vk_395_6012) (dk_at dk_M_obeys_0 16 rfl) ?_
      refine r_iconst C 1 (dk_at dk_M_obeys_0 17 rfl) ?_
      refine r_iadd C (dk_at dk_M_obeys_0 18 rfl) ?_
      refine r_iastK C 4 (hL 4 _ rfl) lk_395 vk_395_6012 (dk_at dk_M_obeys_0 19 rfl) (r_sg (fun σ12 e13 => ?_))
      replace h := h σ12 e13
      refine r_iconst C 0 (dk_at dk_M_obeys_0 20 rfl) ?_
      exact r_iret C h (dk_at dk_M_obeys_0 21 rfl)
    · replace h := h.2 c11
      refine r_bipush C (-3) (dk_at dk_M_obeys_0 10 rfl) ?_
      exact r_iret C h (dk_at dk_M_obeys_0 11 rfl)
  )
set_option maxRecDepth 20000 in
theorem t_M_runs_b19 {X : CT} {w : WO} (C : CF X w (lim0 w) 6 cX11_runs RX11 (some .int) (.code yX11_runs cX11_runs 6 (some .int)) (rmK 95 2293)) (hL : LyM w) {a1 : Int32} {a2 : Int32} {a3 : Int32} {K19 : DD → Int32 → Prop} {post : Int32 → DD → Prop} (k19 : ∀ (σ : DD) (a4 : Int32), K19 σ a4 → gW X w (lim0 w) 6 (QI X w post) σ 19 [(0, .ref (wAd w 0)), (1, .int a1), (2, .int a2), (3, .int a3), (4, .int a4)] []) {σ : DD} {a4 : Int32} (h : w_M_runs_b19 a1 a2 a3 K19 post σ a4) : gW X w (lim0 w) 6 (QI X w post) σ 19 [(0, .ref (wAd w 0)), (1, .int a1), (2, .int a2), (3, .int a3), (4, .int a4)] [] := by
  unfold w_M_runs_b19 at h
  refine r_iload C 4 rfl (dk_at dk_M_runs_0 12 rfl) ?_
  refine r_iload_n C 2 rfl (dk_at dk_M_runs_0 13 rfl) ?_
  refine r_icmp_ge C 81 rfl (dk_at dk_M_runs_0 14 rfl) (fun c1 => ?_) (fun c1 => ?_)
  · replace h := h.1 c1
    refine r_aload_n C 0 rfl (dk_at dk_M_runs_1 3 rfl) ?_
    refine r_iload_n C 3 rfl (dk_at dk_M_runs_1 4 rfl) ?_
    refine r_putI C fl_M_408 0 (hL 0 _ rfl) rfl (dk_at dk_M_runs_1 5 rfl) (r_sg (fun σ2 e3 => ?_))
    replace h := h σ2 e3
    refine r_iconst C 0 (dk_at dk_M_runs_1 6 rfl) ?_
    exact r_iret C h (dk_at dk_M_runs_1 7 rfl)
  · replace h := h.2 c1
    refine r_aload_n C 0 rfl (dk_at dk_M_runs_0 15 rfl) ?_
    refine r_iload_n C 1 rfl (dk_at dk_M_runs_0 16 rfl) ?_
    refine r_iconst C 1 (dk_at dk_M_runs_0 17 rfl) ?_
    refine r_cvV C cl_M_435 0 (hL 0 _ rfl) [.int a1, .int 1] (m_M_goesAlong hL h) (rmK_ok rfl rfl) rfl rfl (Nat.le_of_ble_eq_true rfl) (dk_at dk_M_runs_0 18 rfl) (fun σ5 h => ?_)
    refine r_aload_n C 0 rfl (dk_at dk_M_runs_0 19 rfl) ?_
    refine r_getI C fl_M_426 0 (hL 0 _ rfl) rfl (dk_at dk_M_runs_0 20 rfl) ?_
    refine r_if_ne C 41 rfl (dk_at dk_M_runs_0 21 rfl) (fun c6 => ?_) (fun c6 => ?_)
    · replace h := h.1 c6
      refine r_aload_n C 0 rfl (dk_at dk_M_runs_0 23 rfl) ?_
      refine r_getI C fl_M_420 0 (hL 0 _ rfl) rfl (dk_at dk_M_runs_0 24 rfl) ?_
      refine r_if_ne C 51 rfl (dk_at dk_M_runs_0 25 rfl) (fun c7 => ?_) (fun c7 => ?_)
      · replace h := h.1 c7
        refine r_aload_n C 0 rfl (dk_at dk_M_runs_0 28 rfl) ?_
        refine r_cvI C cl_M_439 0 (hL 0 _ rfl) [] (m_M_obeys hL h) (rmK_ok rfl rfl) rfl rfl (Nat.le_of_ble_eq_true rfl) (dk_at dk_M_runs_0 29 rfl) (fun r8 σ9 h => ?_)
        refine r_istore C [(5, .int r8), (0, .ref (wAd w 0)), (1, .int a1), (2, .int a2), (3, .int a3), (4, .int a4)] rfl rfl (dk_at dk_M_runs_0 30 rfl) ?_
        refine r_iload C 0 rfl (dk_at dk_M_runs_0 31 rfl) ?_
        refine r_if_ge C 65 rfl (dk_at dk_M_runs_0 32 rfl) (fun c10 => ?_) (fun c10 => ?_)
        · replace h := h.1 c10
          refine r_aload_n C 1 rfl (dk_at dk_M_runs_0 35 rfl) ?_
          refine r_dup C rfl (dk_at dk_M_runs_0 36 rfl) ?_
          refine r_getI C fl_M_402 0 (hL 0 _ rfl) rfl (dk_at dk_M_runs_0 37 rfl) ?_
          refine r_iconst C 1 (dk_at dk_M_runs_0 38 rfl) ?_
          refine r_iadd C (dk_at dk_M_runs_0 39 rfl) ?_
          refine r_putI C fl_M_402 0 (hL 0 _ rfl) rfl (dk_at dk_M_runs_1 0 rfl) (r_sg (fun σ11 e12 => ?_))
          replace h := h σ11 e12
          refine r_iinc C 5 rfl rfl [(4, .int (a4 + 1)), (5, .int r8), (0, .ref (wAd w 0)), (1, .int a1), (2, .int a2), (3, .int a3)] rfl rfl (dk_at dk_M_runs_1 1 rfl) ?_
          refine r_goto C 19 rfl (dk_at dk_M_runs_1 2 rfl) ?_
          refine r_lv [2, 3, 4, 5, 0] rfl ?_
          exact k19 _ _ h
        · replace h := h.2 c10
          refine r_iload C 0 rfl (dk_at dk_M_runs_0 33 rfl) ?_
          exact r_iret C h (dk_at dk_M_runs_0 34 rfl)
      · replace h := h.2 c7
        refine r_bipush C (-3) (dk_at dk_M_runs_0 26 rfl) ?_
        exact r_iret C h (dk_at dk_M_runs_0 27 rfl)
    · replace h := h.2 c6
      refine r_goto C 75 rfl (dk_at dk_M_runs_0 22 rfl) ?_
      refine r_iinc C 4 rfl rfl [(4, .int (a4 + 1)), (0, .ref (wAd w 0)), (1, .int a1), (2, .int a2), (3, .int a3)] rfl rfl (dk_at dk_M_runs_1 1 rfl) ?_
      refine r_goto C 19 rfl (dk_at dk_M_runs_1 2 rfl) ?_
      refine r_lv [1, 2, 3, 4, 0] rfl ?_
      exact k19 _ _ h
set_option maxRecDepth 20000 in
theorem t_M_runs_l19 {X : CT} {w : WO} (C : CF X w (lim0 w) 6 cX11_runs RX11 (some .int) (.code yX11_runs cX11_runs 6 (some .int)) (rmK 95 2293)) (hL : LyM w) {a1 : Int32} {a2 : Int32} {a3 : Int32} {post : Int32 → DD → Prop} {σ : DD} {a4 : Int32} (h : w_M_runs_l19 post σ a1 a2 a3 a4) : gW X w (lim0 w) 6 (QI X w post) σ 19 [(0, .ref (wAd w 0)), (1, .int a1), (2, .int a2), (3, .int a3), (4, .int a4)] [] :=
  LoopW (G := fun x : DD × Int32 => gW X w (lim0 w) 6 (QI X w post) x.1 19 [(0, .ref (wAd w 0)), (1, .int a1), (2, .int a2), (3, .int a3), (4, .int x.2)] []) (fun K x hK hF => t_M_runs_b19 C hL (fun σ a4 q => hK (σ, a4) q) hF) h
set_option maxRecDepth 20000 in
theorem m_M_runs {l : Launch} {w : WO} (hL : LyM w) {σ : DD} {a1 : Int32} {post : Int32 → DD → Prop} (h : w_M_runs σ a1 post) : MI l w yX11_runs cX11_runs 6 .int (rmK 95 2293) σ [.ref (wAd w 0), .int a1] post :=
  met_head (rt := (some .int)) (by decide) rfl (fun X hX C => by
  subst hX
  unfold w_M_runs at h
  show gW X w (lim0 w) 6 (QI X w post) σ 0 [(0, .ref (wAd w 0)), (1, .int a1)] []
  refine r_aload_n C 0 rfl (dk_at dk_M_runs_0 0 rfl) ?_
  refine r_iload_n C 1 rfl (dk_at dk_M_runs_0 1 rfl) ?_
  refine r_iconst C 0 (dk_at dk_M_runs_0 2 rfl) ?_
  refine r_cvV C cl_M_435 0 (hL 0 _ rfl) [.int a1, .int 0] (m_M_goesAlong hL h) (rmK_ok rfl rfl) rfl rfl (Nat.le_of_ble_eq_true rfl) (dk_at dk_M_runs_0 3 rfl) (fun σ14 h => ?_)
  refine r_aload_n C 0 rfl (dk_at dk_M_runs_0 4 rfl) ?_
  refine r_getI C fl_M_423 0 (hL 0 _ rfl) rfl (dk_at dk_M_runs_0 5 rfl) ?_
  refine r_topi (fun v15 e16 => ?_)
  replace h := h v15 e16
  refine r_istore_n C [(2, .int v15), (0, .ref (wAd w 0)), (1, .int a1)] rfl rfl (dk_at dk_M_runs_0 6 rfl) ?_
  refine r_aload_n C 1 rfl (dk_at dk_M_runs_0 7 rfl) ?_
  refine r_getI C fl_M_246 0 (hL 0 _ rfl) rfl (dk_at dk_M_runs_0 8 rfl) ?_
  refine r_topi (fun v17 e18 => ?_)
  replace h := h v17 e18
  refine r_istore_n C [(3, .int v17), (2, .int v15), (0, .ref (wAd w 0)), (1, .int a1)] rfl rfl (dk_at dk_M_runs_0 9 rfl) ?_
  refine r_iconst C 0 (dk_at dk_M_runs_0 10 rfl) ?_
  refine r_istore C [(4, .int 0), (3, .int v17), (2, .int v15), (0, .ref (wAd w 0)), (1, .int a1)] rfl rfl (dk_at dk_M_runs_0 11 rfl) ?_
  refine r_lv [3, 4, 2, 1, 0] rfl ?_
  exact t_M_runs_l19 C hL h
  )
set_option maxRecDepth 20000 in
theorem t_M_orders_b78 {X : CT} {w : WO} (C : CF X w (lim0 w) 6 cX11_orders RX11 (some .int) (.code yX11_orders cX11_orders 6 (some .int)) (rmK 96 2318)) (hL : LyM w) {a1 : Int32} {a2 : Int32} {a3 : Int32} {K78 : DD → Int32 → Prop} {post : Int32 → DD → Prop} (k78 : ∀ (σ : DD) (a4 : Int32), K78 σ a4 → gW X w (lim0 w) 6 (QI X w post) σ 78 [(0, .ref (wAd w 0)), (1, .int a1), (2, .int a2), (3, .int a3), (4, .int a4)] []) {σ : DD} {a4 : Int32} (h : w_M_orders_b78 a1 a2 a3 K78 post σ a4) : gW X w (lim0 w) 6 (QI X w post) σ 78 [(0, .ref (wAd w 0)), (1, .int a1), (2, .int a2), (3, .int a3), (4, .int a4)] [] := by
  unfold w_M_orders_b78 at h
  refine r_aload_n C 0 rfl (dk_at dk_M_orders_1 3 rfl) ?_
  refine r_getI C fl_M_408 0 (hL 0 _ rfl) rfl (dk_at dk_M_orders_1 4 rfl) ?_
  refine r_iload_n C 3 rfl (dk_at dk_M_orders_1 5 rfl) ?_
  refine r_icmp_ge C 150 rfl (dk_at dk_M_orders_1 6 rfl) (fun c1 => ?_) (fun c1 => ?_)
  · replace h := h.1 c1
    refine r_aload_n C 0 rfl (dk_at dk_M_orders_1 38 rfl) ?_
    refine r_aload_n C 0 rfl (dk_at dk_M_orders_1 39 rfl) ?_
    refine r_getI C fl_M_402 0 (hL 0 _ rfl) rfl (dk_at dk_M_orders_2 0 rfl) ?_
    refine r_cvI C cl_M_109 0 (hL 0 _ rfl) [.int (gI σ 0 45)] (m_M_good hL h) (rmK_ok rfl rfl) rfl rfl (Nat.le_of_ble_eq_true rfl) (dk_at dk_M_orders_2 1 rfl) (fun r2 σ3 h => ?_)
    exact r_iret C h (dk_at dk_M_orders_2 2 rfl)
  · replace h := h.2 c1
    refine r_aload_n C 0 rfl (dk_at dk_M_orders_1 7 rfl) ?_
    refine r_iload_n C 3 rfl (dk_at dk_M_orders_1 8 rfl) ?_
    refine r_cvI C cl_M_411 0 (hL 0 _ rfl) [.int a3] (m_M_runs hL h) (rmK_ok rfl rfl) rfl rfl (Nat.le_of_ble_eq_true rfl) (dk_at dk_M_orders_1 9 rfl) (fun r4 σ5 h => ?_)
    refine r_istore C [(5, .int r4), (0, .ref (wAd w 0)), (1, .int a1), (2, .int a2), (3, .int a3), (4, .int a4)] rfl rfl (dk_at dk_M_orders_1 10 rfl) ?_
    refine r_iload C 0 rfl (dk_at dk_M_orders_1 11 rfl) ?_
    refine r_if_ne C 101 rfl (dk_at dk_M_orders_1 12 rfl) (fun c6 => ?_) (fun c6 => ?_)
    · replace h := h.1 c6
      refine r_aload_n C 1 rfl (dk_at dk_M_orders_1 14 rfl) ?_
      refine r_getR C fl_M_20 0 (hL 0 _ rfl) rfl (dk_at dk_M_orders_1 15 rfl) ?_
      refine r_sipush C 401 (dk_at dk_M_orders_1 16 rfl) ?_
      refine r_iload_n C 2 rfl (dk_at dk_M_orders_1 17 rfl) ?_
      refine r_iastK C 4 (hL 4 _ rfl) lk_401 vk_401_6012 (dk_at dk_M_orders_1 18 rfl) (r_sg (fun σ7 e8 => ?_))
      replace h := h σ7 e8
      refine r_aload_n C 1 rfl (dk_at dk_M_orders_1 19 rfl) ?_
      refine r_getR C fl_M_20 0 (hL 0 _ rfl) rfl (dk_at dk_M_orders_1 20 rfl) ?_
      refine r_sipush C 395 (dk_at dk_M_orders_1 21 rfl) ?_
      refine r_iload_n C 3 rfl (dk_at dk_M_orders_1 22 rfl) ?_
      refine r_iastK C 4 (hL 4 _ rfl) lk_395 vk_395_6012 (dk_at dk_M_orders_1 23 rfl) (r_sg (fun σ9 e10 => ?_))
      replace h := h σ9 e10
      refine r_aload_n C 1 rfl (dk_at dk_M_orders_1 24 rfl) ?_
      refine r_iload C 5 rfl (dk_at dk_M_orders_1 25 rfl) ?_
      refine r_putI C fl_M_89 0 (hL 0 _ rfl) rfl (dk_at dk_M_orders_1 26 rfl) (r_sg (fun σ11 e12 => ?_))
      replace h := h σ11 e12
      refine r_aload_n C 1 rfl (dk_at dk_M_orders_1 27 rfl) ?_
      refine r_iload C 0 rfl (dk_at dk_M_orders_1 28 rfl) ?_
      refine r_bipush C (-5) (dk_at dk_M_orders_1 29 rfl) ?_
      refine r_icmp_ne C 138 rfl (dk_at dk_M_orders_1 30 rfl) (fun c13 => ?_) (fun c13 => ?_)
      · replace h := h.1 c13
        refine r_bipush C (-3) (dk_at dk_M_orders_1 33 rfl) ?_
        refine r_cvI C cl_M_105 0 (hL 0 _ rfl) [.int (-3)] (m_M_refuses hL h) (rmK_ok rfl rfl) rfl rfl (Nat.le_of_ble_eq_true rfl) (dk_at dk_M_orders_1 34 rfl) (fun r14 σ15 h => ?_)
        exact r_iret C h (dk_at dk_M_orders_1 35 rfl)
      · replace h := h.2 c13
        refine r_bipush C (-5) (dk_at dk_M_orders_1 31 rfl) ?_
        refine r_goto C 140 rfl (dk_at dk_M_orders_1 32 rfl) ?_
        refine r_cvI C cl_M_105 0 (hL 0 _ rfl) [.int (-5)] (m_M_refuses hL h) (rmK_ok rfl rfl) rfl rfl (Nat.le_of_ble_eq_true rfl) (dk_at dk_M_orders_1 34 rfl) (fun r16 σ17 h => ?_)
        exact r_iret C h (dk_at dk_M_orders_1 35 rfl)
    · replace h := h.2 c6
      refine r_goto C 144 rfl (dk_at dk_M_orders_1 13 rfl) ?_
      refine r_iinc C 5 rfl rfl [(4, .int (a4 + 1)), (5, .int r4), (0, .ref (wAd w 0)), (1, .int a1), (2, .int a2), (3, .int a3)] rfl rfl (dk_at dk_M_orders_1 36 rfl) ?_
      refine r_goto C 78 rfl (dk_at dk_M_orders_1 37 rfl) ?_
      refine r_lv [2, 3, 4, 5, 0] rfl ?_
      exact k78 _ _ h
set_option maxRecDepth 20000 in
theorem t_M_orders_l78 {X : CT} {w : WO} (C : CF X w (lim0 w) 6 cX11_orders RX11 (some .int) (.code yX11_orders cX11_orders 6 (some .int)) (rmK 96 2318)) (hL : LyM w) {a1 : Int32} {a2 : Int32} {a3 : Int32} {post : Int32 → DD → Prop} {σ : DD} {a4 : Int32} (h : w_M_orders_l78 post σ a1 a2 a3 a4) : gW X w (lim0 w) 6 (QI X w post) σ 78 [(0, .ref (wAd w 0)), (1, .int a1), (2, .int a2), (3, .int a3), (4, .int a4)] [] :=
  LoopW (G := fun x : DD × Int32 => gW X w (lim0 w) 6 (QI X w post) x.1 78 [(0, .ref (wAd w 0)), (1, .int a1), (2, .int a2), (3, .int a3), (4, .int x.2)] []) (fun K x hK hF => t_M_orders_b78 C hL (fun σ a4 q => hK (σ, a4) q) hF) h
set_option maxRecDepth 20000 in
theorem m_M_orders {l : Launch} {w : WO} (hL : LyM w) {σ : DD} {post : Int32 → DD → Prop} (h : w_M_orders σ post) : MI l w yX11_orders cX11_orders 6 .int (rmK 96 2318) σ [.ref (wAd w 0)] post :=
  met_head (rt := (some .int)) (by decide) rfl (fun X hX C => by
  subst hX
  unfold w_M_orders at h
  show gW X w (lim0 w) 6 (QI X w post) σ 0 [(0, .ref (wAd w 0))] []
  refine r_aload_n C 0 rfl (dk_at dk_M_orders_0 0 rfl) ?_
  refine r_iconst C (-1) (dk_at dk_M_orders_0 1 rfl) ?_
  refine r_putI C fl_M_89 0 (hL 0 _ rfl) rfl (dk_at dk_M_orders_0 2 rfl) (r_sg (fun σ18 e19 => ?_))
  replace h := h σ18 e19
  refine r_aload_n C 0 rfl (dk_at dk_M_orders_0 3 rfl) ?_
  refine r_iconst C 1 (dk_at dk_M_orders_0 4 rfl) ?_
  refine r_cvI C cl_M_236 0 (hL 0 _ rfl) [.int 1] (m_M_readsAs hL h) (rmK_ok rfl rfl) rfl rfl (Nat.le_of_ble_eq_true rfl) (dk_at dk_M_orders_0 5 rfl) (fun r20 σ21 h => ?_)
  refine r_if_ne C 20 rfl (dk_at dk_M_orders_0 6 rfl) (fun c22 => ?_) (fun c22 => ?_)
  · replace h := h.1 c22
    refine r_aload_n C 0 rfl (dk_at dk_M_orders_0 11 rfl) ?_
    refine r_getR C fl_M_20 0 (hL 0 _ rfl) rfl (dk_at dk_M_orders_0 12 rfl) ?_
    refine r_sipush C 401 (dk_at dk_M_orders_0 13 rfl) ?_
    refine r_ialdK C 4 (hL 4 _ rfl) lk_401 (vk_401_6012) (dk_at dk_M_orders_0 14 rfl) ?_
    refine r_topi (fun v23 e24 => ?_)
    replace h := h v23 e24
    refine r_istore_n C [(1, .int v23), (0, .ref (wAd w 0))] rfl rfl (dk_at dk_M_orders_0 15 rfl) ?_
    refine r_aload_n C 1 rfl (dk_at dk_M_orders_0 16 rfl) ?_
    refine r_getR C fl_M_20 0 (hL 0 _ rfl) rfl (dk_at dk_M_orders_0 17 rfl) ?_
    refine r_sipush C 395 (dk_at dk_M_orders_0 18 rfl) ?_
    refine r_ialdK C 4 (hL 4 _ rfl) lk_395 (vk_395_6012) (dk_at dk_M_orders_0 19 rfl) ?_
    refine r_topi (fun v25 e26 => ?_)
    replace h := h v25 e26
    refine r_istore_n C [(2, .int v25), (1, .int v23), (0, .ref (wAd w 0))] rfl rfl (dk_at dk_M_orders_0 20 rfl) ?_
    refine r_aload_n C 2 rfl (dk_at dk_M_orders_0 21 rfl) ?_
    refine r_bipush C 6 (dk_at dk_M_orders_0 22 rfl) ?_
    refine r_cvV C cl_M_240 0 (hL 0 _ rfl) [.int 6] (m_M_lays hL h) (rmK_ok rfl rfl) rfl rfl (Nat.le_of_ble_eq_true rfl) (dk_at dk_M_orders_0 23 rfl) (fun σ28 h => ?_)
    refine r_aload_n C 2 rfl (dk_at dk_M_orders_0 24 rfl) ?_
    refine r_iconst C 0 (dk_at dk_M_orders_0 25 rfl) ?_
    refine r_putI C fl_M_402 0 (hL 0 _ rfl) rfl (dk_at dk_M_orders_0 26 rfl) (r_sg (fun σ29 e30 => ?_))
    replace h := h σ29 e30
    refine r_aload_n C 2 rfl (dk_at dk_M_orders_0 27 rfl) ?_
    refine r_iconst C (-1) (dk_at dk_M_orders_0 28 rfl) ?_
    refine r_putI C fl_M_405 0 (hL 0 _ rfl) rfl (dk_at dk_M_orders_0 29 rfl) (r_sg (fun σ31 e32 => ?_))
    replace h := h σ31 e32
    refine r_aload_n C 2 rfl (dk_at dk_M_orders_0 30 rfl) ?_
    refine r_sipush C 2400 (dk_at dk_M_orders_0 31 rfl) ?_
    refine r_putI C fl_M_408 0 (hL 0 _ rfl) rfl (dk_at dk_M_orders_0 32 rfl) (r_sg (fun σ33 e34 => ?_))
    replace h := h σ33 e34
    refine r_aload_n C 2 rfl (dk_at dk_M_orders_0 33 rfl) ?_
    refine r_getI C fl_M_408 0 (hL 0 _ rfl) rfl (dk_at dk_M_orders_0 34 rfl) ?_
    refine r_aload_n C 2 rfl (dk_at dk_M_orders_0 35 rfl) ?_
    refine r_getR C fl_M_20 0 (hL 0 _ rfl) rfl (dk_at dk_M_orders_0 36 rfl) ?_
    refine r_sipush C 411 (dk_at dk_M_orders_0 37 rfl) ?_
    refine r_ialdK C 4 (hL 4 _ rfl) lk_411 (vk_411_6012) (dk_at dk_M_orders_0 38 rfl) ?_
    refine r_iadd C (dk_at dk_M_orders_0 39 rfl) ?_
    refine r_topi (fun v35 e36 => ?_)
    replace h := h v35 e36
    refine r_istore_n C [(3, .int v35), (2, .int v25), (1, .int v23), (0, .ref (wAd w 0))] rfl rfl (dk_at dk_M_orders_1 0 rfl) ?_
    refine r_iconst C 0 (dk_at dk_M_orders_1 1 rfl) ?_
    refine r_istore C [(4, .int 0), (3, .int v35), (2, .int v25), (1, .int v23), (0, .ref (wAd w 0))] rfl rfl (dk_at dk_M_orders_1 2 rfl) ?_
    refine r_lv [4, 3, 2, 1, 0] rfl ?_
    exact t_M_orders_l78 C hL h
  · replace h := h.2 c22
    refine r_aload_n C 0 rfl (dk_at dk_M_orders_0 7 rfl) ?_
    refine r_bipush C (-6) (dk_at dk_M_orders_0 8 rfl) ?_
    refine r_cvI C cl_M_105 0 (hL 0 _ rfl) [.int (-6)] (m_M_refuses hL h) (rmK_ok rfl rfl) rfl rfl (Nat.le_of_ble_eq_true rfl) (dk_at dk_M_orders_0 9 rfl) (fun r37 σ38 h => ?_)
    exact r_iret C h (dk_at dk_M_orders_0 10 rfl)
  )
set_option maxRecDepth 20000 in
theorem m_M_draws {l : Launch} {w : WO} (hL : LyM w) {σ : DD} {a1 : Int32} {post : Int32 → DD → Prop} (h : w_M_draws σ a1 post) : MI l w yX11_draws cX11_draws 2 .int (rmK 0 0) σ [.ref (wAd w 0), .int a1] post :=
  met_head (rt := (some .int)) (by decide) rfl (fun X hX C => by
  subst hX
  unfold w_M_draws at h
  show gW X w (lim0 w) 2 (QI X w post) σ 0 [(0, .ref (wAd w 0)), (1, .int a1)] []
  refine r_aload_n C 0 rfl (dk_at dk_M_draws_0 0 rfl) ?_
  refine r_ldc2 C tw_1804 (dk_at dk_M_draws_0 1 rfl) ?_
  refine r_aload_n C 0 rfl (dk_at dk_M_draws_0 2 rfl) ?_
  refine r_getI C fl_M_445 0 (hL 0 _ rfl) rfl (dk_at dk_M_draws_0 3 rfl) ?_
  refine r_i2l C (dk_at dk_M_draws_0 4 rfl) ?_
  refine r_lmul C (dk_at dk_M_draws_0 5 rfl) ?_
  refine r_ldc2 C tw_1805 (dk_at dk_M_draws_0 6 rfl) ?_
  refine r_ladd C (dk_at dk_M_draws_0 7 rfl) ?_
  refine r_ldc2 C tw_1806 (dk_at dk_M_draws_0 8 rfl) ?_
  refine r_lrem C (by decide) (dk_at dk_M_draws_0 9 rfl) ?_
  refine r_l2i C (dk_at dk_M_draws_0 10 rfl) ?_
  refine r_putI C fl_M_445 0 (hL 0 _ rfl) rfl (dk_at dk_M_draws_0 11 rfl) (r_sg (fun σ1 e2 => ?_))
  replace h := h σ1 e2
  refine r_aload_n C 0 rfl (dk_at dk_M_draws_0 12 rfl) ?_
  refine r_getI C fl_M_445 0 (hL 0 _ rfl) rfl (dk_at dk_M_draws_0 13 rfl) ?_
  refine r_iload_n C 1 rfl (dk_at dk_M_draws_0 14 rfl) ?_
  obtain ⟨q3, h⟩ := h
  refine r_irem C q3 (dk_at dk_M_draws_0 15 rfl) ?_
  exact r_iret C h (dk_at dk_M_draws_0 16 rfl)
  )
set_option maxRecDepth 20000 in
theorem t_M_years_j20 {X : CT} {w : WO} (C : CF X w (lim0 w) 12 cX11_years RX11 (some .int) (.code yX11_years cX11_years 12 (some .int)) (rmK 93 2249)) (hL : LyM w) {post : Int32 → DD → Prop} {σ : DD} (h : w_M_years_j20 post σ) : gW X w (lim0 w) 12 (QI X w post) σ 20 [(0, .ref (wAd w 0))] [] := by
  unfold w_M_years_j20 at h
  refine r_aload_n C 0 rfl (dk_at dk_M_years_0 10 rfl) ?_
  refine r_iconst C (-1) (dk_at dk_M_years_0 11 rfl) ?_
  refine r_cvI C cl_M_105 0 (hL 0 _ rfl) [.int (-1)] (m_M_refuses hL h) (rmK_ok rfl rfl) rfl rfl (Nat.le_of_ble_eq_true rfl) (dk_at dk_M_years_0 12 rfl) (fun r1 σ2 h => ?_)
  exact r_iret C h (dk_at dk_M_years_0 13 rfl)
set_option maxRecDepth 20000 in
theorem t_M_years_j48 {X : CT} {w : WO} (C : CF X w (lim0 w) 12 cX11_years RX11 (some .int) (.code yX11_years cX11_years 12 (some .int)) (rmK 93 2249)) (hL : LyM w) {post : Int32 → DD → Prop} {σ : DD} (h : w_M_years_j48 post σ) : gW X w (lim0 w) 12 (QI X w post) σ 48 [(0, .ref (wAd w 0))] [] := by
  unfold w_M_years_j48 at h
  refine r_aload_n C 0 rfl (dk_at dk_M_years_0 24 rfl) ?_
  refine r_bipush C (-3) (dk_at dk_M_years_0 25 rfl) ?_
  refine r_cvI C cl_M_105 0 (hL 0 _ rfl) [.int (-3)] (m_M_refuses hL h) (rmK_ok rfl rfl) rfl rfl (Nat.le_of_ble_eq_true rfl) (dk_at dk_M_years_0 26 rfl) (fun r3 σ4 h => ?_)
  exact r_iret C h (dk_at dk_M_years_0 27 rfl)
set_option maxRecDepth 20000 in
theorem t_M_years_j334 {X : CT} {w : WO} (C : CF X w (lim0 w) 12 cX11_years RX11 (some .int) (.code yX11_years cX11_years 12 (some .int)) (rmK 93 2249)) (hL : LyM w) {K129 : DD → Int32 → Int32 → Prop} {post : Int32 → DD → Prop} {a2 : Int32} {a3 : Int32} {a4 : Int32} {a6 : Int32} {t0 : Int32} (k129 : ∀ (σ : DD) (a5 : Int32) (a6 : Int32), K129 σ a5 a6 → gW X w (lim0 w) 12 (QI X w post) σ 129 [(0, .ref (wAd w 0)), (2, .int a2), (3, .int a3), (4, .int a4), (5, .int a5), (6, .int a6)] []) {σ : DD} (h : w_M_years_j334 K129 post σ a2 a3 a4 a6 t0) : gW X w (lim0 w) 12 (QI X w post) σ 334 [(0, .ref (wAd w 0)), (2, .int a2), (3, .int a3), (4, .int a4), (6, .int a6)] [.int t0] := by
  unfold w_M_years_j334 at h
  refine r_istore C [(5, .int t0), (0, .ref (wAd w 0)), (2, .int a2), (3, .int a3), (4, .int a4), (6, .int a6)] rfl rfl (dk_at dk_M_years_4 13 rfl) ?_
  refine r_iload C 0 rfl (dk_at dk_M_years_4 14 rfl) ?_
  refine r_if_eq C 353 rfl (dk_at dk_M_years_4 15 rfl) (fun c5 => ?_) (fun c5 => ?_)
  · replace h := h.1 c5
    refine r_iinc C 5 rfl rfl [(6, .int (a6 + 1)), (5, .int t0), (0, .ref (wAd w 0)), (2, .int a2), (3, .int a3), (4, .int a4)] rfl rfl (dk_at dk_M_years_4 24 rfl) ?_
    refine r_goto C 129 rfl (dk_at dk_M_years_4 25 rfl) ?_
    refine r_lv [2, 3, 4, 5, 1, 0] rfl ?_
    exact k129 _ _ _ h
  · replace h := h.2 c5
    refine r_aload_n C 1 rfl (dk_at dk_M_years_4 16 rfl) ?_
    refine r_getR C fl_M_20 0 (hL 0 _ rfl) rfl (dk_at dk_M_years_4 17 rfl) ?_
    refine r_sipush C 395 (dk_at dk_M_years_4 18 rfl) ?_
    refine r_dup2 C rfl rfl (dk_at dk_M_years_4 19 rfl) ?_
    refine r_ialdK C 4 (hL 4 _ rfl) lk_395 (vk_395_6012) (dk_at dk_M_years_4 20 rfl) ?_
    refine r_iconst C 1 (dk_at dk_M_years_4 21 rfl) ?_
    refine r_iadd C (dk_at dk_M_years_4 22 rfl) ?_
    refine r_iastK C 4 (hL 4 _ rfl) lk_395 vk_395_6012 (dk_at dk_M_years_4 23 rfl) (r_sg (fun σ6 e7 => ?_))
    replace h := h σ6 e7
    refine r_iinc C 5 rfl rfl [(6, .int (a6 + 1)), (5, .int t0), (0, .ref (wAd w 0)), (2, .int a2), (3, .int a3), (4, .int a4)] rfl rfl (dk_at dk_M_years_4 24 rfl) ?_
    refine r_goto C 129 rfl (dk_at dk_M_years_4 25 rfl) ?_
    refine r_lv [2, 3, 4, 5, 1, 0] rfl ?_
    exact k129 _ _ _ h
set_option maxRecDepth 20000 in
theorem t_M_years_b283 {X : CT} {w : WO} (C : CF X w (lim0 w) 12 cX11_years RX11 (some .int) (.code yX11_years cX11_years 12 (some .int)) (rmK 93 2249)) (hL : LyM w) {K129 : DD → Int32 → Int32 → Prop} {a2 : Int32} {a3 : Int32} {a4 : Int32} {a6 : Int32} {a10 : Int32} {K283 : DD → Int32 → Prop} {post : Int32 → DD → Prop} (k129 : ∀ (σ : DD) (a5 : Int32) (a6 : Int32), K129 σ a5 a6 → gW X w (lim0 w) 12 (QI X w post) σ 129 [(0, .ref (wAd w 0)), (2, .int a2), (3, .int a3), (4, .int a4), (5, .int a5), (6, .int a6)] []) (k283 : ∀ (σ : DD) (a11 : Int32), K283 σ a11 → gW X w (lim0 w) 12 (QI X w post) σ 283 [(0, .ref (wAd w 0)), (2, .int a2), (3, .int a3), (4, .int a4), (6, .int a6), (10, .int a10), (11, .int a11)] []) {σ : DD} {a11 : Int32} (h : w_M_years_b283 K129 a2 a3 a4 a6 a10 K283 post σ a11) : gW X w (lim0 w) 12 (QI X w post) σ 283 [(0, .ref (wAd w 0)), (2, .int a2), (3, .int a3), (4, .int a4), (6, .int a6), (10, .int a10), (11, .int a11)] [] := by
  unfold w_M_years_b283 at h
  refine r_iload C 6 rfl (dk_at dk_M_years_3 26 rfl) ?_
  refine r_aload_n C 0 rfl (dk_at dk_M_years_3 27 rfl) ?_
  refine r_getI C fl_M_452 0 (hL 0 _ rfl) rfl (dk_at dk_M_years_3 28 rfl) ?_
  refine r_icmp_ge C 315 rfl (dk_at dk_M_years_3 29 rfl) (fun c8 => ?_) (fun c8 => ?_)
  · replace h := h.1 c8
    refine r_aload_n C 0 rfl (dk_at dk_M_years_4 4 rfl) ?_
    refine r_getR C fl_M_20 0 (hL 0 _ rfl) rfl (dk_at dk_M_years_4 5 rfl) ?_
    refine r_sipush C 395 (dk_at dk_M_years_4 6 rfl) ?_
    refine r_ialdK C 4 (hL 4 _ rfl) lk_395 (vk_395_6012) (dk_at dk_M_years_4 7 rfl) ?_
    refine r_sipush C 999 (dk_at dk_M_years_4 8 rfl) ?_
    refine r_icmp_ge C 333 rfl (dk_at dk_M_years_4 9 rfl) (fun c9 => ?_) (fun c9 => ?_)
    · replace h := h.1 c9
      refine r_iconst C 0 (dk_at dk_M_years_4 12 rfl) ?_
      refine r_lv [0, 1, 2, 3, 4] rfl ?_
      exact t_M_years_j334 C hL k129 h
    · replace h := h.2 c9
      refine r_iconst C 1 (dk_at dk_M_years_4 10 rfl) ?_
      refine r_goto C 334 rfl (dk_at dk_M_years_4 11 rfl) ?_
      refine r_lv [0, 1, 2, 3, 4] rfl ?_
      exact t_M_years_j334 C hL k129 h
  · replace h := h.2 c8
    refine r_aload_n C 0 rfl (dk_at dk_M_years_3 30 rfl) ?_
    refine r_getR C fl_M_98 0 (hL 0 _ rfl) rfl (dk_at dk_M_years_3 31 rfl) ?_
    refine r_iload C 6 rfl (dk_at dk_M_years_3 32 rfl) ?_
    refine r_dup2 C rfl rfl (dk_at dk_M_years_3 33 rfl) ?_
    obtain ⟨q10, h⟩ := h
    refine r_iald C 55 (hL 55 _ rfl) q10 (dk_at dk_M_years_3 34 rfl) ?_
    refine r_iload C 5 rfl (dk_at dk_M_years_3 35 rfl) ?_
    refine r_iload C 6 rfl (dk_at dk_M_years_3 36 rfl) ?_
    refine r_ishr C (dk_at dk_M_years_3 37 rfl) ?_
    refine r_iconst C 1 (dk_at dk_M_years_3 38 rfl) ?_
    refine r_iand C (dk_at dk_M_years_3 39 rfl) ?_
    refine r_iadd C (dk_at dk_M_years_4 0 rfl) ?_
    obtain ⟨q13, h⟩ := h
    refine r_iast C 55 (hL 55 _ rfl) q13 (dk_at dk_M_years_4 1 rfl) (r_sg (fun σ11 e12 => ?_))
    replace h := h σ11 e12
    refine r_iinc C 6 rfl rfl [(11, .int (a11 + 1)), (0, .ref (wAd w 0)), (2, .int a2), (3, .int a3), (4, .int a4), (6, .int a6), (10, .int a10)] rfl rfl (dk_at dk_M_years_4 2 rfl) ?_
    refine r_goto C 283 rfl (dk_at dk_M_years_4 3 rfl) ?_
    refine r_lv [1, 2, 3, 4, 5, 6, 0] rfl ?_
    exact k283 _ _ h
set_option maxRecDepth 20000 in
theorem t_M_years_l283 {X : CT} {w : WO} (C : CF X w (lim0 w) 12 cX11_years RX11 (some .int) (.code yX11_years cX11_years 12 (some .int)) (rmK 93 2249)) (hL : LyM w) {K129 : DD → Int32 → Int32 → Prop} {a2 : Int32} {a3 : Int32} {a4 : Int32} {a6 : Int32} {a10 : Int32} {post : Int32 → DD → Prop} (k129 : ∀ (σ : DD) (a5 : Int32) (a6 : Int32), K129 σ a5 a6 → gW X w (lim0 w) 12 (QI X w post) σ 129 [(0, .ref (wAd w 0)), (2, .int a2), (3, .int a3), (4, .int a4), (5, .int a5), (6, .int a6)] []) {σ : DD} {a11 : Int32} (h : w_M_years_l283 K129 post σ a2 a3 a4 a6 a10 a11) : gW X w (lim0 w) 12 (QI X w post) σ 283 [(0, .ref (wAd w 0)), (2, .int a2), (3, .int a3), (4, .int a4), (6, .int a6), (10, .int a10), (11, .int a11)] [] :=
  LoopW (G := fun x : DD × Int32 => gW X w (lim0 w) 12 (QI X w post) x.1 283 [(0, .ref (wAd w 0)), (2, .int a2), (3, .int a3), (4, .int a4), (6, .int a6), (10, .int a10), (11, .int x.2)] []) (fun K x hK hF => t_M_years_b283 C hL k129 (fun σ a11 q => hK (σ, a11) q) hF) h
set_option maxRecDepth 20000 in
theorem t_M_years_j266 {X : CT} {w : WO} (C : CF X w (lim0 w) 12 cX11_years RX11 (some .int) (.code yX11_years cX11_years 12 (some .int)) (rmK 93 2249)) (hL : LyM w) {K129 : DD → Int32 → Int32 → Prop} {post : Int32 → DD → Prop} {a2 : Int32} {a3 : Int32} {a4 : Int32} {a6 : Int32} (k129 : ∀ (σ : DD) (a5 : Int32) (a6 : Int32), K129 σ a5 a6 → gW X w (lim0 w) 12 (QI X w post) σ 129 [(0, .ref (wAd w 0)), (2, .int a2), (3, .int a3), (4, .int a4), (5, .int a5), (6, .int a6)] []) {σ : DD} (h : w_M_years_j266 K129 post σ a2 a3 a4 a6) : gW X w (lim0 w) 12 (QI X w post) σ 266 [(0, .ref (wAd w 0)), (2, .int a2), (3, .int a3), (4, .int a4), (6, .int a6)] [] := by
  unfold w_M_years_j266 at h
  refine r_aload_n C 0 rfl (dk_at dk_M_years_3 17 rfl) ?_
  refine r_aload_n C 0 rfl (dk_at dk_M_years_3 18 rfl) ?_
  refine r_getR C fl_M_20 0 (hL 0 _ rfl) rfl (dk_at dk_M_years_3 19 rfl) ?_
  refine r_sipush C 395 (dk_at dk_M_years_3 20 rfl) ?_
  refine r_ialdK C 4 (hL 4 _ rfl) lk_395 (vk_395_6012) (dk_at dk_M_years_3 21 rfl) ?_
  refine r_cvI C cl_M_335 0 (hL 0 _ rfl) [.int (gI σ 4 395)] (m_M_heldOn hL h) (rmK_ok rfl rfl) rfl rfl (Nat.le_of_ble_eq_true rfl) (dk_at dk_M_years_3 22 rfl) (fun r14 σ15 h => ?_)
  refine r_istore C [(10, .int r14), (0, .ref (wAd w 0)), (2, .int a2), (3, .int a3), (4, .int a4), (6, .int a6)] rfl rfl (dk_at dk_M_years_3 23 rfl) ?_
  refine r_iconst C 0 (dk_at dk_M_years_3 24 rfl) ?_
  refine r_istore C [(11, .int 0), (10, .int r14), (0, .ref (wAd w 0)), (2, .int a2), (3, .int a3), (4, .int a4), (6, .int a6)] rfl rfl (dk_at dk_M_years_3 25 rfl) ?_
  refine r_lv [2, 3, 4, 5, 6, 1, 0] rfl ?_
  exact t_M_years_l283 C hL k129 h
set_option maxRecDepth 20000 in
theorem t_M_years_j239 {X : CT} {w : WO} (C : CF X w (lim0 w) 12 cX11_years RX11 (some .int) (.code yX11_years cX11_years 12 (some .int)) (rmK 93 2249)) (hL : LyM w) {K129 : DD → Int32 → Int32 → Prop} {post : Int32 → DD → Prop} {a2 : Int32} {a3 : Int32} {a4 : Int32} {a6 : Int32} {a8 : Int32} {a9 : Int32} (k129 : ∀ (σ : DD) (a5 : Int32) (a6 : Int32), K129 σ a5 a6 → gW X w (lim0 w) 12 (QI X w post) σ 129 [(0, .ref (wAd w 0)), (2, .int a2), (3, .int a3), (4, .int a4), (5, .int a5), (6, .int a6)] []) {σ : DD} (h : w_M_years_j239 K129 post σ a2 a3 a4 a6 a8 a9) : gW X w (lim0 w) 12 (QI X w post) σ 239 [(0, .ref (wAd w 0)), (2, .int a2), (3, .int a3), (4, .int a4), (6, .int a6), (8, .int a8), (9, .int a9)] [] := by
  unfold w_M_years_j239 at h
  refine r_aload_n C 0 rfl (dk_at dk_M_years_3 1 rfl) ?_
  refine r_iload C 5 rfl (dk_at dk_M_years_3 2 rfl) ?_
  refine r_iload C 6 rfl (dk_at dk_M_years_3 3 rfl) ?_
  refine r_aload_n C 0 rfl (dk_at dk_M_years_3 4 rfl) ?_
  refine r_getR C fl_M_20 0 (hL 0 _ rfl) rfl (dk_at dk_M_years_3 5 rfl) ?_
  refine r_sipush C 395 (dk_at dk_M_years_3 6 rfl) ?_
  refine r_ialdK C 4 (hL 4 _ rfl) lk_395 (vk_395_6012) (dk_at dk_M_years_3 7 rfl) ?_
  refine r_cvV C cl_M_328 0 (hL 0 _ rfl) [.int a8, .int a9, .int (gI σ 4 395)] (m_M_logs hL h) (rmK_ok rfl rfl) rfl rfl (Nat.le_of_ble_eq_true rfl) (dk_at dk_M_years_3 8 rfl) (fun σ17 h => ?_)
  refine r_aload_n C 0 rfl (dk_at dk_M_years_3 9 rfl) ?_
  refine r_getR C fl_M_95 0 (hL 0 _ rfl) rfl (dk_at dk_M_years_3 10 rfl) ?_
  refine r_iload C 5 rfl (dk_at dk_M_years_3 11 rfl) ?_
  refine r_dup2 C rfl rfl (dk_at dk_M_years_3 12 rfl) ?_
  obtain ⟨q18, h⟩ := h
  refine r_iald C 54 (hL 54 _ rfl) q18 (dk_at dk_M_years_3 13 rfl) ?_
  refine r_iconst C 1 (dk_at dk_M_years_3 14 rfl) ?_
  refine r_iadd C (dk_at dk_M_years_3 15 rfl) ?_
  obtain ⟨q21, h⟩ := h
  refine r_iast C 54 (hL 54 _ rfl) q21 (dk_at dk_M_years_3 16 rfl) (r_sg (fun σ19 e20 => ?_))
  replace h := h σ19 e20
  refine r_lv [0, 1, 2, 3, 4] rfl ?_
  exact t_M_years_j266 C hL k129 h
set_option maxRecDepth 20000 in
theorem t_M_years_j162 {X : CT} {w : WO} (C : CF X w (lim0 w) 12 cX11_years RX11 (some .int) (.code yX11_years cX11_years 12 (some .int)) (rmK 93 2249)) (hL : LyM w) {K129 : DD → Int32 → Int32 → Prop} {post : Int32 → DD → Prop} {a2 : Int32} {a3 : Int32} {a4 : Int32} {a6 : Int32} {t0 : Int32} (k129 : ∀ (σ : DD) (a5 : Int32) (a6 : Int32), K129 σ a5 a6 → gW X w (lim0 w) 12 (QI X w post) σ 129 [(0, .ref (wAd w 0)), (2, .int a2), (3, .int a3), (4, .int a4), (5, .int a5), (6, .int a6)] []) {σ : DD} (h : w_M_years_j162 K129 post σ a2 a3 a4 a6 t0) : gW X w (lim0 w) 12 (QI X w post) σ 162 [(0, .ref (wAd w 0)), (2, .int a2), (3, .int a3), (4, .int a4), (6, .int a6)] [.int t0] := by
  unfold w_M_years_j162 at h
  refine r_istore C [(7, .int t0), (0, .ref (wAd w 0)), (2, .int a2), (3, .int a3), (4, .int a4), (6, .int a6)] rfl rfl (dk_at dk_M_years_2 4 rfl) ?_
  refine r_aload_n C 1 rfl (dk_at dk_M_years_2 5 rfl) ?_
  refine r_aload_n C 1 rfl (dk_at dk_M_years_2 6 rfl) ?_
  refine r_getI C fl_M_452 0 (hL 0 _ rfl) rfl (dk_at dk_M_years_2 7 rfl) ?_
  refine r_cvI C cl_M_455 0 (hL 0 _ rfl) [.int (gI σ 0 55)] (m_M_draws hL h) (rmK_ok rfl rfl) rfl rfl (Nat.le_of_ble_eq_true rfl) (dk_at dk_M_years_2 8 rfl) (fun r22 σ23 h => ?_)
  refine r_istore C [(8, .int r22), (7, .int t0), (0, .ref (wAd w 0)), (2, .int a2), (3, .int a3), (4, .int a4), (6, .int a6)] rfl rfl (dk_at dk_M_years_2 9 rfl) ?_
  refine r_aload_n C 2 rfl (dk_at dk_M_years_2 10 rfl) ?_
  refine r_aload_n C 2 rfl (dk_at dk_M_years_2 11 rfl) ?_
  refine r_getR C fl_M_20 0 (hL 0 _ rfl) rfl (dk_at dk_M_years_2 12 rfl) ?_
  refine r_sipush C 400 (dk_at dk_M_years_2 13 rfl) ?_
  refine r_ialdK C 4 (hL 4 _ rfl) lk_400 (vk_400_6012) (dk_at dk_M_years_2 14 rfl) ?_
  refine r_cvI C cl_M_455 0 (hL 0 _ rfl) [.int (gI σ23 4 400)] (m_M_draws hL h) (rmK_ok rfl rfl) rfl rfl (Nat.le_of_ble_eq_true rfl) (dk_at dk_M_years_2 15 rfl) (fun r24 σ25 h => ?_)
  refine r_istore C [(9, .int r24), (8, .int r22), (7, .int t0), (0, .ref (wAd w 0)), (2, .int a2), (3, .int a3), (4, .int a4), (6, .int a6)] rfl rfl (dk_at dk_M_years_2 16 rfl) ?_
  refine r_aload_n C 3 rfl (dk_at dk_M_years_2 17 rfl) ?_
  refine r_iload C 1 rfl (dk_at dk_M_years_2 18 rfl) ?_
  refine r_iload C 0 rfl (dk_at dk_M_years_2 19 rfl) ?_
  refine r_aload_n C 3 rfl (dk_at dk_M_years_2 20 rfl) ?_
  refine r_getR C fl_M_20 0 (hL 0 _ rfl) rfl (dk_at dk_M_years_2 21 rfl) ?_
  refine r_sipush C 395 (dk_at dk_M_years_2 22 rfl) ?_
  refine r_ialdK C 4 (hL 4 _ rfl) lk_395 (vk_395_6012) (dk_at dk_M_years_2 23 rfl) ?_
  refine r_cvI C cl_M_325 0 (hL 0 _ rfl) [.int r22, .int r24, .int (gI σ25 4 395)] (m_M_canRead hL h) (rmK_ok rfl rfl) rfl rfl (Nat.le_of_ble_eq_true rfl) (dk_at dk_M_years_2 24 rfl) (fun r26 σ27 h => ?_)
  refine r_if_eq C 266 rfl (dk_at dk_M_years_2 25 rfl) (fun c28 => ?_) (fun c28 => ?_)
  · replace h := h.1 c28
    refine r_lv [3, 4, 5, 6, 7] rfl ?_
    exact t_M_years_j266 C hL k129 h
  · replace h := h.2 c28
    refine r_iload C 2 rfl (dk_at dk_M_years_2 26 rfl) ?_
    refine r_if_eq C 239 rfl (dk_at dk_M_years_2 27 rfl) (fun c29 => ?_) (fun c29 => ?_)
    · replace h := h.1 c29
      refine r_lv [3, 4, 5, 6, 7, 1, 0] rfl ?_
      exact t_M_years_j239 C hL k129 h
    · replace h := h.2 c29
      refine r_aload_n C 3 rfl (dk_at dk_M_years_2 28 rfl) ?_
      refine r_iload C 1 rfl (dk_at dk_M_years_2 29 rfl) ?_
      refine r_iload C 0 rfl (dk_at dk_M_years_2 30 rfl) ?_
      refine r_aload_n C 3 rfl (dk_at dk_M_years_2 31 rfl) ?_
      refine r_getR C fl_M_20 0 (hL 0 _ rfl) rfl (dk_at dk_M_years_2 32 rfl) ?_
      refine r_sipush C 395 (dk_at dk_M_years_2 33 rfl) ?_
      refine r_ialdK C 4 (hL 4 _ rfl) lk_395 (vk_395_6012) (dk_at dk_M_years_2 34 rfl) ?_
      refine r_cvI C cl_M_310 0 (hL 0 _ rfl) [.int r22, .int r24, .int (gI σ27 4 395)] (m_M_takesOf hL h) (rmK_ok rfl rfl) rfl rfl (Nat.le_of_ble_eq_true rfl) (dk_at dk_M_years_2 35 rfl) (fun r30 σ31 h => ?_)
      refine r_aload_n C 3 rfl (dk_at dk_M_years_2 36 rfl) ?_
      refine r_getR C fl_M_20 0 (hL 0 _ rfl) rfl (dk_at dk_M_years_2 37 rfl) ?_
      refine r_sipush C 397 (dk_at dk_M_years_2 38 rfl) ?_
      refine r_ialdK C 4 (hL 4 _ rfl) lk_397 (vk_397_6012) (dk_at dk_M_years_2 39 rfl) ?_
      refine r_icmp_gt C 266 rfl (dk_at dk_M_years_3 0 rfl) (fun c32 => ?_) (fun c32 => ?_)
      · replace h := h.1 c32
        refine r_lv [3, 4, 5, 6, 7] rfl ?_
        exact t_M_years_j266 C hL k129 h
      · replace h := h.2 c32
        refine r_lv [3, 4, 5, 6, 7, 1, 0] rfl ?_
        exact t_M_years_j239 C hL k129 h
set_option maxRecDepth 20000 in
theorem t_M_years_j359 {X : CT} {w : WO} (C : CF X w (lim0 w) 12 cX11_years RX11 (some .int) (.code yX11_years cX11_years 12 (some .int)) (rmK 93 2249)) (hL : LyM w) {post : Int32 → DD → Prop} {a3 : Int32} {a4 : Int32} {σ : DD} (h : w_M_years_j359 post σ a3 a4) : gW X w (lim0 w) 12 (QI X w post) σ 359 [(0, .ref (wAd w 0)), (3, .int a3), (4, .int a4)] [] := by
  unfold w_M_years_j359 at h
  refine r_aload_n C 0 rfl (dk_at dk_M_years_4 26 rfl) ?_
  refine r_getR C fl_M_20 0 (hL 0 _ rfl) rfl (dk_at dk_M_years_4 27 rfl) ?_
  refine r_sipush C 401 (dk_at dk_M_years_4 28 rfl) ?_
  refine r_ialdK C 4 (hL 4 _ rfl) lk_401 (vk_401_6012) (dk_at dk_M_years_4 29 rfl) ?_
  refine r_iload_n C 1 rfl (dk_at dk_M_years_4 30 rfl) ?_
  refine r_isub C (dk_at dk_M_years_4 31 rfl) ?_
  refine r_topi (fun v33 e34 => ?_)
  replace h := h v33 e34
  refine r_istore C [(6, .int v33), (0, .ref (wAd w 0)), (3, .int a3), (4, .int a4)] rfl rfl (dk_at dk_M_years_4 32 rfl) ?_
  refine r_aload_n C 1 rfl (dk_at dk_M_years_4 33 rfl) ?_
  refine r_getR C fl_M_20 0 (hL 0 _ rfl) rfl (dk_at dk_M_years_4 34 rfl) ?_
  refine r_sipush C 401 (dk_at dk_M_years_4 35 rfl) ?_
  refine r_iload_n C 2 rfl (dk_at dk_M_years_4 36 rfl) ?_
  refine r_iastK C 4 (hL 4 _ rfl) lk_401 vk_401_6012 (dk_at dk_M_years_4 37 rfl) (r_sg (fun σ35 e36 => ?_))
  replace h := h σ35 e36
  refine r_aload_n C 1 rfl (dk_at dk_M_years_4 38 rfl) ?_
  refine r_getR C fl_M_20 0 (hL 0 _ rfl) rfl (dk_at dk_M_years_4 39 rfl) ?_
  refine r_sipush C 395 (dk_at dk_M_years_5 0 rfl) ?_
  refine r_iload C 3 rfl (dk_at dk_M_years_5 1 rfl) ?_
  refine r_iastK C 4 (hL 4 _ rfl) lk_395 vk_395_6012 (dk_at dk_M_years_5 2 rfl) (r_sg (fun σ37 e38 => ?_))
  replace h := h σ37 e38
  refine r_aload_n C 1 rfl (dk_at dk_M_years_5 3 rfl) ?_
  refine r_iload C 0 rfl (dk_at dk_M_years_5 4 rfl) ?_
  refine r_cvI C cl_M_109 0 (hL 0 _ rfl) [.int v33] (m_M_good hL h) (rmK_ok rfl rfl) rfl rfl (Nat.le_of_ble_eq_true rfl) (dk_at dk_M_years_5 5 rfl) (fun r39 σ40 h => ?_)
  exact r_iret C h (dk_at dk_M_years_5 6 rfl)
set_option maxRecDepth 20000 in
theorem t_M_years_b129 {X : CT} {w : WO} (C : CF X w (lim0 w) 12 cX11_years RX11 (some .int) (.code yX11_years cX11_years 12 (some .int)) (rmK 93 2249)) (hL : LyM w) {a2 : Int32} {a3 : Int32} {a4 : Int32} {K129 : DD → Int32 → Int32 → Prop} {post : Int32 → DD → Prop} (k129 : ∀ (σ : DD) (a5 : Int32) (a6 : Int32), K129 σ a5 a6 → gW X w (lim0 w) 12 (QI X w post) σ 129 [(0, .ref (wAd w 0)), (2, .int a2), (3, .int a3), (4, .int a4), (5, .int a5), (6, .int a6)] []) {σ : DD} {a5 : Int32} {a6 : Int32} (h : w_M_years_b129 a2 a3 a4 K129 post σ a5 a6) : gW X w (lim0 w) 12 (QI X w post) σ 129 [(0, .ref (wAd w 0)), (2, .int a2), (3, .int a3), (4, .int a4), (5, .int a5), (6, .int a6)] [] := by
  unfold w_M_years_b129 at h
  refine r_iload C 5 rfl (dk_at dk_M_years_1 28 rfl) ?_
  refine r_iload_n C 1 rfl (dk_at dk_M_years_1 29 rfl) ?_
  refine r_icmp_ge C 359 rfl (dk_at dk_M_years_1 30 rfl) (fun c41 => ?_) (fun c41 => ?_)
  · replace h := h.1 c41
    refine r_lv [0, 2, 3] rfl ?_
    exact t_M_years_j359 C hL h
  · replace h := h.2 c41
    refine r_iload C 4 rfl (dk_at dk_M_years_1 31 rfl) ?_
    refine r_if_eq C 359 rfl (dk_at dk_M_years_1 32 rfl) (fun c42 => ?_) (fun c42 => ?_)
    · replace h := h.1 c42
      refine r_lv [0, 2, 3] rfl ?_
      exact t_M_years_j359 C hL h
    · replace h := h.2 c42
      refine r_aload_n C 0 rfl (dk_at dk_M_years_1 33 rfl) ?_
      refine r_bipush C 10 (dk_at dk_M_years_1 34 rfl) ?_
      refine r_cvI C cl_M_455 0 (hL 0 _ rfl) [.int 10] (m_M_draws hL h) (rmK_ok rfl rfl) rfl rfl (Nat.le_of_ble_eq_true rfl) (dk_at dk_M_years_1 35 rfl) (fun r43 σ44 h => ?_)
      refine r_aload_n C 0 rfl (dk_at dk_M_years_1 36 rfl) ?_
      refine r_getR C fl_M_20 0 (hL 0 _ rfl) rfl (dk_at dk_M_years_1 37 rfl) ?_
      refine r_sipush C 396 (dk_at dk_M_years_1 38 rfl) ?_
      refine r_ialdK C 4 (hL 4 _ rfl) lk_396 (vk_396_6012) (dk_at dk_M_years_1 39 rfl) ?_
      refine r_icmp_ge C 161 rfl (dk_at dk_M_years_2 0 rfl) (fun c45 => ?_) (fun c45 => ?_)
      · replace h := h.1 c45
        refine r_iconst C 0 (dk_at dk_M_years_2 3 rfl) ?_
        refine r_lv [0, 1, 2, 3, 5] rfl ?_
        exact t_M_years_j162 C hL k129 h
      · replace h := h.2 c45
        refine r_iconst C 1 (dk_at dk_M_years_2 1 rfl) ?_
        refine r_goto C 162 rfl (dk_at dk_M_years_2 2 rfl) ?_
        refine r_lv [0, 1, 2, 3, 5] rfl ?_
        exact t_M_years_j162 C hL k129 h
set_option maxRecDepth 20000 in
theorem t_M_years_l129 {X : CT} {w : WO} (C : CF X w (lim0 w) 12 cX11_years RX11 (some .int) (.code yX11_years cX11_years 12 (some .int)) (rmK 93 2249)) (hL : LyM w) {a2 : Int32} {a3 : Int32} {a4 : Int32} {post : Int32 → DD → Prop} {σ : DD} {a5 : Int32} {a6 : Int32} (h : w_M_years_l129 post σ a2 a3 a4 a5 a6) : gW X w (lim0 w) 12 (QI X w post) σ 129 [(0, .ref (wAd w 0)), (2, .int a2), (3, .int a3), (4, .int a4), (5, .int a5), (6, .int a6)] [] :=
  LoopW (G := fun x : DD × Int32 × Int32 => gW X w (lim0 w) 12 (QI X w post) x.1 129 [(0, .ref (wAd w 0)), (2, .int a2), (3, .int a3), (4, .int a4), (5, .int x.2.1), (6, .int x.2.2)] []) (fun K x hK hF => t_M_years_b129 C hL (fun σ a5 a6 q => hK (σ, a5, a6) q) hF) h
set_option maxRecDepth 20000 in
theorem t_M_years_b97 {X : CT} {w : WO} (C : CF X w (lim0 w) 12 cX11_years RX11 (some .int) (.code yX11_years cX11_years 12 (some .int)) (rmK 93 2249)) (hL : LyM w) {a2 : Int32} {a3 : Int32} {a4 : Int32} {a5 : Int32} {K97 : DD → Int32 → Prop} {post : Int32 → DD → Prop} (k97 : ∀ (σ : DD) (a6 : Int32), K97 σ a6 → gW X w (lim0 w) 12 (QI X w post) σ 97 [(0, .ref (wAd w 0)), (2, .int a2), (3, .int a3), (4, .int a4), (5, .int a5), (6, .int a6)] []) {σ : DD} {a6 : Int32} (h : w_M_years_b97 a2 a3 a4 a5 K97 post σ a6) : gW X w (lim0 w) 12 (QI X w post) σ 97 [(0, .ref (wAd w 0)), (2, .int a2), (3, .int a3), (4, .int a4), (5, .int a5), (6, .int a6)] [] := by
  unfold w_M_years_b97 at h
  refine r_iload C 5 rfl (dk_at dk_M_years_1 11 rfl) ?_
  refine r_bipush C 8 (dk_at dk_M_years_1 12 rfl) ?_
  refine r_icmp_ge C 126 rfl (dk_at dk_M_years_1 13 rfl) (fun c46 => ?_) (fun c46 => ?_)
  · replace h := h.1 c46
    refine r_iconst C 0 (dk_at dk_M_years_1 26 rfl) ?_
    refine r_istore C [(6, .int 0), (0, .ref (wAd w 0)), (2, .int a2), (3, .int a3), (4, .int a4), (5, .int a5)] rfl rfl (dk_at dk_M_years_1 27 rfl) ?_
    refine r_lv [1, 2, 3, 4, 5, 0] rfl ?_
    exact t_M_years_l129 C hL h
  · replace h := h.2 c46
    refine r_aload_n C 0 rfl (dk_at dk_M_years_1 14 rfl) ?_
    refine r_getR C fl_M_95 0 (hL 0 _ rfl) rfl (dk_at dk_M_years_1 15 rfl) ?_
    refine r_iload C 5 rfl (dk_at dk_M_years_1 16 rfl) ?_
    refine r_iconst C 0 (dk_at dk_M_years_1 17 rfl) ?_
    obtain ⟨q49, h⟩ := h
    refine r_iast C 54 (hL 54 _ rfl) q49 (dk_at dk_M_years_1 18 rfl) (r_sg (fun σ47 e48 => ?_))
    replace h := h σ47 e48
    refine r_aload_n C 0 rfl (dk_at dk_M_years_1 19 rfl) ?_
    refine r_getR C fl_M_98 0 (hL 0 _ rfl) rfl (dk_at dk_M_years_1 20 rfl) ?_
    refine r_iload C 5 rfl (dk_at dk_M_years_1 21 rfl) ?_
    refine r_iconst C 0 (dk_at dk_M_years_1 22 rfl) ?_
    obtain ⟨q52, h⟩ := h
    refine r_iast C 55 (hL 55 _ rfl) q52 (dk_at dk_M_years_1 23 rfl) (r_sg (fun σ50 e51 => ?_))
    replace h := h σ50 e51
    refine r_iinc C 5 rfl rfl [(6, .int (a6 + 1)), (0, .ref (wAd w 0)), (2, .int a2), (3, .int a3), (4, .int a4), (5, .int a5)] rfl rfl (dk_at dk_M_years_1 24 rfl) ?_
    refine r_goto C 97 rfl (dk_at dk_M_years_1 25 rfl) ?_
    refine r_lv [1, 2, 3, 4, 5, 0] rfl ?_
    exact k97 _ _ h
set_option maxRecDepth 20000 in
theorem t_M_years_l97 {X : CT} {w : WO} (C : CF X w (lim0 w) 12 cX11_years RX11 (some .int) (.code yX11_years cX11_years 12 (some .int)) (rmK 93 2249)) (hL : LyM w) {a2 : Int32} {a3 : Int32} {a4 : Int32} {a5 : Int32} {post : Int32 → DD → Prop} {σ : DD} {a6 : Int32} (h : w_M_years_l97 post σ a2 a3 a4 a5 a6) : gW X w (lim0 w) 12 (QI X w post) σ 97 [(0, .ref (wAd w 0)), (2, .int a2), (3, .int a3), (4, .int a4), (5, .int a5), (6, .int a6)] [] :=
  LoopW (G := fun x : DD × Int32 => gW X w (lim0 w) 12 (QI X w post) x.1 97 [(0, .ref (wAd w 0)), (2, .int a2), (3, .int a3), (4, .int a4), (5, .int a5), (6, .int x.2)] []) (fun K x hK hF => t_M_years_b97 C hL (fun σ a6 q => hK (σ, a6) q) hF) h
set_option maxRecDepth 20000 in
theorem m_M_years {l : Launch} {w : WO} (hL : LyM w) {σ : DD} {a1 : Int32} {a2 : Int32} {post : Int32 → DD → Prop} (h : w_M_years σ a1 a2 post) : MI l w yX11_years cX11_years 12 .int (rmK 93 2249) σ [.ref (wAd w 0), .int a1, .int a2] post :=
  met_head (rt := (some .int)) (by decide) rfl (fun X hX C => by
  subst hX
  unfold w_M_years at h
  show gW X w (lim0 w) 12 (QI X w post) σ 0 [(0, .ref (wAd w 0)), (1, .int a1), (2, .int a2)] []
  refine r_iload_n C 1 rfl (dk_at dk_M_years_0 0 rfl) ?_
  refine r_iconst C 0 (dk_at dk_M_years_0 1 rfl) ?_
  refine r_ldc C tw_1464 (dk_at dk_M_years_0 2 rfl) ?_
  refine r_csI C cs_M_101 [.int a1, .int 0, .int 1000000] (m_M_lies hL h) (rmK_ok rfl rfl) rfl rfl (Nat.le_of_ble_eq_true rfl) (dk_at dk_M_years_0 3 rfl) (fun r53 σ54 h => ?_)
  refine r_if_eq C 20 rfl (dk_at dk_M_years_0 4 rfl) (fun c55 => ?_) (fun c55 => ?_)
  · replace h := h.1 c55
    refine r_lv [0] rfl ?_
    exact t_M_years_j20 C hL h
  · replace h := h.2 c55
    refine r_iload_n C 2 rfl (dk_at dk_M_years_0 5 rfl) ?_
    refine r_iconst C 1 (dk_at dk_M_years_0 6 rfl) ?_
    refine r_bipush C 60 (dk_at dk_M_years_0 7 rfl) ?_
    refine r_csI C cs_M_101 [.int a2, .int 1, .int 60] (m_M_lies hL h) (rmK_ok rfl rfl) rfl rfl (Nat.le_of_ble_eq_true rfl) (dk_at dk_M_years_0 8 rfl) (fun r56 σ57 h => ?_)
    refine r_if_ne C 26 rfl (dk_at dk_M_years_0 9 rfl) (fun c58 => ?_) (fun c58 => ?_)
    · replace h := h.1 c58
      refine r_aload_n C 0 rfl (dk_at dk_M_years_0 14 rfl) ?_
      refine r_getR C fl_M_20 0 (hL 0 _ rfl) rfl (dk_at dk_M_years_0 15 rfl) ?_
      refine r_sipush C 399 (dk_at dk_M_years_0 16 rfl) ?_
      refine r_ialdK C 4 (hL 4 _ rfl) lk_399 (vk_399_6012) (dk_at dk_M_years_0 17 rfl) ?_
      refine r_if_eq C 48 rfl (dk_at dk_M_years_0 18 rfl) (fun c59 => ?_) (fun c59 => ?_)
      · replace h := h.1 c59
        refine r_lv [0] rfl ?_
        exact t_M_years_j48 C hL h
      · replace h := h.2 c59
        refine r_aload_n C 0 rfl (dk_at dk_M_years_0 19 rfl) ?_
        refine r_getR C fl_M_20 0 (hL 0 _ rfl) rfl (dk_at dk_M_years_0 20 rfl) ?_
        refine r_sipush C 400 (dk_at dk_M_years_0 21 rfl) ?_
        refine r_ialdK C 4 (hL 4 _ rfl) lk_400 (vk_400_6012) (dk_at dk_M_years_0 22 rfl) ?_
        refine r_if_ne C 55 rfl (dk_at dk_M_years_0 23 rfl) (fun c60 => ?_) (fun c60 => ?_)
        · replace h := h.1 c60
          refine r_aload_n C 0 rfl (dk_at dk_M_years_0 28 rfl) ?_
          refine r_iload_n C 1 rfl (dk_at dk_M_years_0 29 rfl) ?_
          refine r_putI C fl_M_445 0 (hL 0 _ rfl) rfl (dk_at dk_M_years_0 30 rfl) (r_sg (fun σ61 e62 => ?_))
          replace h := h σ61 e62
          refine r_aload_n C 0 rfl (dk_at dk_M_years_0 31 rfl) ?_
          refine r_aload_n C 0 rfl (dk_at dk_M_years_0 32 rfl) ?_
          refine r_getR C fl_M_20 0 (hL 0 _ rfl) rfl (dk_at dk_M_years_0 33 rfl) ?_
          refine r_sipush C 399 (dk_at dk_M_years_0 34 rfl) ?_
          refine r_ialdK C 4 (hL 4 _ rfl) lk_399 (vk_399_6012) (dk_at dk_M_years_0 35 rfl) ?_
          refine r_putI C fl_M_452 0 (hL 0 _ rfl) rfl (dk_at dk_M_years_0 36 rfl) (r_sg (fun σ63 e64 => ?_))
          replace h := h σ63 e64
          refine r_aload_n C 0 rfl (dk_at dk_M_years_0 37 rfl) ?_
          refine r_getR C fl_M_20 0 (hL 0 _ rfl) rfl (dk_at dk_M_years_0 38 rfl) ?_
          refine r_sipush C 401 (dk_at dk_M_years_0 39 rfl) ?_
          refine r_ialdK C 4 (hL 4 _ rfl) lk_401 (vk_401_6012) (dk_at dk_M_years_1 0 rfl) ?_
          refine r_topi (fun v65 e66 => ?_)
          replace h := h v65 e66
          refine r_istore_n C [(3, .int v65), (0, .ref (wAd w 0)), (1, .int a1), (2, .int a2)] rfl rfl (dk_at dk_M_years_1 1 rfl) ?_
          refine r_aload_n C 1 rfl (dk_at dk_M_years_1 2 rfl) ?_
          refine r_getR C fl_M_20 0 (hL 0 _ rfl) rfl (dk_at dk_M_years_1 3 rfl) ?_
          refine r_sipush C 395 (dk_at dk_M_years_1 4 rfl) ?_
          refine r_ialdK C 4 (hL 4 _ rfl) lk_395 (vk_395_6012) (dk_at dk_M_years_1 5 rfl) ?_
          refine r_topi (fun v67 e68 => ?_)
          replace h := h v67 e68
          refine r_istore C [(4, .int v67), (3, .int v65), (0, .ref (wAd w 0)), (1, .int a1), (2, .int a2)] rfl rfl (dk_at dk_M_years_1 6 rfl) ?_
          refine r_iconst C 1 (dk_at dk_M_years_1 7 rfl) ?_
          refine r_istore C [(5, .int 1), (4, .int v67), (3, .int v65), (0, .ref (wAd w 0)), (1, .int a1), (2, .int a2)] rfl rfl (dk_at dk_M_years_1 8 rfl) ?_
          refine r_iconst C 0 (dk_at dk_M_years_1 9 rfl) ?_
          refine r_istore C [(6, .int 0), (5, .int 1), (4, .int v67), (3, .int v65), (0, .ref (wAd w 0)), (1, .int a1), (2, .int a2)] rfl rfl (dk_at dk_M_years_1 10 rfl) ?_
          refine r_lv [4, 6, 3, 2, 1, 0] rfl ?_
          exact t_M_years_l97 C hL h
        · replace h := h.2 c60
          refine r_lv [0] rfl ?_
          exact t_M_years_j48 C hL h
    · replace h := h.2 c58
      refine r_lv [0] rfl ?_
      exact t_M_years_j20 C hL h
  )
set_option maxRecDepth 20000 in
theorem m_M_drawn {l : Launch} {w : WO} (hL : LyM w) {σ : DD} {a1 : Int32} {a2 : Int32} {post : Int32 → DD → Prop} (h : w_M_drawn σ a1 a2 post) : MI l w yX11_drawn cX11_drawn 3 .int (rmK 1 22) σ [.ref (wAd w 0), .int a1, .int a2] post :=
  met_head (rt := (some .int)) (by decide) rfl (fun X hX C => by
  subst hX
  unfold w_M_drawn at h
  show gW X w (lim0 w) 3 (QI X w post) σ 0 [(0, .ref (wAd w 0)), (1, .int a1), (2, .int a2)] []
  refine r_iload_n C 1 rfl (dk_at dk_M_drawn_0 0 rfl) ?_
  refine r_iconst C 0 (dk_at dk_M_drawn_0 1 rfl) ?_
  refine r_aload_n C 0 rfl (dk_at dk_M_drawn_0 2 rfl) ?_
  refine r_getI C fl_M_452 0 (hL 0 _ rfl) rfl (dk_at dk_M_drawn_0 3 rfl) ?_
  refine r_iconst C 1 (dk_at dk_M_drawn_0 4 rfl) ?_
  refine r_isub C (dk_at dk_M_drawn_0 5 rfl) ?_
  refine r_csI C cs_M_101 [.int a1, .int 0, .int ((gI σ 0 55) - 1)] (m_M_lies hL h) (rmK_ok rfl rfl) rfl rfl (Nat.le_of_ble_eq_true rfl) (dk_at dk_M_drawn_0 6 rfl) (fun r1 σ2 h => ?_)
  refine r_if_eq C 23 rfl (dk_at dk_M_drawn_0 7 rfl) (fun c3 => ?_) (fun c3 => ?_)
  · replace h := h.1 c3
    refine r_iconst C (-1) (dk_at dk_M_drawn_0 13 rfl) ?_
    exact r_iret C h (dk_at dk_M_drawn_0 14 rfl)
  · replace h := h.2 c3
    refine r_iload_n C 2 rfl (dk_at dk_M_drawn_0 8 rfl) ?_
    refine r_iconst C 0 (dk_at dk_M_drawn_0 9 rfl) ?_
    refine r_iconst C 1 (dk_at dk_M_drawn_0 10 rfl) ?_
    refine r_csI C cs_M_101 [.int a2, .int 0, .int 1] (m_M_lies hL h) (rmK_ok rfl rfl) rfl rfl (Nat.le_of_ble_eq_true rfl) (dk_at dk_M_drawn_0 11 rfl) (fun r4 σ5 h => ?_)
    refine r_if_ne C 25 rfl (dk_at dk_M_drawn_0 12 rfl) (fun c6 => ?_) (fun c6 => ?_)
    · replace h := h.1 c6
      refine r_iload_n C 2 rfl (dk_at dk_M_drawn_0 15 rfl) ?_
      refine r_if_ne C 38 rfl (dk_at dk_M_drawn_0 16 rfl) (fun c7 => ?_) (fun c7 => ?_)
      · replace h := h.1 c7
        refine r_aload_n C 0 rfl (dk_at dk_M_drawn_0 22 rfl) ?_
        refine r_getR C fl_M_98 0 (hL 0 _ rfl) rfl (dk_at dk_M_drawn_0 23 rfl) ?_
        refine r_iload_n C 1 rfl (dk_at dk_M_drawn_0 24 rfl) ?_
        obtain ⟨q8, h⟩ := h
        refine r_iald C 55 (hL 55 _ rfl) q8 (dk_at dk_M_drawn_0 25 rfl) ?_
        exact r_iret C h (dk_at dk_M_drawn_0 26 rfl)
      · replace h := h.2 c7
        refine r_aload_n C 0 rfl (dk_at dk_M_drawn_0 17 rfl) ?_
        refine r_getR C fl_M_95 0 (hL 0 _ rfl) rfl (dk_at dk_M_drawn_0 18 rfl) ?_
        refine r_iload_n C 1 rfl (dk_at dk_M_drawn_0 19 rfl) ?_
        obtain ⟨q9, h⟩ := h
        refine r_iald C 54 (hL 54 _ rfl) q9 (dk_at dk_M_drawn_0 20 rfl) ?_
        refine r_goto C 44 rfl (dk_at dk_M_drawn_0 21 rfl) ?_
        exact r_iret C h (dk_at dk_M_drawn_0 26 rfl)
    · replace h := h.2 c6
      refine r_iconst C (-1) (dk_at dk_M_drawn_0 13 rfl) ?_
      exact r_iret C h (dk_at dk_M_drawn_0 14 rfl)
  )
set_option maxRecDepth 20000 in
theorem t_M_count_j130 {X : CT} {w : WO} (C : CF X w (lim0 w) 2 cX11_count RX11 (some .int) (.code yX11_count cX11_count 2 (some .int)) (rmK 0 0)) (hL : LyM w) {post : Int32 → DD → Prop} {a1 : Int32} {σ : DD} (h : w_M_count_j130 post σ a1) : gW X w (lim0 w) 2 (QI X w post) σ 130 [(0, .ref (wAd w 0)), (1, .int a1)] [] := by
  unfold w_M_count_j130 at h
  refine r_aload_n C 0 rfl (dk_at dk_M_count_0 30 rfl) ?_
  refine r_getR C fl_M_7 0 (hL 0 _ rfl) rfl (dk_at dk_M_count_0 31 rfl) ?_
  refine r_iload_n C 1 rfl (dk_at dk_M_count_0 32 rfl) ?_
  refine r_iconst C 5 (dk_at dk_M_count_0 33 rfl) ?_
  refine r_isub C (dk_at dk_M_count_0 34 rfl) ?_
  obtain ⟨q1, h⟩ := h
  refine r_iald C 3 (hL 3 _ rfl) q1 (dk_at dk_M_count_0 35 rfl) ?_
  exact r_iret C h (dk_at dk_M_count_0 36 rfl)
set_option maxRecDepth 20000 in
theorem t_M_count_j163 {X : CT} {w : WO} (C : CF X w (lim0 w) 2 cX11_count RX11 (some .int) (.code yX11_count cX11_count 2 (some .int)) (rmK 0 0)) (hL : LyM w) {post : Int32 → DD → Prop} {a1 : Int32} {σ : DD} (h : w_M_count_j163 post σ a1) : gW X w (lim0 w) 2 (QI X w post) σ 163 [(0, .ref (wAd w 0)), (1, .int a1)] [] := by
  unfold w_M_count_j163 at h
  refine r_aload_n C 0 rfl (dk_at dk_M_count_1 12 rfl) ?_
  refine r_getR C fl_M_20 0 (hL 0 _ rfl) rfl (dk_at dk_M_count_1 13 rfl) ?_
  refine r_sipush C 395 (dk_at dk_M_count_1 14 rfl) ?_
  refine r_iload_n C 1 rfl (dk_at dk_M_count_1 15 rfl) ?_
  refine r_iadd C (dk_at dk_M_count_1 16 rfl) ?_
  refine r_bipush C 12 (dk_at dk_M_count_1 17 rfl) ?_
  refine r_isub C (dk_at dk_M_count_1 18 rfl) ?_
  obtain ⟨q2, h⟩ := h
  refine r_iald C 4 (hL 4 _ rfl) q2 (dk_at dk_M_count_1 19 rfl) ?_
  exact r_iret C h (dk_at dk_M_count_1 20 rfl)
set_option maxRecDepth 20000 in
theorem m_M_count {l : Launch} {w : WO} (hL : LyM w) {σ : DD} {a1 : Int32} {post : Int32 → DD → Prop} (h : w_M_count σ a1 post) : MI l w yX11_count cX11_count 2 .int (rmK 0 0) σ [.ref (wAd w 0), .int a1] post :=
  met_head (rt := (some .int)) (by decide) rfl (fun X hX C => by
  subst hX
  unfold w_M_count at h
  show gW X w (lim0 w) 2 (QI X w post) σ 0 [(0, .ref (wAd w 0)), (1, .int a1)] []
  refine r_iload_n C 1 rfl (dk_at dk_M_count_0 0 rfl) ?_
  by_cases c3 : a1 = 0
  · refine r_tabK C 0 c3 (off := 79) (tgt := 80) (by decide) (dk_at dk_M_count_0 1 rfl) ?_
    replace h := h.1 c3
    refine r_aload_n C 0 rfl (dk_at dk_M_count_0 2 rfl) ?_
    refine r_getR C fl_M_20 0 (hL 0 _ rfl) rfl (dk_at dk_M_count_0 3 rfl) ?_
    refine r_sipush C 399 (dk_at dk_M_count_0 4 rfl) ?_
    refine r_ialdK C 4 (hL 4 _ rfl) lk_399 (vk_399_6012) (dk_at dk_M_count_0 5 rfl) ?_
    exact r_iret C h (dk_at dk_M_count_0 6 rfl)
  · replace h := h.2 c3
    by_cases c4 : a1 = 1
    · refine r_tabK C 1 c4 (off := 88) (tgt := 89) (by decide) (dk_at dk_M_count_0 1 rfl) ?_
      replace h := h.1 c4
      refine r_aload_n C 0 rfl (dk_at dk_M_count_0 7 rfl) ?_
      refine r_getR C fl_M_20 0 (hL 0 _ rfl) rfl (dk_at dk_M_count_0 8 rfl) ?_
      refine r_sipush C 400 (dk_at dk_M_count_0 9 rfl) ?_
      refine r_ialdK C 4 (hL 4 _ rfl) lk_400 (vk_400_6012) (dk_at dk_M_count_0 10 rfl) ?_
      exact r_iret C h (dk_at dk_M_count_0 11 rfl)
    · replace h := h.2 c4
      by_cases c5 : a1 = 2
      · refine r_tabK C 2 c5 (off := 97) (tgt := 98) (by decide) (dk_at dk_M_count_0 1 rfl) ?_
        replace h := h.1 c5
        refine r_aload_n C 0 rfl (dk_at dk_M_count_0 12 rfl) ?_
        refine r_getR C fl_M_20 0 (hL 0 _ rfl) rfl (dk_at dk_M_count_0 13 rfl) ?_
        refine r_sipush C 401 (dk_at dk_M_count_0 14 rfl) ?_
        refine r_ialdK C 4 (hL 4 _ rfl) lk_401 (vk_401_6012) (dk_at dk_M_count_0 15 rfl) ?_
        exact r_iret C h (dk_at dk_M_count_0 16 rfl)
      · replace h := h.2 c5
        by_cases c6 : a1 = 3
        · refine r_tabK C 3 c6 (off := 106) (tgt := 107) (by decide) (dk_at dk_M_count_0 1 rfl) ?_
          replace h := h.1 c6
          refine r_aload_n C 0 rfl (dk_at dk_M_count_0 17 rfl) ?_
          refine r_getR C fl_M_20 0 (hL 0 _ rfl) rfl (dk_at dk_M_count_0 18 rfl) ?_
          refine r_sipush C 402 (dk_at dk_M_count_0 19 rfl) ?_
          refine r_ialdK C 4 (hL 4 _ rfl) lk_402 (vk_402_6012) (dk_at dk_M_count_0 20 rfl) ?_
          exact r_iret C h (dk_at dk_M_count_0 21 rfl)
        · replace h := h.2 c6
          by_cases c7 : a1 = 4
          · refine r_tabK C 4 c7 (off := 115) (tgt := 116) (by decide) (dk_at dk_M_count_0 1 rfl) ?_
            replace h := h.1 c7
            refine r_aload_n C 0 rfl (dk_at dk_M_count_0 22 rfl) ?_
            refine r_getR C fl_M_20 0 (hL 0 _ rfl) rfl (dk_at dk_M_count_0 23 rfl) ?_
            refine r_sipush C 403 (dk_at dk_M_count_0 24 rfl) ?_
            refine r_ialdK C 4 (hL 4 _ rfl) lk_403 (vk_403_6012) (dk_at dk_M_count_0 25 rfl) ?_
            exact r_iret C h (dk_at dk_M_count_0 26 rfl)
          · replace h := h.2 c7
            by_cases c8 : a1 = 5
            · refine r_tabK C 5 c8 (off := 124) (tgt := 125) (by decide) (dk_at dk_M_count_0 1 rfl) ?_
              replace h := h.1 c8
              refine r_aload_n C 0 rfl (dk_at dk_M_count_0 27 rfl) ?_
              refine r_getI C fl_M_140 0 (hL 0 _ rfl) rfl (dk_at dk_M_count_0 28 rfl) ?_
              exact r_iret C h (dk_at dk_M_count_0 29 rfl)
            · replace h := h.2 c8
              by_cases c9 : a1 = 6
              · refine r_tabK C 6 c9 (off := 129) (tgt := 130) (by decide) (dk_at dk_M_count_0 1 rfl) ?_
                replace h := h.1 c9
                refine r_lv [0, 1] rfl ?_
                exact t_M_count_j130 C hL h
              · replace h := h.2 c9
                by_cases c10 : a1 = 7
                · refine r_tabK C 7 c10 (off := 129) (tgt := 130) (by decide) (dk_at dk_M_count_0 1 rfl) ?_
                  replace h := h.1 c10
                  refine r_lv [0, 1] rfl ?_
                  exact t_M_count_j130 C hL h
                · replace h := h.2 c10
                  by_cases c11 : a1 = 8
                  · refine r_tabK C 8 c11 (off := 129) (tgt := 130) (by decide) (dk_at dk_M_count_0 1 rfl) ?_
                    replace h := h.1 c11
                    refine r_lv [0, 1] rfl ?_
                    exact t_M_count_j130 C hL h
                  · replace h := h.2 c11
                    by_cases c12 : a1 = 9
                    · refine r_tabK C 9 c12 (off := 138) (tgt := 139) (by decide) (dk_at dk_M_count_0 1 rfl) ?_
                      replace h := h.1 c12
                      refine r_aload_n C 0 rfl (dk_at dk_M_count_0 37 rfl) ?_
                      refine r_getR C fl_M_7 0 (hL 0 _ rfl) rfl (dk_at dk_M_count_0 38 rfl) ?_
                      refine r_iconst C 5 (dk_at dk_M_count_0 39 rfl) ?_
                      refine r_ialdK C 3 (hL 3 _ rfl) lk_5 (vk_5_7) (dk_at dk_M_count_1 0 rfl) ?_
                      exact r_iret C h (dk_at dk_M_count_1 1 rfl)
                    · replace h := h.2 c12
                      by_cases c13 : a1 = 10
                      · refine r_tabK C 10 c13 (off := 145) (tgt := 146) (by decide) (dk_at dk_M_count_0 1 rfl) ?_
                        replace h := h.1 c13
                        refine r_aload_n C 0 rfl (dk_at dk_M_count_1 2 rfl) ?_
                        refine r_getR C fl_M_7 0 (hL 0 _ rfl) rfl (dk_at dk_M_count_1 3 rfl) ?_
                        refine r_bipush C 6 (dk_at dk_M_count_1 4 rfl) ?_
                        refine r_ialdK C 3 (hL 3 _ rfl) lk_6 (vk_6_7) (dk_at dk_M_count_1 5 rfl) ?_
                        exact r_iret C h (dk_at dk_M_count_1 6 rfl)
                      · replace h := h.2 c13
                        by_cases c14 : a1 = 11
                        · refine r_tabK C 11 c14 (off := 153) (tgt := 154) (by decide) (dk_at dk_M_count_0 1 rfl) ?_
                          replace h := h.1 c14
                          refine r_aload_n C 0 rfl (dk_at dk_M_count_1 7 rfl) ?_
                          refine r_getR C fl_M_20 0 (hL 0 _ rfl) rfl (dk_at dk_M_count_1 8 rfl) ?_
                          refine r_sipush C 404 (dk_at dk_M_count_1 9 rfl) ?_
                          refine r_ialdK C 4 (hL 4 _ rfl) lk_404 (vk_404_6012) (dk_at dk_M_count_1 10 rfl) ?_
                          exact r_iret C h (dk_at dk_M_count_1 11 rfl)
                        · replace h := h.2 c14
                          by_cases c15 : a1 = 12
                          · refine r_tabK C 12 c15 (off := 162) (tgt := 163) (by decide) (dk_at dk_M_count_0 1 rfl) ?_
                            replace h := h.1 c15
                            refine r_lv [0, 1] rfl ?_
                            exact t_M_count_j163 C hL h
                          · replace h := h.2 c15
                            by_cases c16 : a1 = 13
                            · refine r_tabK C 13 c16 (off := 162) (tgt := 163) (by decide) (dk_at dk_M_count_0 1 rfl) ?_
                              replace h := h.1 c16
                              refine r_lv [0, 1] rfl ?_
                              exact t_M_count_j163 C hL h
                            · replace h := h.2 c16
                              by_cases c17 : a1 = 14
                              · refine r_tabK C 14 c17 (off := 162) (tgt := 163) (by decide) (dk_at dk_M_count_0 1 rfl) ?_
                                replace h := h.1 c17
                                refine r_lv [0, 1] rfl ?_
                                exact t_M_count_j163 C hL h
                              · replace h := h.2 c17
                                by_cases c18 : a1 = 15
                                · refine r_tabK C 15 c18 (off := 162) (tgt := 163) (by decide) (dk_at dk_M_count_0 1 rfl) ?_
                                  replace h := h.1 c18
                                  refine r_lv [0, 1] rfl ?_
                                  exact t_M_count_j163 C hL h
                                · replace h := h.2 c18
                                  refine r_tabD C (tgt := 177) (dk_at dk_M_count_0 1 rfl) (tab_out (fun k h1 h2 => by rcases (show k = 0 ∨ k = 1 ∨ k = 2 ∨ k = 3 ∨ k = 4 ∨ k = 5 ∨ k = 6 ∨ k = 7 ∨ k = 8 ∨ k = 9 ∨ k = 10 ∨ k = 11 ∨ k = 12 ∨ k = 13 ∨ k = 14 ∨ k = 15 by omega) with rfl | rfl | rfl | rfl | rfl | rfl | rfl | rfl | rfl | rfl | rfl | rfl | rfl | rfl | rfl | rfl <;> assumption)) rfl ?_
                                  refine r_iconst C (-1) (dk_at dk_M_count_1 21 rfl) ?_
                                  exact r_iret C h (dk_at dk_M_count_1 22 rfl)
  )
set_option maxRecDepth 20000 in
theorem m_M_status {l : Launch} {w : WO} (hL : LyM w) {σ : DD} {post : Int32 → DD → Prop} (h : w_M_status σ post) : MI l w yX11_status cX11_status 1 .int (rmK 0 0) σ [.ref (wAd w 0)] post :=
  met_head (rt := (some .int)) (by decide) rfl (fun X hX C => by
  subst hX
  unfold w_M_status at h
  show gW X w (lim0 w) 1 (QI X w post) σ 0 [(0, .ref (wAd w 0))] []
  refine r_aload_n C 0 rfl (dk_at dk_M_status_0 0 rfl) ?_
  refine r_getI C fl_M_3 0 (hL 0 _ rfl) rfl (dk_at dk_M_status_0 1 rfl) ?_
  exact r_iret C h (dk_at dk_M_status_0 2 rfl)
  )
