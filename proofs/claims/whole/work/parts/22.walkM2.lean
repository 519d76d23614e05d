set_option maxRecDepth 20000 in
theorem t_M_plainOf_b2 {o_positiveOf : DD → Int32 → (Int32 → DD → Prop) → Prop} {f0 q0 f_positiveOf q_positiveOf : Nat} {X : CT} {w : WO} (C : CF X w (lim0 w) 3 cX11_plainOf RX11 (some .boolean) (.code yX11_plainOf cX11_plainOf 3 (some .boolean)) (rmK f0 q0)) (hL : LyM w) (hr0 : 2 ≤ f0 ∧ 43 ≤ q0) (hr_positiveOf : f_positiveOf + 1 ≤ f0 ∧ 8 + (7 + 11) + q_positiveOf ≤ q0) (ho_positiveOf : ∀ (σ : DD) (a1 : Int32) (post : Int32 → DD → Prop), o_positiveOf σ a1 post → MI X.l w yX11_positiveOf cX11_positiveOf 7 .boolean (rmK f_positiveOf q_positiveOf) σ [.ref (wAd w 0), .int a1] post) {a1 : Int32} {K2 : DD → Int32 → Prop} {post : Int32 → DD → Prop} (k2 : ∀ (σ : DD) (a2 : Int32), K2 σ a2 → gW X w (lim0 w) 3 (QI X w post) σ 2 [(0, .ref (wAd w 0)), (1, .int a1), (2, .int a2)] []) {σ : DD} {a2 : Int32} (h : w_M_plainOf_b2 o_positiveOf a1 K2 post σ a2) : gW X w (lim0 w) 3 (QI X w post) σ 2 [(0, .ref (wAd w 0)), (1, .int a1), (2, .int a2)] [] := by
  unfold w_M_plainOf_b2 at h
  refine r_aload_n C 0 rfl (dk_at dk_M_plainOf_0 2 rfl) ?_
  refine r_bipush C 7 (dk_at dk_M_plainOf_0 3 rfl) ?_
  refine r_cvI C cl_M_270 0 (hL 0 _ rfl) [.int 7] (m_M_passes0 hL h) (rmK_ok2 (f := f0) (q := q0) (f' := 1) (q' := 21) (by omega) (by omega)) rfl rfl (Nat.le_of_ble_eq_true rfl) (dk_at dk_M_plainOf_0 4 rfl) (fun r1 σ2 h => ?_)
  refine r_if_eq C 24 rfl (dk_at dk_M_plainOf_0 5 rfl) (fun c3 => ?_) (fun c3 => ?_)
  · replace h := h.1 c3
    refine r_aload_n C 0 rfl (dk_at dk_M_plainOf_0 13 rfl) ?_
    refine r_iload_n C 1 rfl (dk_at dk_M_plainOf_0 14 rfl) ?_
    refine r_cvI C cl_M_282 0 (hL 0 _ rfl) [.int a1] (ho_positiveOf _ _ _ h) (rmK_ok2 hr_positiveOf.1 hr_positiveOf.2) rfl rfl (Nat.le_of_ble_eq_true rfl) (dk_at dk_M_plainOf_0 15 rfl) (fun r4 σ5 h => ?_)
    refine r_iload_n C 2 rfl (dk_at dk_M_plainOf_0 16 rfl) ?_
    refine r_icmp_eq C 37 rfl (dk_at dk_M_plainOf_0 17 rfl) (fun c6 => ?_) (fun c6 => ?_)
    · replace h := h.1 c6
      refine r_iconst C 0 (dk_at dk_M_plainOf_0 20 rfl) ?_
      exact r_zret C (Or.inl rfl) h (dk_at dk_M_plainOf_0 21 rfl)
    · replace h := h.2 c6
      refine r_iconst C 1 (dk_at dk_M_plainOf_0 18 rfl) ?_
      refine r_goto C 38 rfl (dk_at dk_M_plainOf_0 19 rfl) ?_
      exact r_zret C (Or.inr rfl) h (dk_at dk_M_plainOf_0 21 rfl)
  · replace h := h.2 c3
    refine r_iload_n C 2 rfl (dk_at dk_M_plainOf_0 6 rfl) ?_
    refine r_if_ne C 19 rfl (dk_at dk_M_plainOf_0 7 rfl) (fun c7 => ?_) (fun c7 => ?_)
    · replace h := h.1 c7
      refine r_iconst C 0 (dk_at dk_M_plainOf_0 10 rfl) ?_
      refine r_istore_n C [(2, .int 0), (0, .ref (wAd w 0)), (1, .int a1)] rfl rfl (dk_at dk_M_plainOf_0 11 rfl) ?_
      refine r_goto C 2 rfl (dk_at dk_M_plainOf_0 12 rfl) ?_
      refine r_lv [1, 2, 0] rfl ?_
      exact k2 _ _ h
    · replace h := h.2 c7
      refine r_iconst C 1 (dk_at dk_M_plainOf_0 8 rfl) ?_
      refine r_goto C 20 rfl (dk_at dk_M_plainOf_0 9 rfl) ?_
      refine r_istore_n C [(2, .int 1), (0, .ref (wAd w 0)), (1, .int a1)] rfl rfl (dk_at dk_M_plainOf_0 11 rfl) ?_
      refine r_goto C 2 rfl (dk_at dk_M_plainOf_0 12 rfl) ?_
      refine r_lv [1, 2, 0] rfl ?_
      exact k2 _ _ h
set_option maxRecDepth 20000 in
theorem t_M_plainOf_l2 {o_positiveOf : DD → Int32 → (Int32 → DD → Prop) → Prop} {f0 q0 f_positiveOf q_positiveOf : Nat} {X : CT} {w : WO} (C : CF X w (lim0 w) 3 cX11_plainOf RX11 (some .boolean) (.code yX11_plainOf cX11_plainOf 3 (some .boolean)) (rmK f0 q0)) (hL : LyM w) (hr0 : 2 ≤ f0 ∧ 43 ≤ q0) (hr_positiveOf : f_positiveOf + 1 ≤ f0 ∧ 8 + (7 + 11) + q_positiveOf ≤ q0) (ho_positiveOf : ∀ (σ : DD) (a1 : Int32) (post : Int32 → DD → Prop), o_positiveOf σ a1 post → MI X.l w yX11_positiveOf cX11_positiveOf 7 .boolean (rmK f_positiveOf q_positiveOf) σ [.ref (wAd w 0), .int a1] post) {a1 : Int32} {post : Int32 → DD → Prop} {σ : DD} {a2 : Int32} (h : w_M_plainOf_l2 o_positiveOf post σ a1 a2) : gW X w (lim0 w) 3 (QI X w post) σ 2 [(0, .ref (wAd w 0)), (1, .int a1), (2, .int a2)] [] :=
  LoopW (G := fun x : DD × Int32 => gW X w (lim0 w) 3 (QI X w post) x.1 2 [(0, .ref (wAd w 0)), (1, .int a1), (2, .int x.2)] []) (fun K x hK hF => t_M_plainOf_b2 C hL hr0 hr_positiveOf ho_positiveOf (fun σ a2 q => hK (σ, a2) q) hF) h
set_option maxRecDepth 20000 in
theorem m_M_plainOf_o {l : Launch} {w : WO} (hL : LyM w) {o_positiveOf : DD → Int32 → (Int32 → DD → Prop) → Prop} {f0 q0 f_positiveOf q_positiveOf : Nat} (hr0 : 2 ≤ f0 ∧ 43 ≤ q0) (hr_positiveOf : f_positiveOf + 1 ≤ f0 ∧ 8 + (7 + 11) + q_positiveOf ≤ q0) (ho_positiveOf : ∀ (σ : DD) (a1 : Int32) (post : Int32 → DD → Prop), o_positiveOf σ a1 post → MI l w yX11_positiveOf cX11_positiveOf 7 .boolean (rmK f_positiveOf q_positiveOf) σ [.ref (wAd w 0), .int a1] post) {σ : DD} {a1 : Int32} {post : Int32 → DD → Prop} (h : w_M_plainOf_o o_positiveOf σ a1 post) : MI l w yX11_plainOf cX11_plainOf 3 .boolean (rmK f0 q0) σ [.ref (wAd w 0), .int a1] post :=
  met_head (rt := (some .boolean)) (by decide) rfl (fun X hX C => by
  subst hX
  unfold w_M_plainOf_o at h
  show gW X w (lim0 w) 3 (QI X w post) σ 0 [(0, .ref (wAd w 0)), (1, .int a1)] []
  refine r_iconst C 0 (dk_at dk_M_plainOf_0 0 rfl) ?_
  refine r_istore_n C [(2, .int 0), (0, .ref (wAd w 0)), (1, .int a1)] rfl rfl (dk_at dk_M_plainOf_0 1 rfl) ?_
  refine r_lv [1, 2, 0] rfl ?_
  exact t_M_plainOf_l2 C hL hr0 hr_positiveOf ho_positiveOf h
  )
set_option maxRecDepth 20000 in
theorem m_M_positiveOf_o {l : Launch} {w : WO} (hL : LyM w) {o_testOf : DD → Int32 → (Int32 → DD → Prop) → Prop} {f0 q0 f_testOf q_testOf : Nat} (hr0 : 39 ≤ f0 ∧ 969 ≤ q0) (hr_testOf : f_testOf + 1 ≤ f0 ∧ 8 + (4 + 11) + q_testOf ≤ q0) (ho_testOf : ∀ (σ : DD) (a1 : Int32) (post : Int32 → DD → Prop), o_testOf σ a1 post → MI l w yX11_testOf cX11_testOf 4 .boolean (rmK f_testOf q_testOf) σ [.ref (wAd w 0), .int a1] post) {σ : DD} {a1 : Int32} {post : Int32 → DD → Prop} (h : w_M_positiveOf_o o_testOf σ a1 post) : MI l w yX11_positiveOf cX11_positiveOf 7 .boolean (rmK f0 q0) σ [.ref (wAd w 0), .int a1] post :=
  met_head (rt := (some .boolean)) (by decide) rfl (fun X hX C => by
  subst hX
  unfold w_M_positiveOf_o at h
  show gW X w (lim0 w) 7 (QI X w post) σ 0 [(0, .ref (wAd w 0)), (1, .int a1)] []
  refine r_aload_n C 0 rfl (dk_at dk_M_positiveOf_0 0 rfl) ?_
  refine r_bipush C 40 (dk_at dk_M_positiveOf_0 1 rfl) ?_
  refine r_csI C cs_M_208 [.int 40] (m_M_sign hL h) (rmK_ok2 (f := f0) (q := q0) (f' := 0) (q' := 0) (by omega) (by omega)) rfl rfl (Nat.le_of_ble_eq_true rfl) (dk_at dk_M_positiveOf_0 2 rfl) (fun r1 σ2 h => ?_)
  refine r_cvI C cl_M_270 0 (hL 0 _ rfl) [.int r1] (m_M_passes0 hL h) (rmK_ok2 (f := f0) (q := q0) (f' := 1) (q' := 21) (by omega) (by omega)) rfl rfl (Nat.le_of_ble_eq_true rfl) (dk_at dk_M_positiveOf_0 3 rfl) (fun r3 σ4 h => ?_)
  refine r_if_eq C 30 rfl (dk_at dk_M_positiveOf_0 4 rfl) (fun c5 => ?_) (fun c5 => ?_)
  · replace h := h.1 c5
    refine r_aload_n C 0 rfl (dk_at dk_M_positiveOf_0 17 rfl) ?_
    refine r_iload_n C 1 rfl (dk_at dk_M_positiveOf_0 18 rfl) ?_
    refine r_cvL C cl_M_273 0 (hL 0 _ rfl) [.int a1] (m_M_sumOf hL h) (rmK_ok2 (f := f0) (q := q0) (f' := 38) (q' := 943) (by omega) (by omega)) rfl rfl (Nat.le_of_ble_eq_true rfl) (dk_at dk_M_positiveOf_0 19 rfl) (fun r6 σ7 h => ?_)
    refine r_lstore_n C [(2, .long r6), (0, .ref (wAd w 0)), (1, .int a1)] rfl rfl (dk_at dk_M_positiveOf_0 20 rfl) ?_
    refine r_aload_n C 1 rfl (dk_at dk_M_positiveOf_0 21 rfl) ?_
    refine r_aload_n C 1 rfl (dk_at dk_M_positiveOf_0 22 rfl) ?_
    refine r_getI C fl_M_246 0 (hL 0 _ rfl) rfl (dk_at dk_M_positiveOf_0 23 rfl) ?_
    refine r_cvI C cl_M_249 0 (hL 0 _ rfl) [.int (gI σ7 0 22)] (m_M_codeAt hL h) (rmK_ok2 (f := f0) (q := q0) (f' := 0) (q' := 0) (by omega) (by omega)) rfl rfl (Nat.le_of_ble_eq_true rfl) (dk_at dk_M_positiveOf_0 24 rfl) (fun r8 σ9 h => ?_)
    refine r_istore C [(4, .int r8), (2, .long r6), (0, .ref (wAd w 0)), (1, .int a1)] rfl rfl (dk_at dk_M_positiveOf_0 25 rfl) ?_
    refine r_aload_n C 2 rfl (dk_at dk_M_positiveOf_0 26 rfl) ?_
    refine r_dup C rfl (dk_at dk_M_positiveOf_0 27 rfl) ?_
    refine r_getI C fl_M_246 0 (hL 0 _ rfl) rfl (dk_at dk_M_positiveOf_0 28 rfl) ?_
    refine r_iconst C 1 (dk_at dk_M_positiveOf_0 29 rfl) ?_
    refine r_iadd C (dk_at dk_M_positiveOf_0 30 rfl) ?_
    refine r_putI C fl_M_246 0 (hL 0 _ rfl) rfl (dk_at dk_M_positiveOf_0 31 rfl) (r_sg (fun σ10 e11 => ?_))
    replace h := h σ10 e11
    refine r_aload_n C 2 rfl (dk_at dk_M_positiveOf_0 32 rfl) ?_
    refine r_iload_n C 3 rfl (dk_at dk_M_positiveOf_0 33 rfl) ?_
    refine r_cvL C cl_M_273 0 (hL 0 _ rfl) [.int a1] (m_M_sumOf hL h) (rmK_ok2 (f := f0) (q := q0) (f' := 38) (q' := 943) (by omega) (by omega)) rfl rfl (Nat.le_of_ble_eq_true rfl) (dk_at dk_M_positiveOf_0 34 rfl) (fun r12 σ13 h => ?_)
    refine r_lstore C [(5, .long r12), (4, .int r8), (2, .long r6), (0, .ref (wAd w 0)), (1, .int a1)] rfl rfl (dk_at dk_M_positiveOf_0 35 rfl) ?_
    refine r_iload_n C 4 rfl (dk_at dk_M_positiveOf_0 36 rfl) ?_
    refine r_if_eq C 125 rfl (dk_at dk_M_positiveOf_0 37 rfl) (fun c14 => ?_) (fun c14 => ?_)
    · replace h := h.1 c14
      refine r_iconst C 0 (dk_at dk_M_positiveOf_1 25 rfl) ?_
      exact r_zret C (Or.inl rfl) h (dk_at dk_M_positiveOf_1 26 rfl)
    · replace h := h.2 c14
      refine r_aload_n C 3 rfl (dk_at dk_M_positiveOf_0 38 rfl) ?_
      refine r_getI C fl_M_256 0 (hL 0 _ rfl) rfl (dk_at dk_M_positiveOf_0 39 rfl) ?_
      refine r_if_ne C 125 rfl (dk_at dk_M_positiveOf_1 0 rfl) (fun c15 => ?_) (fun c15 => ?_)
      · replace h := h.1 c15
        refine r_iconst C 0 (dk_at dk_M_positiveOf_1 25 rfl) ?_
        exact r_zret C (Or.inl rfl) h (dk_at dk_M_positiveOf_1 26 rfl)
      · replace h := h.2 c15
        refine r_iload C 1 rfl (dk_at dk_M_positiveOf_1 1 rfl) ?_
        refine r_bipush C 60 (dk_at dk_M_positiveOf_1 2 rfl) ?_
        refine r_csI C cs_M_208 [.int 60] (m_M_sign hL h) (rmK_ok2 (f := f0) (q := q0) (f' := 0) (q' := 0) (by omega) (by omega)) rfl rfl (Nat.le_of_ble_eq_true rfl) (dk_at dk_M_positiveOf_1 3 rfl) (fun r16 σ17 h => ?_)
        refine r_icmp_ne C 94 rfl (dk_at dk_M_positiveOf_1 4 rfl) (fun c18 => ?_) (fun c18 => ?_)
        · replace h := h.1 c18
          refine r_iload C 1 rfl (dk_at dk_M_positiveOf_1 10 rfl) ?_
          refine r_bipush C 62 (dk_at dk_M_positiveOf_1 11 rfl) ?_
          refine r_csI C cs_M_208 [.int 62] (m_M_sign hL h) (rmK_ok2 (f := f0) (q := q0) (f' := 0) (q' := 0) (by omega) (by omega)) rfl rfl (Nat.le_of_ble_eq_true rfl) (dk_at dk_M_positiveOf_1 12 rfl) (fun r19 σ20 h => ?_)
          refine r_icmp_ne C 114 rfl (dk_at dk_M_positiveOf_1 13 rfl) (fun c21 => ?_) (fun c21 => ?_)
          · replace h := h.1 c21
            refine r_lload_n C 2 rfl (dk_at dk_M_positiveOf_1 19 rfl) ?_
            refine r_lload C 0 rfl (dk_at dk_M_positiveOf_1 20 rfl) ?_
            refine r_lcmp C (dk_at dk_M_positiveOf_1 21 rfl) ?_
            refine r_if_ne C 125 rfl (dk_at dk_M_positiveOf_1 22 rfl) (fun c22 => ?_) (fun c22 => ?_)
            · replace h := h.1 c22
              refine r_iconst C 0 (dk_at dk_M_positiveOf_1 25 rfl) ?_
              exact r_zret C (Or.inl rfl) h (dk_at dk_M_positiveOf_1 26 rfl)
            · replace h := h.2 c22
              refine r_iconst C 1 (dk_at dk_M_positiveOf_1 23 rfl) ?_
              refine r_goto C 126 rfl (dk_at dk_M_positiveOf_1 24 rfl) ?_
              exact r_zret C (Or.inr rfl) h (dk_at dk_M_positiveOf_1 26 rfl)
          · replace h := h.2 c21
            refine r_lload_n C 2 rfl (dk_at dk_M_positiveOf_1 14 rfl) ?_
            refine r_lload C 0 rfl (dk_at dk_M_positiveOf_1 15 rfl) ?_
            refine r_lcmp C (dk_at dk_M_positiveOf_1 16 rfl) ?_
            refine r_if_le C 125 rfl (dk_at dk_M_positiveOf_1 17 rfl) (fun c23 => ?_) (fun c23 => ?_)
            · replace h := h.1 c23
              refine r_iconst C 0 (dk_at dk_M_positiveOf_1 25 rfl) ?_
              exact r_zret C (Or.inl rfl) h (dk_at dk_M_positiveOf_1 26 rfl)
            · replace h := h.2 c23
              refine r_goto C 121 rfl (dk_at dk_M_positiveOf_1 18 rfl) ?_
              refine r_iconst C 1 (dk_at dk_M_positiveOf_1 23 rfl) ?_
              refine r_goto C 126 rfl (dk_at dk_M_positiveOf_1 24 rfl) ?_
              exact r_zret C (Or.inr rfl) h (dk_at dk_M_positiveOf_1 26 rfl)
        · replace h := h.2 c18
          refine r_lload_n C 2 rfl (dk_at dk_M_positiveOf_1 5 rfl) ?_
          refine r_lload C 0 rfl (dk_at dk_M_positiveOf_1 6 rfl) ?_
          refine r_lcmp C (dk_at dk_M_positiveOf_1 7 rfl) ?_
          refine r_if_ge C 125 rfl (dk_at dk_M_positiveOf_1 8 rfl) (fun c24 => ?_) (fun c24 => ?_)
          · replace h := h.1 c24
            refine r_iconst C 0 (dk_at dk_M_positiveOf_1 25 rfl) ?_
            exact r_zret C (Or.inl rfl) h (dk_at dk_M_positiveOf_1 26 rfl)
          · replace h := h.2 c24
            refine r_goto C 121 rfl (dk_at dk_M_positiveOf_1 9 rfl) ?_
            refine r_iconst C 1 (dk_at dk_M_positiveOf_1 23 rfl) ?_
            refine r_goto C 126 rfl (dk_at dk_M_positiveOf_1 24 rfl) ?_
            exact r_zret C (Or.inr rfl) h (dk_at dk_M_positiveOf_1 26 rfl)
  · replace h := h.2 c5
    refine r_aload_n C 0 rfl (dk_at dk_M_positiveOf_0 5 rfl) ?_
    refine r_iload_n C 1 rfl (dk_at dk_M_positiveOf_0 6 rfl) ?_
    refine r_cvI C cl_M_285 0 (hL 0 _ rfl) [.int a1] (ho_testOf _ _ _ h) (rmK_ok2 hr_testOf.1 hr_testOf.2) rfl rfl (Nat.le_of_ble_eq_true rfl) (dk_at dk_M_positiveOf_0 7 rfl) (fun r25 σ26 h => ?_)
    refine r_istore_n C [(2, .int r25), (0, .ref (wAd w 0)), (1, .int a1)] rfl rfl (dk_at dk_M_positiveOf_0 8 rfl) ?_
    refine r_aload_n C 1 rfl (dk_at dk_M_positiveOf_0 9 rfl) ?_
    refine r_dup C rfl (dk_at dk_M_positiveOf_0 10 rfl) ?_
    refine r_getI C fl_M_246 0 (hL 0 _ rfl) rfl (dk_at dk_M_positiveOf_0 11 rfl) ?_
    refine r_iconst C 1 (dk_at dk_M_positiveOf_0 12 rfl) ?_
    refine r_iadd C (dk_at dk_M_positiveOf_0 13 rfl) ?_
    refine r_putI C fl_M_246 0 (hL 0 _ rfl) rfl (dk_at dk_M_positiveOf_0 14 rfl) (r_sg (fun σ27 e28 => ?_))
    replace h := h σ27 e28
    refine r_iload_n C 0 rfl (dk_at dk_M_positiveOf_0 15 rfl) ?_
    exact r_zret C h.1 h.2 (dk_at dk_M_positiveOf_0 16 rfl)
  )
set_option maxRecDepth 20000 in
theorem t_M_testOf_j40 {o_bothOf : DD → Int32 → (Int32 → DD → Prop) → Prop} {f0 q0 f_bothOf q_bothOf : Nat} {X : CT} {w : WO} (C : CF X w (lim0 w) 4 cX11_testOf RX11 (some .boolean) (.code yX11_testOf cX11_testOf 4 (some .boolean)) (rmK f0 q0)) (hL : LyM w) (hr0 : 2 ≤ f0 ∧ 43 ≤ q0) (hr_bothOf : f_bothOf + 1 ≤ f0 ∧ 8 + (4 + 11) + q_bothOf ≤ q0) (ho_bothOf : ∀ (σ : DD) (a1 : Int32) (post : Int32 → DD → Prop), o_bothOf σ a1 post → MI X.l w yX11_bothOf cX11_bothOf 4 .boolean (rmK f_bothOf q_bothOf) σ [.ref (wAd w 0), .int a1] post) {K6 : DD → Int32 → Prop} {post : Int32 → DD → Prop} {a1 : Int32} (k6 : ∀ (σ : DD) (a2 : Int32), K6 σ a2 → gW X w (lim0 w) 4 (QI X w post) σ 6 [(0, .ref (wAd w 0)), (1, .int a1), (2, .int a2)] []) {σ : DD} (h : w_M_testOf_j40 o_bothOf K6 post σ a1) : gW X w (lim0 w) 4 (QI X w post) σ 40 [(0, .ref (wAd w 0)), (1, .int a1)] [] := by
  unfold w_M_testOf_j40 at h
  refine r_iconst C 1 (dk_at dk_M_testOf_0 22 rfl) ?_
  refine r_goto C 45 rfl (dk_at dk_M_testOf_0 23 rfl) ?_
  refine r_istore_n C [(2, .int 1), (0, .ref (wAd w 0)), (1, .int a1)] rfl rfl (dk_at dk_M_testOf_0 25 rfl) ?_
  refine r_goto C 6 rfl (dk_at dk_M_testOf_0 26 rfl) ?_
  refine r_lv [1, 2, 0] rfl ?_
  exact k6 _ _ h
set_option maxRecDepth 20000 in
theorem t_M_testOf_j28 {o_bothOf : DD → Int32 → (Int32 → DD → Prop) → Prop} {f0 q0 f_bothOf q_bothOf : Nat} {X : CT} {w : WO} (C : CF X w (lim0 w) 4 cX11_testOf RX11 (some .boolean) (.code yX11_testOf cX11_testOf 4 (some .boolean)) (rmK f0 q0)) (hL : LyM w) (hr0 : 2 ≤ f0 ∧ 43 ≤ q0) (hr_bothOf : f_bothOf + 1 ≤ f0 ∧ 8 + (4 + 11) + q_bothOf ≤ q0) (ho_bothOf : ∀ (σ : DD) (a1 : Int32) (post : Int32 → DD → Prop), o_bothOf σ a1 post → MI X.l w yX11_bothOf cX11_bothOf 4 .boolean (rmK f_bothOf q_bothOf) σ [.ref (wAd w 0), .int a1] post) {K6 : DD → Int32 → Prop} {post : Int32 → DD → Prop} {a1 : Int32} {a2 : Int32} {t1 : Int32} (k6 : ∀ (σ : DD) (a2 : Int32), K6 σ a2 → gW X w (lim0 w) 4 (QI X w post) σ 6 [(0, .ref (wAd w 0)), (1, .int a1), (2, .int a2)] []) {σ : DD} (h : w_M_testOf_j28 o_bothOf K6 post σ a1 a2 t1) : gW X w (lim0 w) 4 (QI X w post) σ 28 [(0, .ref (wAd w 0)), (1, .int a1), (2, .int a2)] [.int t1, .ref (wAd w 0)] := by
  unfold w_M_testOf_j28 at h
  refine r_cvI C cl_M_276 0 (hL 0 _ rfl) [.int t1] (ho_bothOf _ _ _ h) (rmK_ok2 hr_bothOf.1 hr_bothOf.2) rfl rfl (Nat.le_of_ble_eq_true rfl) (dk_at dk_M_testOf_0 16 rfl) (fun r1 σ2 h => ?_)
  refine r_istore_n C [(3, .int r1), (0, .ref (wAd w 0)), (1, .int a1), (2, .int a2)] rfl rfl (dk_at dk_M_testOf_0 17 rfl) ?_
  refine r_iload_n C 3 rfl (dk_at dk_M_testOf_0 18 rfl) ?_
  refine r_if_ne C 40 rfl (dk_at dk_M_testOf_0 19 rfl) (fun c3 => ?_) (fun c3 => ?_)
  · replace h := h.1 c3
    refine r_lv [1, 2] rfl ?_
    exact t_M_testOf_j40 C hL hr0 hr_bothOf ho_bothOf k6 h
  · replace h := h.2 c3
    refine r_iload_n C 0 rfl (dk_at dk_M_testOf_0 20 rfl) ?_
    refine r_if_eq C 44 rfl (dk_at dk_M_testOf_0 21 rfl) (fun c4 => ?_) (fun c4 => ?_)
    · replace h := h.1 c4
      refine r_iconst C 0 (dk_at dk_M_testOf_0 24 rfl) ?_
      refine r_istore_n C [(2, .int 0), (3, .int r1), (0, .ref (wAd w 0)), (1, .int a1)] rfl rfl (dk_at dk_M_testOf_0 25 rfl) ?_
      refine r_goto C 6 rfl (dk_at dk_M_testOf_0 26 rfl) ?_
      refine r_lv [2, 3, 0] rfl ?_
      exact k6 _ _ h
    · replace h := h.2 c4
      refine r_lv [1, 2] rfl ?_
      exact t_M_testOf_j40 C hL hr0 hr_bothOf ho_bothOf k6 h
set_option maxRecDepth 20000 in
theorem t_M_testOf_j27 {o_bothOf : DD → Int32 → (Int32 → DD → Prop) → Prop} {f0 q0 f_bothOf q_bothOf : Nat} {X : CT} {w : WO} (C : CF X w (lim0 w) 4 cX11_testOf RX11 (some .boolean) (.code yX11_testOf cX11_testOf 4 (some .boolean)) (rmK f0 q0)) (hL : LyM w) (hr0 : 2 ≤ f0 ∧ 43 ≤ q0) (hr_bothOf : f_bothOf + 1 ≤ f0 ∧ 8 + (4 + 11) + q_bothOf ≤ q0) (ho_bothOf : ∀ (σ : DD) (a1 : Int32) (post : Int32 → DD → Prop), o_bothOf σ a1 post → MI X.l w yX11_bothOf cX11_bothOf 4 .boolean (rmK f_bothOf q_bothOf) σ [.ref (wAd w 0), .int a1] post) {K6 : DD → Int32 → Prop} {post : Int32 → DD → Prop} {a1 : Int32} {a2 : Int32} (k6 : ∀ (σ : DD) (a2 : Int32), K6 σ a2 → gW X w (lim0 w) 4 (QI X w post) σ 6 [(0, .ref (wAd w 0)), (1, .int a1), (2, .int a2)] []) {σ : DD} (h : w_M_testOf_j27 o_bothOf K6 post σ a1 a2) : gW X w (lim0 w) 4 (QI X w post) σ 27 [(0, .ref (wAd w 0)), (1, .int a1), (2, .int a2)] [.ref (wAd w 0)] := by
  unfold w_M_testOf_j27 at h
  refine r_iconst C 0 (dk_at dk_M_testOf_0 15 rfl) ?_
  refine r_lv [0, 1, 2] rfl ?_
  exact t_M_testOf_j28 C hL hr0 hr_bothOf ho_bothOf k6 h
set_option maxRecDepth 20000 in
theorem t_M_testOf_b6 {o_bothOf : DD → Int32 → (Int32 → DD → Prop) → Prop} {f0 q0 f_bothOf q_bothOf : Nat} {X : CT} {w : WO} (C : CF X w (lim0 w) 4 cX11_testOf RX11 (some .boolean) (.code yX11_testOf cX11_testOf 4 (some .boolean)) (rmK f0 q0)) (hL : LyM w) (hr0 : 2 ≤ f0 ∧ 43 ≤ q0) (hr_bothOf : f_bothOf + 1 ≤ f0 ∧ 8 + (4 + 11) + q_bothOf ≤ q0) (ho_bothOf : ∀ (σ : DD) (a1 : Int32) (post : Int32 → DD → Prop), o_bothOf σ a1 post → MI X.l w yX11_bothOf cX11_bothOf 4 .boolean (rmK f_bothOf q_bothOf) σ [.ref (wAd w 0), .int a1] post) {a1 : Int32} {K6 : DD → Int32 → Prop} {post : Int32 → DD → Prop} (k6 : ∀ (σ : DD) (a2 : Int32), K6 σ a2 → gW X w (lim0 w) 4 (QI X w post) σ 6 [(0, .ref (wAd w 0)), (1, .int a1), (2, .int a2)] []) {σ : DD} {a2 : Int32} (h : w_M_testOf_b6 o_bothOf a1 K6 post σ a2) : gW X w (lim0 w) 4 (QI X w post) σ 6 [(0, .ref (wAd w 0)), (1, .int a1), (2, .int a2)] [] := by
  unfold w_M_testOf_b6 at h
  refine r_aload_n C 0 rfl (dk_at dk_M_testOf_0 4 rfl) ?_
  refine r_iconst C 5 (dk_at dk_M_testOf_0 5 rfl) ?_
  refine r_cvI C cl_M_270 0 (hL 0 _ rfl) [.int 5] (m_M_passes0 hL h) (rmK_ok2 (f := f0) (q := q0) (f' := 1) (q' := 21) (by omega) (by omega)) rfl rfl (Nat.le_of_ble_eq_true rfl) (dk_at dk_M_testOf_0 6 rfl) (fun r5 σ6 h => ?_)
  refine r_if_eq C 49 rfl (dk_at dk_M_testOf_0 7 rfl) (fun c7 => ?_) (fun c7 => ?_)
  · replace h := h.1 c7
    refine r_iload_n C 2 rfl (dk_at dk_M_testOf_0 27 rfl) ?_
    exact r_zret C h.1 h.2 (dk_at dk_M_testOf_0 28 rfl)
  · replace h := h.2 c7
    refine r_aload_n C 0 rfl (dk_at dk_M_testOf_0 8 rfl) ?_
    refine r_iload_n C 1 rfl (dk_at dk_M_testOf_0 9 rfl) ?_
    refine r_if_eq C 27 rfl (dk_at dk_M_testOf_0 10 rfl) (fun c8 => ?_) (fun c8 => ?_)
    · replace h := h.1 c8
      refine r_lv [0, 1, 2] rfl ?_
      exact t_M_testOf_j27 C hL hr0 hr_bothOf ho_bothOf k6 h
    · replace h := h.2 c8
      refine r_iload_n C 2 rfl (dk_at dk_M_testOf_0 11 rfl) ?_
      refine r_if_ne C 27 rfl (dk_at dk_M_testOf_0 12 rfl) (fun c9 => ?_) (fun c9 => ?_)
      · replace h := h.1 c9
        refine r_lv [0, 1, 2] rfl ?_
        exact t_M_testOf_j27 C hL hr0 hr_bothOf ho_bothOf k6 h
      · replace h := h.2 c9
        refine r_iconst C 1 (dk_at dk_M_testOf_0 13 rfl) ?_
        refine r_goto C 28 rfl (dk_at dk_M_testOf_0 14 rfl) ?_
        refine r_lv [0, 1, 2] rfl ?_
        exact t_M_testOf_j28 C hL hr0 hr_bothOf ho_bothOf k6 h
set_option maxRecDepth 20000 in
theorem t_M_testOf_l6 {o_bothOf : DD → Int32 → (Int32 → DD → Prop) → Prop} {f0 q0 f_bothOf q_bothOf : Nat} {X : CT} {w : WO} (C : CF X w (lim0 w) 4 cX11_testOf RX11 (some .boolean) (.code yX11_testOf cX11_testOf 4 (some .boolean)) (rmK f0 q0)) (hL : LyM w) (hr0 : 2 ≤ f0 ∧ 43 ≤ q0) (hr_bothOf : f_bothOf + 1 ≤ f0 ∧ 8 + (4 + 11) + q_bothOf ≤ q0) (ho_bothOf : ∀ (σ : DD) (a1 : Int32) (post : Int32 → DD → Prop), o_bothOf σ a1 post → MI X.l w yX11_bothOf cX11_bothOf 4 .boolean (rmK f_bothOf q_bothOf) σ [.ref (wAd w 0), .int a1] post) {a1 : Int32} {post : Int32 → DD → Prop} {σ : DD} {a2 : Int32} (h : w_M_testOf_l6 o_bothOf post σ a1 a2) : gW X w (lim0 w) 4 (QI X w post) σ 6 [(0, .ref (wAd w 0)), (1, .int a1), (2, .int a2)] [] :=
  LoopW (G := fun x : DD × Int32 => gW X w (lim0 w) 4 (QI X w post) x.1 6 [(0, .ref (wAd w 0)), (1, .int a1), (2, .int x.2)] []) (fun K x hK hF => t_M_testOf_b6 C hL hr0 hr_bothOf ho_bothOf (fun σ a2 q => hK (σ, a2) q) hF) h
set_option maxRecDepth 20000 in
theorem m_M_testOf_o {l : Launch} {w : WO} (hL : LyM w) {o_bothOf : DD → Int32 → (Int32 → DD → Prop) → Prop} {f0 q0 f_bothOf q_bothOf : Nat} (hr0 : 2 ≤ f0 ∧ 43 ≤ q0) (hr_bothOf : f_bothOf + 1 ≤ f0 ∧ 8 + (4 + 11) + q_bothOf ≤ q0) (ho_bothOf : ∀ (σ : DD) (a1 : Int32) (post : Int32 → DD → Prop), o_bothOf σ a1 post → MI l w yX11_bothOf cX11_bothOf 4 .boolean (rmK f_bothOf q_bothOf) σ [.ref (wAd w 0), .int a1] post) {σ : DD} {a1 : Int32} {post : Int32 → DD → Prop} (h : w_M_testOf_o o_bothOf σ a1 post) : MI l w yX11_testOf cX11_testOf 4 .boolean (rmK f0 q0) σ [.ref (wAd w 0), .int a1] post :=
  met_head (rt := (some .boolean)) (by decide) rfl (fun X hX C => by
  subst hX
  unfold w_M_testOf_o at h
  show gW X w (lim0 w) 4 (QI X w post) σ 0 [(0, .ref (wAd w 0)), (1, .int a1)] []
  refine r_aload_n C 0 rfl (dk_at dk_M_testOf_0 0 rfl) ?_
  refine r_iload_n C 1 rfl (dk_at dk_M_testOf_0 1 rfl) ?_
  refine r_cvI C cl_M_276 0 (hL 0 _ rfl) [.int a1] (ho_bothOf _ _ _ h) (rmK_ok2 hr_bothOf.1 hr_bothOf.2) rfl rfl (Nat.le_of_ble_eq_true rfl) (dk_at dk_M_testOf_0 2 rfl) (fun r10 σ11 h => ?_)
  refine r_istore_n C [(2, .int r10), (0, .ref (wAd w 0)), (1, .int a1)] rfl rfl (dk_at dk_M_testOf_0 3 rfl) ?_
  refine r_lv [1, 2, 0] rfl ?_
  exact t_M_testOf_l6 C hL hr0 hr_bothOf ho_bothOf h
  )
set_option maxRecDepth 20000 in
theorem m_M_testOf_d {l : Launch} {w : WO} (hL : LyM w) : ∀ d : Nat, ∀ (σ : DD) (a1 : Int32) (post : Int32 → DD → Prop), w_M_testOf_d d σ a1 post → MI l w yX11_testOf cX11_testOf 4 .boolean (rmK (39 + 4 * d) (969 + 94 * d)) σ [.ref (wAd w 0), .int a1] post := by
  intro d
  induction d with
  | zero => exact fun _ _ _ h => h.elim
  | succ n ih =>
    rw [show 39 + 4 * (n + 1) = 39 + 4 * n + 4 by omega, show 969 + 94 * (n + 1) = 969 + 94 * n + 94 by omega]
    exact (fun _ _ _ h => m_M_testOf_o hL (f0 := 39 + 4 * n + 4) (q0 := 969 + 94 * n + 94) (f_bothOf := 39 + 4 * n + 3) (q_bothOf := 969 + 94 * n + 71) (by omega) (by omega) (fun _ _ _ h => m_M_bothOf_o hL (f0 := 39 + 4 * n + 3) (q0 := 969 + 94 * n + 71) (f_plainOf := 39 + 4 * n + 2) (q_plainOf := 969 + 94 * n + 49) (by omega) (by omega) (fun _ _ _ h => m_M_plainOf_o hL (f0 := 39 + 4 * n + 2) (q0 := 969 + 94 * n + 49) (f_positiveOf := 39 + 4 * n + 1) (q_positiveOf := 969 + 94 * n + 23) (by omega) (by omega) (fun _ _ _ h => m_M_positiveOf_o hL (f0 := 39 + 4 * n + 1) (q0 := 969 + 94 * n + 23) (f_testOf := 39 + 4 * n + 0) (q_testOf := 969 + 94 * n + 0) (by omega) (by omega) ih h) h) h) h)
set_option maxRecDepth 20000 in
theorem m_M_testOf {l : Launch} {w : WO} (hL : LyM w) {σ : DD} {a1 : Int32} {post : Int32 → DD → Prop} (h : w_M_testOf σ a1 post) : MI l w yX11_testOf cX11_testOf 4 .boolean (rmK 87 2097) σ [.ref (wAd w 0), .int a1] post :=
  m_M_testOf_d hL 12 _ _ _ h
set_option maxRecDepth 20000 in
theorem t_M_tells_j307 {X : CT} {w : WO} (C : CF X w (lim0 w) 13 cX11_tells RX11 (some .int) (.code yX11_tells cX11_tells 13 (some .int)) (rmK 88 2120)) (hL : LyM w) {K167 : DD → Int64 → Prop} {post : Int32 → DD → Prop} {a1 : Int32} {a6 : Int64} (k167 : ∀ (σ : DD) (a6 : Int64), K167 σ a6 → gW X w (lim0 w) 13 (QI X w post) σ 167 [(0, .ref (wAd w 0)), (1, .int a1), (6, .long a6)] []) {σ : DD} (h : w_M_tells_j307 K167 post σ a1 a6) : gW X w (lim0 w) 13 (QI X w post) σ 307 [(0, .ref (wAd w 0)), (1, .int a1), (6, .long a6)] [] := by
  unfold w_M_tells_j307 at h
  refine r_aload_n C 0 rfl (dk_at dk_M_tells_4 10 rfl) ?_
  refine r_dup C rfl (dk_at dk_M_tells_4 11 rfl) ?_
  refine r_getI C fl_M_246 0 (hL 0 _ rfl) rfl (dk_at dk_M_tells_4 12 rfl) ?_
  refine r_iconst C 1 (dk_at dk_M_tells_4 13 rfl) ?_
  refine r_iadd C (dk_at dk_M_tells_4 14 rfl) ?_
  refine r_putI C fl_M_246 0 (hL 0 _ rfl) rfl (dk_at dk_M_tells_4 15 rfl) (r_sg (fun σ1 e2 => ?_))
  replace h := h σ1 e2
  refine r_goto C 167 rfl (dk_at dk_M_tells_4 16 rfl) ?_
  refine r_lv [0, 1, 2] rfl ?_
  exact k167 _ _ h
set_option maxRecDepth 20000 in
theorem t_M_tells_j305 {X : CT} {w : WO} (C : CF X w (lim0 w) 13 cX11_tells RX11 (some .int) (.code yX11_tells cX11_tells 13 (some .int)) (rmK 88 2120)) (hL : LyM w) {K167 : DD → Int64 → Prop} {post : Int32 → DD → Prop} {a1 : Int32} {t0 : Int64} (k167 : ∀ (σ : DD) (a6 : Int64), K167 σ a6 → gW X w (lim0 w) 13 (QI X w post) σ 167 [(0, .ref (wAd w 0)), (1, .int a1), (6, .long a6)] []) {σ : DD} (h : w_M_tells_j305 K167 post σ a1 t0) : gW X w (lim0 w) 13 (QI X w post) σ 305 [(0, .ref (wAd w 0)), (1, .int a1)] [.long t0] := by
  unfold w_M_tells_j305 at h
  refine r_lstore C [(6, .long t0), (0, .ref (wAd w 0)), (1, .int a1)] rfl rfl (dk_at dk_M_tells_4 9 rfl) ?_
  refine r_lv [1, 2, 0] rfl ?_
  exact t_M_tells_j307 C hL k167 h
set_option maxRecDepth 20000 in
theorem t_M_tells_j252 {X : CT} {w : WO} (C : CF X w (lim0 w) 13 cX11_tells RX11 (some .int) (.code yX11_tells cX11_tells 13 (some .int)) (rmK 88 2120)) (hL : LyM w) {K167 : DD → Int64 → Prop} {post : Int32 → DD → Prop} {a1 : Int32} {a6 : Int64} {a8 : Int32} {a9 : Int64} {a11 : Int32} {t0 : Int32} (k167 : ∀ (σ : DD) (a6 : Int64), K167 σ a6 → gW X w (lim0 w) 13 (QI X w post) σ 167 [(0, .ref (wAd w 0)), (1, .int a1), (6, .long a6)] []) {σ : DD} (h : w_M_tells_j252 K167 post σ a1 a6 a8 a9 a11 t0) : gW X w (lim0 w) 13 (QI X w post) σ 252 [(0, .ref (wAd w 0)), (1, .int a1), (6, .long a6), (8, .int a8), (9, .long a9), (11, .int a11)] [.int t0] := by
  unfold w_M_tells_j252 at h
  refine r_istore C [(12, .int t0), (0, .ref (wAd w 0)), (1, .int a1), (6, .long a6), (8, .int a8), (9, .long a9), (11, .int a11)] rfl rfl (dk_at dk_M_tells_3 25 rfl) ?_
  refine r_iload C 4 rfl (dk_at dk_M_tells_3 26 rfl) ?_
  refine r_iload_n C 2 rfl (dk_at dk_M_tells_3 27 rfl) ?_
  refine r_icmp_ne C 307 rfl (dk_at dk_M_tells_3 28 rfl) (fun c3 => ?_) (fun c3 => ?_)
  · replace h := h.1 c3
    refine r_lv [1, 2, 3] rfl ?_
    exact t_M_tells_j307 C hL k167 h
  · replace h := h.2 c3
    refine r_iload C 0 rfl (dk_at dk_M_tells_3 29 rfl) ?_
    refine r_if_eq C 307 rfl (dk_at dk_M_tells_3 30 rfl) (fun c4 => ?_) (fun c4 => ?_)
    · replace h := h.1 c4
      refine r_lv [1, 2, 3] rfl ?_
      exact t_M_tells_j307 C hL k167 h
    · replace h := h.2 c4
      refine r_aload_n C 1 rfl (dk_at dk_M_tells_3 31 rfl) ?_
      refine r_getI C fl_M_256 0 (hL 0 _ rfl) rfl (dk_at dk_M_tells_3 32 rfl) ?_
      refine r_if_ne C 307 rfl (dk_at dk_M_tells_3 33 rfl) (fun c5 => ?_) (fun c5 => ?_)
      · replace h := h.1 c5
        refine r_lv [1, 2, 3] rfl ?_
        exact t_M_tells_j307 C hL k167 h
      · replace h := h.2 c5
        refine r_iload C 6 rfl (dk_at dk_M_tells_3 34 rfl) ?_
        refine r_if_ne C 307 rfl (dk_at dk_M_tells_3 35 rfl) (fun c6 => ?_) (fun c6 => ?_)
        · replace h := h.1 c6
          refine r_lv [1, 2, 3] rfl ?_
          exact t_M_tells_j307 C hL k167 h
        · replace h := h.2 c6
          refine r_lload C 5 rfl (dk_at dk_M_tells_3 36 rfl) ?_
          refine r_lconst C 0 (dk_at dk_M_tells_3 37 rfl) ?_
          refine r_lcmp C (dk_at dk_M_tells_3 38 rfl) ?_
          refine r_if_ge C 288 rfl (dk_at dk_M_tells_3 39 rfl) (fun c7 => ?_) (fun c7 => ?_)
          · replace h := h.1 c7
            refine r_lload C 5 rfl (dk_at dk_M_tells_4 2 rfl) ?_
            refine r_ldc2 C tw_1609 (dk_at dk_M_tells_4 3 rfl) ?_
            refine r_lcmp C (dk_at dk_M_tells_4 4 rfl) ?_
            refine r_if_le C 303 rfl (dk_at dk_M_tells_4 5 rfl) (fun c8 => ?_) (fun c8 => ?_)
            · replace h := h.1 c8
              refine r_lload C 5 rfl (dk_at dk_M_tells_4 8 rfl) ?_
              refine r_lv [1, 2] rfl ?_
              exact t_M_tells_j305 C hL k167 h
            · replace h := h.2 c8
              refine r_ldc2 C tw_1609 (dk_at dk_M_tells_4 6 rfl) ?_
              refine r_goto C 305 rfl (dk_at dk_M_tells_4 7 rfl) ?_
              refine r_lv [1, 2] rfl ?_
              exact t_M_tells_j305 C hL k167 h
          · replace h := h.2 c7
            refine r_lconst C 0 (dk_at dk_M_tells_4 0 rfl) ?_
            refine r_goto C 305 rfl (dk_at dk_M_tells_4 1 rfl) ?_
            refine r_lv [1, 2] rfl ?_
            exact t_M_tells_j305 C hL k167 h
set_option maxRecDepth 20000 in
theorem t_M_tells_j247 {X : CT} {w : WO} (C : CF X w (lim0 w) 13 cX11_tells RX11 (some .int) (.code yX11_tells cX11_tells 13 (some .int)) (rmK 88 2120)) (hL : LyM w) {K167 : DD → Int64 → Prop} {post : Int32 → DD → Prop} {a1 : Int32} {a6 : Int64} {a8 : Int32} {a9 : Int64} {a11 : Int32} (k167 : ∀ (σ : DD) (a6 : Int64), K167 σ a6 → gW X w (lim0 w) 13 (QI X w post) σ 167 [(0, .ref (wAd w 0)), (1, .int a1), (6, .long a6)] []) {σ : DD} (h : w_M_tells_j247 K167 post σ a1 a6 a8 a9 a11) : gW X w (lim0 w) 13 (QI X w post) σ 247 [(0, .ref (wAd w 0)), (1, .int a1), (6, .long a6), (8, .int a8), (9, .long a9), (11, .int a11)] [] := by
  unfold w_M_tells_j247 at h
  refine r_iconst C 1 (dk_at dk_M_tells_3 22 rfl) ?_
  refine r_goto C 252 rfl (dk_at dk_M_tells_3 23 rfl) ?_
  refine r_lv [0, 1, 2, 3, 4, 5] rfl ?_
  exact t_M_tells_j252 C hL k167 h
set_option maxRecDepth 20000 in
theorem t_M_tells_j218 {X : CT} {w : WO} (C : CF X w (lim0 w) 13 cX11_tells RX11 (some .int) (.code yX11_tells cX11_tells 13 (some .int)) (rmK 88 2120)) (hL : LyM w) {K167 : DD → Int64 → Prop} {post : Int32 → DD → Prop} {a1 : Int32} {a6 : Int64} {a8 : Int32} {t0 : Int64} (k167 : ∀ (σ : DD) (a6 : Int64), K167 σ a6 → gW X w (lim0 w) 13 (QI X w post) σ 167 [(0, .ref (wAd w 0)), (1, .int a1), (6, .long a6)] []) {σ : DD} (h : w_M_tells_j218 K167 post σ a1 a6 a8 t0) : gW X w (lim0 w) 13 (QI X w post) σ 218 [(0, .ref (wAd w 0)), (1, .int a1), (6, .long a6), (8, .int a8)] [.long t0] := by
  unfold w_M_tells_j218 at h
  refine r_lstore C [(9, .long t0), (0, .ref (wAd w 0)), (1, .int a1), (6, .long a6), (8, .int a8)] rfl rfl (dk_at dk_M_tells_3 7 rfl) ?_
  refine r_aload_n C 1 rfl (dk_at dk_M_tells_3 8 rfl) ?_
  refine r_getI C fl_M_256 0 (hL 0 _ rfl) rfl (dk_at dk_M_tells_3 9 rfl) ?_
  refine r_topi (fun v9 e10 => ?_)
  replace h := h v9 e10
  refine r_istore C [(11, .int v9), (9, .long t0), (0, .ref (wAd w 0)), (1, .int a1), (6, .long a6), (8, .int a8)] rfl rfl (dk_at dk_M_tells_3 10 rfl) ?_
  refine r_aload_n C 2 rfl (dk_at dk_M_tells_3 11 rfl) ?_
  refine r_iconst C 0 (dk_at dk_M_tells_3 12 rfl) ?_
  refine r_putZ C fl_M_256 0 (hL 0 _ rfl) rfl (Or.inl rfl) (dk_at dk_M_tells_3 13 rfl) (r_sg (fun σ11 e12 => ?_))
  replace h := h σ11 e12
  refine r_aload_n C 2 rfl (dk_at dk_M_tells_3 14 rfl) ?_
  refine r_iconst C 4 (dk_at dk_M_tells_3 15 rfl) ?_
  refine r_cvI C cl_M_270 0 (hL 0 _ rfl) [.int 4] (m_M_passes0 hL h) (rmK_ok rfl rfl) rfl rfl (Nat.le_of_ble_eq_true rfl) (dk_at dk_M_tells_3 16 rfl) (fun r13 σ14 h => ?_)
  refine r_if_eq C 247 rfl (dk_at dk_M_tells_3 17 rfl) (fun c15 => ?_) (fun c15 => ?_)
  · replace h := h.1 c15
    refine r_lv [2, 3, 4, 5, 1, 0] rfl ?_
    exact t_M_tells_j247 C hL k167 h
  · replace h := h.2 c15
    refine r_aload_n C 2 rfl (dk_at dk_M_tells_3 18 rfl) ?_
    refine r_iconst C 1 (dk_at dk_M_tells_3 19 rfl) ?_
    refine r_cvI C cl_M_285 0 (hL 0 _ rfl) [.int 1] (m_M_testOf hL h) (rmK_ok rfl rfl) rfl rfl (Nat.le_of_ble_eq_true rfl) (dk_at dk_M_tells_3 20 rfl) (fun r16 σ17 h => ?_)
    refine r_if_eq C 251 rfl (dk_at dk_M_tells_3 21 rfl) (fun c18 => ?_) (fun c18 => ?_)
    · replace h := h.1 c18
      refine r_iconst C 0 (dk_at dk_M_tells_3 24 rfl) ?_
      refine r_lv [2, 3, 4, 5, 1, 0] rfl ?_
      exact t_M_tells_j252 C hL k167 h
    · replace h := h.2 c18
      refine r_lv [2, 3, 4, 5, 1, 0] rfl ?_
      exact t_M_tells_j247 C hL k167 h
set_option maxRecDepth 20000 in
theorem t_M_tells_b167 {X : CT} {w : WO} (C : CF X w (lim0 w) 13 cX11_tells RX11 (some .int) (.code yX11_tells cX11_tells 13 (some .int)) (rmK 88 2120)) (hL : LyM w) {a1 : Int32} {K167 : DD → Int64 → Prop} {post : Int32 → DD → Prop} (k167 : ∀ (σ : DD) (a6 : Int64), K167 σ a6 → gW X w (lim0 w) 13 (QI X w post) σ 167 [(0, .ref (wAd w 0)), (1, .int a1), (6, .long a6)] []) {σ : DD} {a6 : Int64} (h : w_M_tells_b167 a1 K167 post σ a6) : gW X w (lim0 w) 13 (QI X w post) σ 167 [(0, .ref (wAd w 0)), (1, .int a1), (6, .long a6)] [] := by
  unfold w_M_tells_b167 at h
  refine r_aload_n C 0 rfl (dk_at dk_M_tells_2 20 rfl) ?_
  refine r_getI C fl_M_246 0 (hL 0 _ rfl) rfl (dk_at dk_M_tells_2 21 rfl) ?_
  refine r_aload_n C 0 rfl (dk_at dk_M_tells_2 22 rfl) ?_
  refine r_getI C fl_M_243 0 (hL 0 _ rfl) rfl (dk_at dk_M_tells_2 23 rfl) ?_
  refine r_icmp_ge C 320 rfl (dk_at dk_M_tells_2 24 rfl) (fun c19 => ?_) (fun c19 => ?_)
  · replace h := h.1 c19
    refine r_lload C 2 rfl (dk_at dk_M_tells_4 17 rfl) ?_
    refine r_l2i C (dk_at dk_M_tells_4 18 rfl) ?_
    exact r_iret C h (dk_at dk_M_tells_4 19 rfl)
  · replace h := h.2 c19
    refine r_aload_n C 0 rfl (dk_at dk_M_tells_2 25 rfl) ?_
    refine r_aload_n C 0 rfl (dk_at dk_M_tells_2 26 rfl) ?_
    refine r_getI C fl_M_246 0 (hL 0 _ rfl) rfl (dk_at dk_M_tells_2 27 rfl) ?_
    refine r_cvI C cl_M_249 0 (hL 0 _ rfl) [.int (gI σ 0 22)] (m_M_codeAt hL h) (rmK_ok rfl rfl) rfl rfl (Nat.le_of_ble_eq_true rfl) (dk_at dk_M_tells_2 28 rfl) (fun r20 σ21 h => ?_)
    refine r_istore C [(8, .int r20), (0, .ref (wAd w 0)), (1, .int a1), (6, .long a6)] rfl rfl (dk_at dk_M_tells_2 29 rfl) ?_
    refine r_aload_n C 1 rfl (dk_at dk_M_tells_2 30 rfl) ?_
    refine r_iconst C 0 (dk_at dk_M_tells_2 31 rfl) ?_
    refine r_putZ C fl_M_256 0 (hL 0 _ rfl) rfl (Or.inl rfl) (dk_at dk_M_tells_2 32 rfl) (r_sg (fun σ22 e23 => ?_))
    replace h := h σ22 e23
    refine r_aload_n C 1 rfl (dk_at dk_M_tells_2 33 rfl) ?_
    refine r_dup C rfl (dk_at dk_M_tells_2 34 rfl) ?_
    refine r_getI C fl_M_246 0 (hL 0 _ rfl) rfl (dk_at dk_M_tells_2 35 rfl) ?_
    refine r_iconst C 1 (dk_at dk_M_tells_2 36 rfl) ?_
    refine r_iadd C (dk_at dk_M_tells_2 37 rfl) ?_
    refine r_putI C fl_M_246 0 (hL 0 _ rfl) rfl (dk_at dk_M_tells_2 38 rfl) (r_sg (fun σ24 e25 => ?_))
    replace h := h σ24 e25
    refine r_iload C 0 rfl (dk_at dk_M_tells_2 39 rfl) ?_
    refine r_iconst C 3 (dk_at dk_M_tells_3 0 rfl) ?_
    refine r_icmp_ne C 213 rfl (dk_at dk_M_tells_3 1 rfl) (fun c26 => ?_) (fun c26 => ?_)
    · replace h := h.1 c26
      refine r_aload_n C 1 rfl (dk_at dk_M_tells_3 4 rfl) ?_
      refine r_iconst C 1 (dk_at dk_M_tells_3 5 rfl) ?_
      refine r_cvL C cl_M_273 0 (hL 0 _ rfl) [.int 1] (m_M_sumOf hL h) (rmK_ok rfl rfl) rfl rfl (Nat.le_of_ble_eq_true rfl) (dk_at dk_M_tells_3 6 rfl) (fun r27 σ28 h => ?_)
      refine r_lv [1, 2, 3, 0] rfl ?_
      exact t_M_tells_j218 C hL k167 h
    · replace h := h.2 c26
      refine r_lconst C 1 (dk_at dk_M_tells_3 2 rfl) ?_
      refine r_goto C 218 rfl (dk_at dk_M_tells_3 3 rfl) ?_
      refine r_lv [1, 2, 3, 0] rfl ?_
      exact t_M_tells_j218 C hL k167 h
set_option maxRecDepth 20000 in
theorem t_M_tells_l167 {X : CT} {w : WO} (C : CF X w (lim0 w) 13 cX11_tells RX11 (some .int) (.code yX11_tells cX11_tells 13 (some .int)) (rmK 88 2120)) (hL : LyM w) {a1 : Int32} {post : Int32 → DD → Prop} {σ : DD} {a6 : Int64} (h : w_M_tells_l167 post σ a1 a6) : gW X w (lim0 w) 13 (QI X w post) σ 167 [(0, .ref (wAd w 0)), (1, .int a1), (6, .long a6)] [] :=
  LoopW (G := fun x : DD × Int64 => gW X w (lim0 w) 13 (QI X w post) x.1 167 [(0, .ref (wAd w 0)), (1, .int a1), (6, .long x.2)] []) (fun K x hK hF => t_M_tells_b167 C hL (fun σ a6 q => hK (σ, a6) q) hF) h
set_option maxRecDepth 20000 in
theorem m_M_tells {l : Launch} {w : WO} (hL : LyM w) {σ : DD} {a1 : Int32} {a2 : Int32} {a3 : Int32} {a4 : Int32} {a5 : Int32} {post : Int32 → DD → Prop} (h : w_M_tells σ a1 a2 a3 a4 a5 post) : MI l w yX11_tells cX11_tells 13 .int (rmK 88 2120) σ [.ref (wAd w 0), .int a1, .int a2, .int a3, .int a4, .int a5] post :=
  met_head (rt := (some .int)) (by decide) rfl (fun X hX C => by
  subst hX
  unfold w_M_tells at h
  show gW X w (lim0 w) 13 (QI X w post) σ 0 [(0, .ref (wAd w 0)), (1, .int a1), (2, .int a2), (3, .int a3), (4, .int a4), (5, .int a5)] []
  refine r_aload_n C 0 rfl (dk_at dk_M_tells_0 0 rfl) ?_
  refine r_getR C fl_M_20 0 (hL 0 _ rfl) rfl (dk_at dk_M_tells_0 1 rfl) ?_
  refine r_sipush C 404 (dk_at dk_M_tells_0 2 rfl) ?_
  refine r_ialdK C 4 (hL 4 _ rfl) lk_404 (vk_404_6012) (dk_at dk_M_tells_0 3 rfl) ?_
  refine r_iconst C (-1) (dk_at dk_M_tells_0 4 rfl) ?_
  refine r_icmp_ne C 15 rfl (dk_at dk_M_tells_0 5 rfl) (fun c29 => ?_) (fun c29 => ?_)
  · replace h := h.1 c29
    refine r_aload_n C 0 rfl (dk_at dk_M_tells_0 8 rfl) ?_
    refine r_getR C fl_M_52 0 (hL 0 _ rfl) rfl (dk_at dk_M_tells_0 9 rfl) ?_
    refine r_iconst C 0 (dk_at dk_M_tells_0 10 rfl) ?_
    refine r_iload_n C 2 rfl (dk_at dk_M_tells_0 11 rfl) ?_
    refine r_iastK C 26 (hL 26 _ rfl) lk_0 vk_0_8 (dk_at dk_M_tells_0 12 rfl) (r_sg (fun σ30 e31 => ?_))
    replace h := h σ30 e31
    refine r_aload_n C 0 rfl (dk_at dk_M_tells_0 13 rfl) ?_
    refine r_getR C fl_M_52 0 (hL 0 _ rfl) rfl (dk_at dk_M_tells_0 14 rfl) ?_
    refine r_iconst C 1 (dk_at dk_M_tells_0 15 rfl) ?_
    refine r_aload_n C 0 rfl (dk_at dk_M_tells_0 16 rfl) ?_
    refine r_iload_n C 2 rfl (dk_at dk_M_tells_0 17 rfl) ?_
    refine r_iconst C 0 (dk_at dk_M_tells_0 18 rfl) ?_
    refine r_cvI C cl_M_124 0 (hL 0 _ rfl) [.int a2, .int 0] (m_M_fact hL h) (rmK_ok rfl rfl) rfl rfl (Nat.le_of_ble_eq_true rfl) (dk_at dk_M_tells_0 19 rfl) (fun r32 σ33 h => ?_)
    refine r_iastK C 26 (hL 26 _ rfl) lk_1 vk_1_8 (dk_at dk_M_tells_0 20 rfl) (r_sg (fun σ34 e35 => ?_))
    replace h := h σ34 e35
    refine r_aload_n C 0 rfl (dk_at dk_M_tells_0 21 rfl) ?_
    refine r_getR C fl_M_52 0 (hL 0 _ rfl) rfl (dk_at dk_M_tells_0 22 rfl) ?_
    refine r_iconst C 2 (dk_at dk_M_tells_0 23 rfl) ?_
    refine r_aload_n C 0 rfl (dk_at dk_M_tells_0 24 rfl) ?_
    refine r_iload_n C 2 rfl (dk_at dk_M_tells_0 25 rfl) ?_
    refine r_iconst C 1 (dk_at dk_M_tells_0 26 rfl) ?_
    refine r_cvI C cl_M_124 0 (hL 0 _ rfl) [.int a2, .int 1] (m_M_fact hL h) (rmK_ok rfl rfl) rfl rfl (Nat.le_of_ble_eq_true rfl) (dk_at dk_M_tells_0 27 rfl) (fun r36 σ37 h => ?_)
    refine r_iastK C 26 (hL 26 _ rfl) lk_2 vk_2_8 (dk_at dk_M_tells_0 28 rfl) (r_sg (fun σ38 e39 => ?_))
    replace h := h σ38 e39
    refine r_aload_n C 0 rfl (dk_at dk_M_tells_0 29 rfl) ?_
    refine r_getR C fl_M_52 0 (hL 0 _ rfl) rfl (dk_at dk_M_tells_0 30 rfl) ?_
    refine r_iconst C 3 (dk_at dk_M_tells_0 31 rfl) ?_
    refine r_aload_n C 0 rfl (dk_at dk_M_tells_0 32 rfl) ?_
    refine r_iload_n C 2 rfl (dk_at dk_M_tells_0 33 rfl) ?_
    refine r_iconst C 2 (dk_at dk_M_tells_0 34 rfl) ?_
    refine r_cvI C cl_M_124 0 (hL 0 _ rfl) [.int a2, .int 2] (m_M_fact hL h) (rmK_ok rfl rfl) rfl rfl (Nat.le_of_ble_eq_true rfl) (dk_at dk_M_tells_0 35 rfl) (fun r40 σ41 h => ?_)
    refine r_csI C cs_M_288 [.int r40] (m_M_ones hL h) (rmK_ok rfl rfl) rfl rfl (Nat.le_of_ble_eq_true rfl) (dk_at dk_M_tells_0 36 rfl) (fun r42 σ43 h => ?_)
    refine r_iastK C 26 (hL 26 _ rfl) lk_3 vk_3_8 (dk_at dk_M_tells_0 37 rfl) (r_sg (fun σ44 e45 => ?_))
    replace h := h σ44 e45
    refine r_aload_n C 0 rfl (dk_at dk_M_tells_0 38 rfl) ?_
    refine r_getR C fl_M_52 0 (hL 0 _ rfl) rfl (dk_at dk_M_tells_0 39 rfl) ?_
    refine r_iconst C 4 (dk_at dk_M_tells_1 0 rfl) ?_
    refine r_iload_n C 3 rfl (dk_at dk_M_tells_1 1 rfl) ?_
    refine r_iastK C 26 (hL 26 _ rfl) lk_4 vk_4_8 (dk_at dk_M_tells_1 2 rfl) (r_sg (fun σ46 e47 => ?_))
    replace h := h σ46 e47
    refine r_aload_n C 0 rfl (dk_at dk_M_tells_1 3 rfl) ?_
    refine r_getR C fl_M_52 0 (hL 0 _ rfl) rfl (dk_at dk_M_tells_1 4 rfl) ?_
    refine r_iconst C 5 (dk_at dk_M_tells_1 5 rfl) ?_
    refine r_aload_n C 0 rfl (dk_at dk_M_tells_1 6 rfl) ?_
    refine r_getR C fl_M_20 0 (hL 0 _ rfl) rfl (dk_at dk_M_tells_1 7 rfl) ?_
    refine r_bipush C 96 (dk_at dk_M_tells_1 8 rfl) ?_
    refine r_iconst C 2 (dk_at dk_M_tells_1 9 rfl) ?_
    refine r_iload_n C 3 rfl (dk_at dk_M_tells_1 10 rfl) ?_
    refine r_imul C (dk_at dk_M_tells_1 11 rfl) ?_
    refine r_iadd C (dk_at dk_M_tells_1 12 rfl) ?_
    refine r_iconst C 1 (dk_at dk_M_tells_1 13 rfl) ?_
    refine r_iadd C (dk_at dk_M_tells_1 14 rfl) ?_
    obtain ⟨q48, h⟩ := h
    refine r_iald C 4 (hL 4 _ rfl) q48 (dk_at dk_M_tells_1 15 rfl) ?_
    refine r_iastK C 26 (hL 26 _ rfl) lk_5 vk_5_8 (dk_at dk_M_tells_1 16 rfl) (r_sg (fun σ49 e50 => ?_))
    replace h := h σ49 e50
    refine r_aload_n C 0 rfl (dk_at dk_M_tells_1 17 rfl) ?_
    refine r_getR C fl_M_52 0 (hL 0 _ rfl) rfl (dk_at dk_M_tells_1 18 rfl) ?_
    refine r_bipush C 6 (dk_at dk_M_tells_1 19 rfl) ?_
    refine r_iload C 4 rfl (dk_at dk_M_tells_1 20 rfl) ?_
    refine r_bipush C 7 (dk_at dk_M_tells_1 21 rfl) ?_
    refine r_irem C (by decide) (dk_at dk_M_tells_1 22 rfl) ?_
    refine r_iastK C 26 (hL 26 _ rfl) lk_6 vk_6_8 (dk_at dk_M_tells_1 23 rfl) (r_sg (fun σ51 e52 => ?_))
    replace h := h σ51 e52
    refine r_aload_n C 0 rfl (dk_at dk_M_tells_1 24 rfl) ?_
    refine r_getR C fl_M_52 0 (hL 0 _ rfl) rfl (dk_at dk_M_tells_1 25 rfl) ?_
    refine r_bipush C 7 (dk_at dk_M_tells_1 26 rfl) ?_
    refine r_aload_n C 0 rfl (dk_at dk_M_tells_1 27 rfl) ?_
    refine r_getR C fl_M_20 0 (hL 0 _ rfl) rfl (dk_at dk_M_tells_1 28 rfl) ?_
    refine r_sipush C 398 (dk_at dk_M_tells_1 29 rfl) ?_
    refine r_ialdK C 4 (hL 4 _ rfl) lk_398 (vk_398_6012) (dk_at dk_M_tells_1 30 rfl) ?_
    refine r_iastK C 26 (hL 26 _ rfl) lk_7 vk_7_8 (dk_at dk_M_tells_1 31 rfl) (r_sg (fun σ53 e54 => ?_))
    replace h := h σ53 e54
    refine r_aload_n C 0 rfl (dk_at dk_M_tells_1 32 rfl) ?_
    refine r_bipush C 8 (dk_at dk_M_tells_1 33 rfl) ?_
    refine r_putI C fl_M_218 0 (hL 0 _ rfl) rfl (dk_at dk_M_tells_1 34 rfl) (r_sg (fun σ55 e56 => ?_))
    replace h := h σ55 e56
    refine r_iload C 5 rfl (dk_at dk_M_tells_1 35 rfl) ?_
    refine r_i2l C (dk_at dk_M_tells_1 36 rfl) ?_
    refine r_topl (fun v57 e58 => ?_)
    replace h := h v57 e58
    refine r_lstore C [(6, .long v57), (0, .ref (wAd w 0)), (1, .int a1), (2, .int a2), (3, .int a3), (4, .int a4), (5, .int a5)] rfl rfl (dk_at dk_M_tells_1 37 rfl) ?_
    refine r_aload_n C 1 rfl (dk_at dk_M_tells_1 38 rfl) ?_
    refine r_sipush C 400 (dk_at dk_M_tells_1 39 rfl) ?_
    refine r_aload_n C 1 rfl (dk_at dk_M_tells_2 0 rfl) ?_
    refine r_getR C fl_M_20 0 (hL 0 _ rfl) rfl (dk_at dk_M_tells_2 1 rfl) ?_
    refine r_sipush C 404 (dk_at dk_M_tells_2 2 rfl) ?_
    refine r_ialdK C 4 (hL 4 _ rfl) lk_404 (vk_404_6012) (dk_at dk_M_tells_2 3 rfl) ?_
    refine r_imul C (dk_at dk_M_tells_2 4 rfl) ?_
    refine r_putI C fl_M_246 0 (hL 0 _ rfl) rfl (dk_at dk_M_tells_2 5 rfl) (r_sg (fun σ59 e60 => ?_))
    replace h := h σ59 e60
    refine r_aload_n C 1 rfl (dk_at dk_M_tells_2 6 rfl) ?_
    refine r_aload_n C 1 rfl (dk_at dk_M_tells_2 7 rfl) ?_
    refine r_getI C fl_M_246 0 (hL 0 _ rfl) rfl (dk_at dk_M_tells_2 8 rfl) ?_
    refine r_aload_n C 1 rfl (dk_at dk_M_tells_2 9 rfl) ?_
    refine r_getR C fl_M_20 0 (hL 0 _ rfl) rfl (dk_at dk_M_tells_2 10 rfl) ?_
    refine r_sipush C 405 (dk_at dk_M_tells_2 11 rfl) ?_
    refine r_aload_n C 1 rfl (dk_at dk_M_tells_2 12 rfl) ?_
    refine r_getR C fl_M_20 0 (hL 0 _ rfl) rfl (dk_at dk_M_tells_2 13 rfl) ?_
    refine r_sipush C 404 (dk_at dk_M_tells_2 14 rfl) ?_
    refine r_ialdK C 4 (hL 4 _ rfl) lk_404 (vk_404_6012) (dk_at dk_M_tells_2 15 rfl) ?_
    refine r_iadd C (dk_at dk_M_tells_2 16 rfl) ?_
    obtain ⟨q61, h⟩ := h
    refine r_iald C 4 (hL 4 _ rfl) q61 (dk_at dk_M_tells_2 17 rfl) ?_
    refine r_iadd C (dk_at dk_M_tells_2 18 rfl) ?_
    refine r_putI C fl_M_243 0 (hL 0 _ rfl) rfl (dk_at dk_M_tells_2 19 rfl) (r_sg (fun σ62 e63 => ?_))
    replace h := h σ62 e63
    refine r_lv [1, 2, 0] rfl ?_
    exact t_M_tells_l167 C hL h
  · replace h := h.2 c29
    refine r_iload C 5 rfl (dk_at dk_M_tells_0 6 rfl) ?_
    exact r_iret C h (dk_at dk_M_tells_0 7 rfl)
  )
set_option maxRecDepth 20000 in
theorem t_M_knows_j98 {X : CT} {w : WO} (C : CF X w (lim0 w) 7 cX11_knows RX11 (some .int) (.code yX11_knows cX11_knows 7 (some .int)) (rmK 89 2152)) (hL : LyM w) {post : Int32 → DD → Prop} {a6 : Int32} {σ : DD} (h : w_M_knows_j98 post σ a6) : gW X w (lim0 w) 7 (QI X w post) σ 98 [(0, .ref (wAd w 0)), (6, .int a6)] [] := by
  unfold w_M_knows_j98 at h
  refine r_aload_n C 0 rfl (dk_at dk_M_knows_1 18 rfl) ?_
  refine r_getR C fl_M_61 0 (hL 0 _ rfl) rfl (dk_at dk_M_knows_1 19 rfl) ?_
  refine r_iload C 1 rfl (dk_at dk_M_knows_1 20 rfl) ?_
  obtain ⟨q1, h⟩ := h
  refine r_bald C 29 (hL 29 _ rfl) q1 (dk_at dk_M_knows_1 21 rfl) ?_
  refine r_iconst C 1 (dk_at dk_M_knows_1 22 rfl) ?_
  refine r_isub C (dk_at dk_M_knows_1 23 rfl) ?_
  exact r_iret C h (dk_at dk_M_knows_1 24 rfl)
set_option maxRecDepth 20000 in
theorem t_M_knows_j44 {X : CT} {w : WO} (C : CF X w (lim0 w) 7 cX11_knows RX11 (some .int) (.code yX11_knows cX11_knows 7 (some .int)) (rmK 89 2152)) (hL : LyM w) {post : Int32 → DD → Prop} {a1 : Int32} {a2 : Int32} {a3 : Int32} {a4 : Int32} {a5 : Int32} {σ : DD} (h : w_M_knows_j44 post σ a1 a2 a3 a4 a5) : gW X w (lim0 w) 7 (QI X w post) σ 44 [(0, .ref (wAd w 0)), (1, .int a1), (2, .int a2), (3, .int a3), (4, .int a4), (5, .int a5)] [] := by
  unfold w_M_knows_j44 at h
  refine r_iload_n C 1 rfl (dk_at dk_M_knows_0 21 rfl) ?_
  refine r_iconst C 1 (dk_at dk_M_knows_0 22 rfl) ?_
  refine r_isub C (dk_at dk_M_knows_0 23 rfl) ?_
  refine r_bipush C 8 (dk_at dk_M_knows_0 24 rfl) ?_
  refine r_imul C (dk_at dk_M_knows_0 25 rfl) ?_
  refine r_iload_n C 2 rfl (dk_at dk_M_knows_0 26 rfl) ?_
  refine r_iadd C (dk_at dk_M_knows_0 27 rfl) ?_
  refine r_iconst C 4 (dk_at dk_M_knows_0 28 rfl) ?_
  refine r_imul C (dk_at dk_M_knows_0 29 rfl) ?_
  refine r_iload_n C 3 rfl (dk_at dk_M_knows_0 30 rfl) ?_
  refine r_iadd C (dk_at dk_M_knows_0 31 rfl) ?_
  refine r_bipush C 7 (dk_at dk_M_knows_0 32 rfl) ?_
  refine r_imul C (dk_at dk_M_knows_0 33 rfl) ?_
  refine r_iload C 4 rfl (dk_at dk_M_knows_0 34 rfl) ?_
  refine r_bipush C 7 (dk_at dk_M_knows_0 35 rfl) ?_
  refine r_irem C (by decide) (dk_at dk_M_knows_0 36 rfl) ?_
  refine r_iadd C (dk_at dk_M_knows_0 37 rfl) ?_
  refine r_topi (fun v2 e3 => ?_)
  replace h := h v2 e3
  refine r_istore C [(6, .int v2), (0, .ref (wAd w 0)), (1, .int a1), (2, .int a2), (3, .int a3), (4, .int a4), (5, .int a5)] rfl rfl (dk_at dk_M_knows_0 38 rfl) ?_
  refine r_aload_n C 1 rfl (dk_at dk_M_knows_0 39 rfl) ?_
  refine r_getR C fl_M_61 0 (hL 0 _ rfl) rfl (dk_at dk_M_knows_1 0 rfl) ?_
  refine r_iload C 0 rfl (dk_at dk_M_knows_1 1 rfl) ?_
  obtain ⟨q4, h⟩ := h
  refine r_bald C 29 (hL 29 _ rfl) q4 (dk_at dk_M_knows_1 2 rfl) ?_
  refine r_if_ne C 98 rfl (dk_at dk_M_knows_1 3 rfl) (fun c5 => ?_) (fun c5 => ?_)
  · replace h := h.1 c5
    refine r_lv [1, 0] rfl ?_
    exact t_M_knows_j98 C hL h
  · replace h := h.2 c5
    refine r_aload_n C 1 rfl (dk_at dk_M_knows_1 4 rfl) ?_
    refine r_getR C fl_M_61 0 (hL 0 _ rfl) rfl (dk_at dk_M_knows_1 5 rfl) ?_
    refine r_iload C 0 rfl (dk_at dk_M_knows_1 6 rfl) ?_
    refine r_iconst C 1 (dk_at dk_M_knows_1 7 rfl) ?_
    refine r_aload_n C 1 rfl (dk_at dk_M_knows_1 8 rfl) ?_
    refine r_iload_n C 2 rfl (dk_at dk_M_knows_1 9 rfl) ?_
    refine r_iload_n C 3 rfl (dk_at dk_M_knows_1 10 rfl) ?_
    refine r_iload_n C 4 rfl (dk_at dk_M_knows_1 11 rfl) ?_
    refine r_iload C 5 rfl (dk_at dk_M_knows_1 12 rfl) ?_
    refine r_iload C 6 rfl (dk_at dk_M_knows_1 13 rfl) ?_
    refine r_cvI C cl_M_293 0 (hL 0 _ rfl) [.int a1, .int a2, .int a3, .int a4, .int a5] (m_M_tells hL h) (rmK_ok rfl rfl) rfl rfl (Nat.le_of_ble_eq_true rfl) (dk_at dk_M_knows_1 14 rfl) (fun r6 σ7 h => ?_)
    refine r_iadd C (dk_at dk_M_knows_1 15 rfl) ?_
    refine r_i2b C (dk_at dk_M_knows_1 16 rfl) ?_
    obtain ⟨q10, h⟩ := h
    refine r_bast C 29 (hL 29 _ rfl) q10 (dk_at dk_M_knows_1 17 rfl) (r_sg (fun σ8 e9 => ?_))
    replace h := h σ8 e9
    refine r_lv [1, 0] rfl ?_
    exact t_M_knows_j98 C hL h
set_option maxRecDepth 20000 in
theorem t_M_knows_b22 {X : CT} {w : WO} (C : CF X w (lim0 w) 7 cX11_knows RX11 (some .int) (.code yX11_knows cX11_knows 7 (some .int)) (rmK 89 2152)) (hL : LyM w) {a1 : Int32} {a2 : Int32} {a3 : Int32} {a4 : Int32} {a5 : Int32} {K22 : DD → Int32 → Prop} {post : Int32 → DD → Prop} (k22 : ∀ (σ : DD) (a6 : Int32), K22 σ a6 → gW X w (lim0 w) 7 (QI X w post) σ 22 [(0, .ref (wAd w 0)), (1, .int a1), (2, .int a2), (3, .int a3), (4, .int a4), (5, .int a5), (6, .int a6)] []) {σ : DD} {a6 : Int32} (h : w_M_knows_b22 a1 a2 a3 a4 a5 K22 post σ a6) : gW X w (lim0 w) 7 (QI X w post) σ 22 [(0, .ref (wAd w 0)), (1, .int a1), (2, .int a2), (3, .int a3), (4, .int a4), (5, .int a5), (6, .int a6)] [] := by
  unfold w_M_knows_b22 at h
  refine r_iload C 6 rfl (dk_at dk_M_knows_0 11 rfl) ?_
  refine r_sipush C 672 (dk_at dk_M_knows_0 12 rfl) ?_
  refine r_icmp_ge C 44 rfl (dk_at dk_M_knows_0 13 rfl) (fun c11 => ?_) (fun c11 => ?_)
  · replace h := h.1 c11
    refine r_lv [0, 1, 2, 3, 4, 5] rfl ?_
    exact t_M_knows_j44 C hL h
  · replace h := h.2 c11
    refine r_aload_n C 0 rfl (dk_at dk_M_knows_0 14 rfl) ?_
    refine r_getR C fl_M_61 0 (hL 0 _ rfl) rfl (dk_at dk_M_knows_0 15 rfl) ?_
    refine r_iload C 6 rfl (dk_at dk_M_knows_0 16 rfl) ?_
    refine r_iconst C 0 (dk_at dk_M_knows_0 17 rfl) ?_
    obtain ⟨q14, h⟩ := h
    refine r_bast C 29 (hL 29 _ rfl) q14 (dk_at dk_M_knows_0 18 rfl) (r_sg (fun σ12 e13 => ?_))
    replace h := h σ12 e13
    refine r_iinc C 6 rfl rfl [(6, .int (a6 + 1)), (0, .ref (wAd w 0)), (1, .int a1), (2, .int a2), (3, .int a3), (4, .int a4), (5, .int a5)] rfl rfl (dk_at dk_M_knows_0 19 rfl) ?_
    refine r_goto C 22 rfl (dk_at dk_M_knows_0 20 rfl) ?_
    refine r_lv [1, 2, 3, 4, 5, 6, 0] rfl ?_
    exact k22 _ _ h
set_option maxRecDepth 20000 in
theorem t_M_knows_l22 {X : CT} {w : WO} (C : CF X w (lim0 w) 7 cX11_knows RX11 (some .int) (.code yX11_knows cX11_knows 7 (some .int)) (rmK 89 2152)) (hL : LyM w) {a1 : Int32} {a2 : Int32} {a3 : Int32} {a4 : Int32} {a5 : Int32} {post : Int32 → DD → Prop} {σ : DD} {a6 : Int32} (h : w_M_knows_l22 post σ a1 a2 a3 a4 a5 a6) : gW X w (lim0 w) 7 (QI X w post) σ 22 [(0, .ref (wAd w 0)), (1, .int a1), (2, .int a2), (3, .int a3), (4, .int a4), (5, .int a5), (6, .int a6)] [] :=
  LoopW (G := fun x : DD × Int32 => gW X w (lim0 w) 7 (QI X w post) x.1 22 [(0, .ref (wAd w 0)), (1, .int a1), (2, .int a2), (3, .int a3), (4, .int a4), (5, .int a5), (6, .int x.2)] []) (fun K x hK hF => t_M_knows_b22 C hL (fun σ a6 q => hK (σ, a6) q) hF) h
set_option maxRecDepth 20000 in
theorem m_M_knows {l : Launch} {w : WO} (hL : LyM w) {σ : DD} {a1 : Int32} {a2 : Int32} {a3 : Int32} {a4 : Int32} {a5 : Int32} {post : Int32 → DD → Prop} (h : w_M_knows σ a1 a2 a3 a4 a5 post) : MI l w yX11_knows cX11_knows 7 .int (rmK 89 2152) σ [.ref (wAd w 0), .int a1, .int a2, .int a3, .int a4, .int a5] post :=
  met_head (rt := (some .int)) (by decide) rfl (fun X hX C => by
  subst hX
  unfold w_M_knows at h
  show gW X w (lim0 w) 7 (QI X w post) σ 0 [(0, .ref (wAd w 0)), (1, .int a1), (2, .int a2), (3, .int a3), (4, .int a4), (5, .int a5)] []
  refine r_aload_n C 0 rfl (dk_at dk_M_knows_0 0 rfl) ?_
  refine r_getI C fl_M_64 0 (hL 0 _ rfl) rfl (dk_at dk_M_knows_0 1 rfl) ?_
  refine r_aload_n C 0 rfl (dk_at dk_M_knows_0 2 rfl) ?_
  refine r_getI C fl_M_11 0 (hL 0 _ rfl) rfl (dk_at dk_M_knows_0 3 rfl) ?_
  refine r_icmp_eq C 44 rfl (dk_at dk_M_knows_0 4 rfl) (fun c15 => ?_) (fun c15 => ?_)
  · replace h := h.1 c15
    refine r_lv [0, 1, 2, 3, 4, 5] rfl ?_
    exact t_M_knows_j44 C hL h
  · replace h := h.2 c15
    refine r_aload_n C 0 rfl (dk_at dk_M_knows_0 5 rfl) ?_
    refine r_aload_n C 0 rfl (dk_at dk_M_knows_0 6 rfl) ?_
    refine r_getI C fl_M_11 0 (hL 0 _ rfl) rfl (dk_at dk_M_knows_0 7 rfl) ?_
    refine r_putI C fl_M_64 0 (hL 0 _ rfl) rfl (dk_at dk_M_knows_0 8 rfl) (r_sg (fun σ16 e17 => ?_))
    replace h := h σ16 e17
    refine r_iconst C 0 (dk_at dk_M_knows_0 9 rfl) ?_
    refine r_istore C [(6, .int 0), (0, .ref (wAd w 0)), (1, .int a1), (2, .int a2), (3, .int a3), (4, .int a4), (5, .int a5)] rfl rfl (dk_at dk_M_knows_0 10 rfl) ?_
    refine r_lv [1, 2, 3, 4, 5, 6, 0] rfl ?_
    exact t_M_knows_l22 C hL h
  )
set_option maxRecDepth 20000 in
theorem m_M_lastsFor {l : Launch} {w : WO} (hL : LyM w) {σ : DD} {a1 : Int32} {a2 : Int32} {a3 : Int32} {post : Int32 → DD → Prop} (h : w_M_lastsFor σ a1 a2 a3 post) : MI l w yX11_lastsFor cX11_lastsFor 4 .int (rmK 90 2178) σ [.ref (wAd w 0), .int a1, .int a2, .int a3] post :=
  met_head (rt := (some .int)) (by decide) rfl (fun X hX C => by
  subst hX
  unfold w_M_lastsFor at h
  show gW X w (lim0 w) 4 (QI X w post) σ 0 [(0, .ref (wAd w 0)), (1, .int a1), (2, .int a2), (3, .int a3)] []
  refine r_aload_n C 0 rfl (dk_at dk_M_lastsFor_0 0 rfl) ?_
  refine r_iconst C 1 (dk_at dk_M_lastsFor_0 1 rfl) ?_
  refine r_iload_n C 1 rfl (dk_at dk_M_lastsFor_0 2 rfl) ?_
  refine r_iload_n C 2 rfl (dk_at dk_M_lastsFor_0 3 rfl) ?_
  refine r_iload_n C 3 rfl (dk_at dk_M_lastsFor_0 4 rfl) ?_
  refine r_aload_n C 0 rfl (dk_at dk_M_lastsFor_0 5 rfl) ?_
  refine r_iload_n C 1 rfl (dk_at dk_M_lastsFor_0 6 rfl) ?_
  refine r_iconst C 1 (dk_at dk_M_lastsFor_0 7 rfl) ?_
  refine r_cvI C cl_M_124 0 (hL 0 _ rfl) [.int a1, .int 1] (m_M_fact hL h) (rmK_ok rfl rfl) rfl rfl (Nat.le_of_ble_eq_true rfl) (dk_at dk_M_lastsFor_0 8 rfl) (fun r1 σ2 h => ?_)
  refine r_cvI C cl_M_297 0 (hL 0 _ rfl) [.int 1, .int a1, .int a2, .int a3, .int r1] (m_M_knows hL h) (rmK_ok rfl rfl) rfl rfl (Nat.le_of_ble_eq_true rfl) (dk_at dk_M_lastsFor_0 9 rfl) (fun r3 σ4 h => ?_)
  exact r_iret C h (dk_at dk_M_lastsFor_0 10 rfl)
  )
set_option maxRecDepth 20000 in
theorem m_M_takesOf {l : Launch} {w : WO} (hL : LyM w) {σ : DD} {a1 : Int32} {a2 : Int32} {a3 : Int32} {post : Int32 → DD → Prop} (h : w_M_takesOf σ a1 a2 a3 post) : MI l w yX11_takesOf cX11_takesOf 4 .int (rmK 90 2178) σ [.ref (wAd w 0), .int a1, .int a2, .int a3] post :=
  met_head (rt := (some .int)) (by decide) rfl (fun X hX C => by
  subst hX
  unfold w_M_takesOf at h
  show gW X w (lim0 w) 4 (QI X w post) σ 0 [(0, .ref (wAd w 0)), (1, .int a1), (2, .int a2), (3, .int a3)] []
  refine r_aload_n C 0 rfl (dk_at dk_M_takesOf_0 0 rfl) ?_
  refine r_iconst C 2 (dk_at dk_M_takesOf_0 1 rfl) ?_
  refine r_iload_n C 1 rfl (dk_at dk_M_takesOf_0 2 rfl) ?_
  refine r_iload_n C 2 rfl (dk_at dk_M_takesOf_0 3 rfl) ?_
  refine r_iload_n C 3 rfl (dk_at dk_M_takesOf_0 4 rfl) ?_
  refine r_aload_n C 0 rfl (dk_at dk_M_takesOf_0 5 rfl) ?_
  refine r_iload_n C 1 rfl (dk_at dk_M_takesOf_0 6 rfl) ?_
  refine r_iconst C 0 (dk_at dk_M_takesOf_0 7 rfl) ?_
  refine r_cvI C cl_M_124 0 (hL 0 _ rfl) [.int a1, .int 0] (m_M_fact hL h) (rmK_ok rfl rfl) rfl rfl (Nat.le_of_ble_eq_true rfl) (dk_at dk_M_takesOf_0 8 rfl) (fun r1 σ2 h => ?_)
  refine r_cvI C cl_M_297 0 (hL 0 _ rfl) [.int 2, .int a1, .int a2, .int a3, .int r1] (m_M_knows hL h) (rmK_ok rfl rfl) rfl rfl (Nat.le_of_ble_eq_true rfl) (dk_at dk_M_takesOf_0 9 rfl) (fun r3 σ4 h => ?_)
  exact r_iret C h (dk_at dk_M_takesOf_0 10 rfl)
  )
set_option maxRecDepth 20000 in
theorem m_M_isBarred {l : Launch} {w : WO} (hL : LyM w) {σ : DD} {a1 : Int32} {a2 : Int32} {a3 : Int32} {post : Int32 → DD → Prop} (h : w_M_isBarred σ a1 a2 a3 post) : MI l w yX11_isBarred cX11_isBarred 4 .boolean (rmK 90 2178) σ [.ref (wAd w 0), .int a1, .int a2, .int a3] post :=
  met_head (rt := (some .boolean)) (by decide) rfl (fun X hX C => by
  subst hX
  unfold w_M_isBarred at h
  show gW X w (lim0 w) 4 (QI X w post) σ 0 [(0, .ref (wAd w 0)), (1, .int a1), (2, .int a2), (3, .int a3)] []
  refine r_aload_n C 0 rfl (dk_at dk_M_isBarred_0 0 rfl) ?_
  refine r_iconst C 3 (dk_at dk_M_isBarred_0 1 rfl) ?_
  refine r_iload_n C 1 rfl (dk_at dk_M_isBarred_0 2 rfl) ?_
  refine r_iload_n C 2 rfl (dk_at dk_M_isBarred_0 3 rfl) ?_
  refine r_iload_n C 3 rfl (dk_at dk_M_isBarred_0 4 rfl) ?_
  refine r_iconst C 0 (dk_at dk_M_isBarred_0 5 rfl) ?_
  refine r_cvI C cl_M_297 0 (hL 0 _ rfl) [.int 3, .int a1, .int a2, .int a3, .int 0] (m_M_knows hL h) (rmK_ok rfl rfl) rfl rfl (Nat.le_of_ble_eq_true rfl) (dk_at dk_M_isBarred_0 6 rfl) (fun r1 σ2 h => ?_)
  refine r_iconst C 1 (dk_at dk_M_isBarred_0 7 rfl) ?_
  refine r_icmp_ne C 17 rfl (dk_at dk_M_isBarred_0 8 rfl) (fun c3 => ?_) (fun c3 => ?_)
  · replace h := h.1 c3
    refine r_iconst C 0 (dk_at dk_M_isBarred_0 11 rfl) ?_
    exact r_zret C (Or.inl rfl) h (dk_at dk_M_isBarred_0 12 rfl)
  · replace h := h.2 c3
    refine r_iconst C 1 (dk_at dk_M_isBarred_0 9 rfl) ?_
    refine r_goto C 18 rfl (dk_at dk_M_isBarred_0 10 rfl) ?_
    exact r_zret C (Or.inr rfl) h (dk_at dk_M_isBarred_0 12 rfl)
  )
set_option maxRecDepth 20000 in
theorem m_M_logs {l : Launch} {w : WO} (hL : LyM w) {σ : DD} {a1 : Int32} {a2 : Int32} {a3 : Int32} {post : DD → Prop} (h : w_M_logs σ a1 a2 a3 post) : MV l w yX11_logs cX11_logs 5 (rmK 0 0) σ [.ref (wAd w 0), .int a1, .int a2, .int a3] post :=
  met_head (rt := none) (by decide) rfl (fun X hX C => by
  subst hX
  unfold w_M_logs at h
  show gW X w (lim0 w) 5 (QV X w post) σ 0 [(0, .ref (wAd w 0)), (1, .int a1), (2, .int a2), (3, .int a3)] []
  refine r_bipush C 111 (dk_at dk_M_logs_0 0 rfl) ?_
  refine r_iconst C 3 (dk_at dk_M_logs_0 1 rfl) ?_
  refine r_aload_n C 0 rfl (dk_at dk_M_logs_0 2 rfl) ?_
  refine r_getR C fl_M_20 0 (hL 0 _ rfl) rfl (dk_at dk_M_logs_0 3 rfl) ?_
  refine r_sipush C 401 (dk_at dk_M_logs_0 4 rfl) ?_
  refine r_ialdK C 4 (hL 4 _ rfl) lk_401 (vk_401_6012) (dk_at dk_M_logs_0 5 rfl) ?_
  refine r_imul C (dk_at dk_M_logs_0 6 rfl) ?_
  refine r_iadd C (dk_at dk_M_logs_0 7 rfl) ?_
  refine r_topi (fun v1 e2 => ?_)
  replace h := h v1 e2
  refine r_istore C [(4, .int v1), (0, .ref (wAd w 0)), (1, .int a1), (2, .int a2), (3, .int a3)] rfl rfl (dk_at dk_M_logs_0 8 rfl) ?_
  refine r_aload_n C 1 rfl (dk_at dk_M_logs_0 9 rfl) ?_
  refine r_getR C fl_M_20 0 (hL 0 _ rfl) rfl (dk_at dk_M_logs_0 10 rfl) ?_
  refine r_iload C 0 rfl (dk_at dk_M_logs_0 11 rfl) ?_
  refine r_iload_n C 2 rfl (dk_at dk_M_logs_0 12 rfl) ?_
  obtain ⟨q5, h⟩ := h
  refine r_iast C 4 (hL 4 _ rfl) q5 (dk_at dk_M_logs_0 13 rfl) (r_sg (fun σ3 e4 => ?_))
  replace h := h σ3 e4
  refine r_aload_n C 1 rfl (dk_at dk_M_logs_0 14 rfl) ?_
  refine r_getR C fl_M_20 0 (hL 0 _ rfl) rfl (dk_at dk_M_logs_0 15 rfl) ?_
  refine r_iload C 0 rfl (dk_at dk_M_logs_0 16 rfl) ?_
  refine r_iconst C 1 (dk_at dk_M_logs_0 17 rfl) ?_
  refine r_iadd C (dk_at dk_M_logs_0 18 rfl) ?_
  refine r_iload_n C 3 rfl (dk_at dk_M_logs_0 19 rfl) ?_
  obtain ⟨q8, h⟩ := h
  refine r_iast C 4 (hL 4 _ rfl) q8 (dk_at dk_M_logs_0 20 rfl) (r_sg (fun σ6 e7 => ?_))
  replace h := h σ6 e7
  refine r_aload_n C 1 rfl (dk_at dk_M_logs_0 21 rfl) ?_
  refine r_getR C fl_M_20 0 (hL 0 _ rfl) rfl (dk_at dk_M_logs_0 22 rfl) ?_
  refine r_iload C 0 rfl (dk_at dk_M_logs_0 23 rfl) ?_
  refine r_iconst C 2 (dk_at dk_M_logs_0 24 rfl) ?_
  refine r_iadd C (dk_at dk_M_logs_0 25 rfl) ?_
  refine r_iload_n C 4 rfl (dk_at dk_M_logs_0 26 rfl) ?_
  obtain ⟨q11, h⟩ := h
  refine r_iast C 4 (hL 4 _ rfl) q11 (dk_at dk_M_logs_0 27 rfl) (r_sg (fun σ9 e10 => ?_))
  replace h := h σ9 e10
  refine r_aload_n C 1 rfl (dk_at dk_M_logs_0 28 rfl) ?_
  refine r_getR C fl_M_20 0 (hL 0 _ rfl) rfl (dk_at dk_M_logs_0 29 rfl) ?_
  refine r_sipush C 401 (dk_at dk_M_logs_0 30 rfl) ?_
  refine r_dup2 C rfl rfl (dk_at dk_M_logs_0 31 rfl) ?_
  refine r_ialdK C 4 (hL 4 _ rfl) lk_401 (vk_401_6012) (dk_at dk_M_logs_0 32 rfl) ?_
  refine r_iconst C 1 (dk_at dk_M_logs_0 33 rfl) ?_
  refine r_iadd C (dk_at dk_M_logs_0 34 rfl) ?_
  refine r_iastK C 4 (hL 4 _ rfl) lk_401 vk_401_6012 (dk_at dk_M_logs_0 35 rfl) (r_sg (fun σ12 e13 => ?_))
  replace h := h σ12 e13
  exact r_vret C h (dk_at dk_M_logs_0 36 rfl)
  )
set_option maxRecDepth 20000 in
theorem t_M_latestOf_j61 {X : CT} {w : WO} (C : CF X w (lim0 w) 5 cX11_latestOf RX11 (some .int) (.code yX11_latestOf cX11_latestOf 5 (some .int)) (rmK 1 22)) (hL : LyM w) {K5 : DD → Int32 → Int32 → Prop} {post : Int32 → DD → Prop} {a1 : Int32} {a2 : Int32} {a4 : Int32} (k5 : ∀ (σ : DD) (a3 : Int32) (a4 : Int32), K5 σ a3 a4 → gW X w (lim0 w) 5 (QI X w post) σ 5 [(0, .ref (wAd w 0)), (1, .int a1), (2, .int a2), (3, .int a3), (4, .int a4)] []) {σ : DD} (h : w_M_latestOf_j61 K5 post σ a1 a2 a4) : gW X w (lim0 w) 5 (QI X w post) σ 61 [(0, .ref (wAd w 0)), (1, .int a1), (2, .int a2), (4, .int a4)] [] := by
  unfold w_M_latestOf_j61 at h
  refine r_iload C 3 rfl (dk_at dk_M_latestOf_0 34 rfl) ?_
  refine r_istore_n C [(3, .int a4), (0, .ref (wAd w 0)), (1, .int a1), (2, .int a2), (4, .int a4)] rfl rfl (dk_at dk_M_latestOf_0 35 rfl) ?_
  refine r_iinc C 4 rfl rfl [(4, .int (a4 + 1)), (3, .int a4), (0, .ref (wAd w 0)), (1, .int a1), (2, .int a2)] rfl rfl (dk_at dk_M_latestOf_0 36 rfl) ?_
  refine r_goto C 5 rfl (dk_at dk_M_latestOf_0 37 rfl) ?_
  refine r_lv [2, 3, 4, 1, 0] rfl ?_
  exact k5 _ _ _ h
set_option maxRecDepth 20000 in
theorem t_M_latestOf_b5 {X : CT} {w : WO} (C : CF X w (lim0 w) 5 cX11_latestOf RX11 (some .int) (.code yX11_latestOf cX11_latestOf 5 (some .int)) (rmK 1 22)) (hL : LyM w) {a1 : Int32} {a2 : Int32} {K5 : DD → Int32 → Int32 → Prop} {post : Int32 → DD → Prop} (k5 : ∀ (σ : DD) (a3 : Int32) (a4 : Int32), K5 σ a3 a4 → gW X w (lim0 w) 5 (QI X w post) σ 5 [(0, .ref (wAd w 0)), (1, .int a1), (2, .int a2), (3, .int a3), (4, .int a4)] []) {σ : DD} {a3 : Int32} {a4 : Int32} (h : w_M_latestOf_b5 a1 a2 K5 post σ a3 a4) : gW X w (lim0 w) 5 (QI X w post) σ 5 [(0, .ref (wAd w 0)), (1, .int a1), (2, .int a2), (3, .int a3), (4, .int a4)] [] := by
  unfold w_M_latestOf_b5 at h
  refine r_iload C 4 rfl (dk_at dk_M_latestOf_0 4 rfl) ?_
  refine r_aload_n C 0 rfl (dk_at dk_M_latestOf_0 5 rfl) ?_
  refine r_getR C fl_M_20 0 (hL 0 _ rfl) rfl (dk_at dk_M_latestOf_0 6 rfl) ?_
  refine r_sipush C 401 (dk_at dk_M_latestOf_0 7 rfl) ?_
  refine r_ialdK C 4 (hL 4 _ rfl) lk_401 (vk_401_6012) (dk_at dk_M_latestOf_0 8 rfl) ?_
  refine r_icmp_ge C 70 rfl (dk_at dk_M_latestOf_0 9 rfl) (fun c1 => ?_) (fun c1 => ?_)
  · replace h := h.1 c1
    refine r_iload_n C 3 rfl (dk_at dk_M_latestOf_0 38 rfl) ?_
    exact r_iret C h (dk_at dk_M_latestOf_0 39 rfl)
  · replace h := h.2 c1
    refine r_aload_n C 0 rfl (dk_at dk_M_latestOf_0 10 rfl) ?_
    refine r_iload C 4 rfl (dk_at dk_M_latestOf_0 11 rfl) ?_
    refine r_iconst C 0 (dk_at dk_M_latestOf_0 12 rfl) ?_
    refine r_cvI C cl_M_137 0 (hL 0 _ rfl) [.int a4, .int 0] (m_M_reading hL h) (rmK_ok rfl rfl) rfl rfl (Nat.le_of_ble_eq_true rfl) (dk_at dk_M_latestOf_0 13 rfl) (fun r2 σ3 h => ?_)
    refine r_iload_n C 1 rfl (dk_at dk_M_latestOf_0 14 rfl) ?_
    refine r_icmp_ne C 64 rfl (dk_at dk_M_latestOf_0 15 rfl) (fun c4 => ?_) (fun c4 => ?_)
    · replace h := h.1 c4
      refine r_iinc C 4 rfl rfl [(4, .int (a4 + 1)), (0, .ref (wAd w 0)), (1, .int a1), (2, .int a2), (3, .int a3)] rfl rfl (dk_at dk_M_latestOf_0 36 rfl) ?_
      refine r_goto C 5 rfl (dk_at dk_M_latestOf_0 37 rfl) ?_
      refine r_lv [1, 2, 3, 4, 0] rfl ?_
      exact k5 _ _ _ h
    · replace h := h.2 c4
      refine r_aload_n C 0 rfl (dk_at dk_M_latestOf_0 16 rfl) ?_
      refine r_iload C 4 rfl (dk_at dk_M_latestOf_0 17 rfl) ?_
      refine r_iconst C 2 (dk_at dk_M_latestOf_0 18 rfl) ?_
      refine r_cvI C cl_M_137 0 (hL 0 _ rfl) [.int a4, .int 2] (m_M_reading hL h) (rmK_ok rfl rfl) rfl rfl (Nat.le_of_ble_eq_true rfl) (dk_at dk_M_latestOf_0 19 rfl) (fun r5 σ6 h => ?_)
      refine r_iload_n C 2 rfl (dk_at dk_M_latestOf_0 20 rfl) ?_
      refine r_icmp_gt C 64 rfl (dk_at dk_M_latestOf_0 21 rfl) (fun c7 => ?_) (fun c7 => ?_)
      · replace h := h.1 c7
        refine r_iinc C 4 rfl rfl [(4, .int (a4 + 1)), (0, .ref (wAd w 0)), (1, .int a1), (2, .int a2), (3, .int a3)] rfl rfl (dk_at dk_M_latestOf_0 36 rfl) ?_
        refine r_goto C 5 rfl (dk_at dk_M_latestOf_0 37 rfl) ?_
        refine r_lv [1, 2, 3, 4, 0] rfl ?_
        exact k5 _ _ _ h
      · replace h := h.2 c7
        refine r_iload_n C 3 rfl (dk_at dk_M_latestOf_0 22 rfl) ?_
        refine r_iconst C (-1) (dk_at dk_M_latestOf_0 23 rfl) ?_
        refine r_icmp_eq C 61 rfl (dk_at dk_M_latestOf_0 24 rfl) (fun c8 => ?_) (fun c8 => ?_)
        · replace h := h.1 c8
          refine r_lv [0, 1, 2, 4] rfl ?_
          exact t_M_latestOf_j61 C hL k5 h
        · replace h := h.2 c8
          refine r_aload_n C 0 rfl (dk_at dk_M_latestOf_0 25 rfl) ?_
          refine r_iload C 4 rfl (dk_at dk_M_latestOf_0 26 rfl) ?_
          refine r_iconst C 2 (dk_at dk_M_latestOf_0 27 rfl) ?_
          refine r_cvI C cl_M_137 0 (hL 0 _ rfl) [.int a4, .int 2] (m_M_reading hL h) (rmK_ok rfl rfl) rfl rfl (Nat.le_of_ble_eq_true rfl) (dk_at dk_M_latestOf_0 28 rfl) (fun r9 σ10 h => ?_)
          refine r_aload_n C 0 rfl (dk_at dk_M_latestOf_0 29 rfl) ?_
          refine r_iload_n C 3 rfl (dk_at dk_M_latestOf_0 30 rfl) ?_
          refine r_iconst C 2 (dk_at dk_M_latestOf_0 31 rfl) ?_
          refine r_cvI C cl_M_137 0 (hL 0 _ rfl) [.int a3, .int 2] (m_M_reading hL h) (rmK_ok rfl rfl) rfl rfl (Nat.le_of_ble_eq_true rfl) (dk_at dk_M_latestOf_0 32 rfl) (fun r11 σ12 h => ?_)
          refine r_icmp_lt C 64 rfl (dk_at dk_M_latestOf_0 33 rfl) (fun c13 => ?_) (fun c13 => ?_)
          · replace h := h.1 c13
            refine r_iinc C 4 rfl rfl [(4, .int (a4 + 1)), (0, .ref (wAd w 0)), (1, .int a1), (2, .int a2), (3, .int a3)] rfl rfl (dk_at dk_M_latestOf_0 36 rfl) ?_
            refine r_goto C 5 rfl (dk_at dk_M_latestOf_0 37 rfl) ?_
            refine r_lv [1, 2, 3, 4, 0] rfl ?_
            exact k5 _ _ _ h
          · replace h := h.2 c13
            refine r_lv [0, 1, 2, 4] rfl ?_
            exact t_M_latestOf_j61 C hL k5 h
set_option maxRecDepth 20000 in
theorem t_M_latestOf_l5 {X : CT} {w : WO} (C : CF X w (lim0 w) 5 cX11_latestOf RX11 (some .int) (.code yX11_latestOf cX11_latestOf 5 (some .int)) (rmK 1 22)) (hL : LyM w) {a1 : Int32} {a2 : Int32} {post : Int32 → DD → Prop} {σ : DD} {a3 : Int32} {a4 : Int32} (h : w_M_latestOf_l5 post σ a1 a2 a3 a4) : gW X w (lim0 w) 5 (QI X w post) σ 5 [(0, .ref (wAd w 0)), (1, .int a1), (2, .int a2), (3, .int a3), (4, .int a4)] [] :=
  LoopW (G := fun x : DD × Int32 × Int32 => gW X w (lim0 w) 5 (QI X w post) x.1 5 [(0, .ref (wAd w 0)), (1, .int a1), (2, .int a2), (3, .int x.2.1), (4, .int x.2.2)] []) (fun K x hK hF => t_M_latestOf_b5 C hL (fun σ a3 a4 q => hK (σ, a3, a4) q) hF) h
set_option maxRecDepth 20000 in
theorem m_M_latestOf {l : Launch} {w : WO} (hL : LyM w) {σ : DD} {a1 : Int32} {a2 : Int32} {post : Int32 → DD → Prop} (h : w_M_latestOf σ a1 a2 post) : MI l w yX11_latestOf cX11_latestOf 5 .int (rmK 1 22) σ [.ref (wAd w 0), .int a1, .int a2] post :=
  met_head (rt := (some .int)) (by decide) rfl (fun X hX C => by
  subst hX
  unfold w_M_latestOf at h
  show gW X w (lim0 w) 5 (QI X w post) σ 0 [(0, .ref (wAd w 0)), (1, .int a1), (2, .int a2)] []
  refine r_iconst C (-1) (dk_at dk_M_latestOf_0 0 rfl) ?_
  refine r_istore_n C [(3, .int (-1)), (0, .ref (wAd w 0)), (1, .int a1), (2, .int a2)] rfl rfl (dk_at dk_M_latestOf_0 1 rfl) ?_
  refine r_iconst C 0 (dk_at dk_M_latestOf_0 2 rfl) ?_
  refine r_istore C [(4, .int 0), (3, .int (-1)), (0, .ref (wAd w 0)), (1, .int a1), (2, .int a2)] rfl rfl (dk_at dk_M_latestOf_0 3 rfl) ?_
  refine r_lv [2, 3, 4, 1, 0] rfl ?_
  exact t_M_latestOf_l5 C hL h
  )
set_option maxRecDepth 20000 in
theorem m_M_holdsOn {l : Launch} {w : WO} (hL : LyM w) {σ : DD} {a1 : Int32} {a2 : Int32} {post : Int32 → DD → Prop} (h : w_M_holdsOn σ a1 a2 post) : MI l w yX11_holdsOn cX11_holdsOn 4 .boolean (rmK 91 2201) σ [.ref (wAd w 0), .int a1, .int a2] post :=
  met_head (rt := (some .boolean)) (by decide) rfl (fun X hX C => by
  subst hX
  unfold w_M_holdsOn at h
  show gW X w (lim0 w) 4 (QI X w post) σ 0 [(0, .ref (wAd w 0)), (1, .int a1), (2, .int a2)] []
  refine r_aload_n C 0 rfl (dk_at dk_M_holdsOn_0 0 rfl) ?_
  refine r_iload_n C 1 rfl (dk_at dk_M_holdsOn_0 1 rfl) ?_
  refine r_iload_n C 2 rfl (dk_at dk_M_holdsOn_0 2 rfl) ?_
  refine r_cvI C cl_M_300 0 (hL 0 _ rfl) [.int a1, .int a2] (m_M_latestOf hL h) (rmK_ok rfl rfl) rfl rfl (Nat.le_of_ble_eq_true rfl) (dk_at dk_M_holdsOn_0 3 rfl) (fun r1 σ2 h => ?_)
  refine r_istore_n C [(3, .int r1), (0, .ref (wAd w 0)), (1, .int a1), (2, .int a2)] rfl rfl (dk_at dk_M_holdsOn_0 4 rfl) ?_
  refine r_iload_n C 0 rfl (dk_at dk_M_holdsOn_0 5 rfl) ?_
  refine r_iconst C (-1) (dk_at dk_M_holdsOn_0 6 rfl) ?_
  refine r_icmp_eq C 44 rfl (dk_at dk_M_holdsOn_0 7 rfl) (fun c3 => ?_) (fun c3 => ?_)
  · replace h := h.1 c3
    refine r_iconst C 0 (dk_at dk_M_holdsOn_0 28 rfl) ?_
    exact r_zret C (Or.inl rfl) h (dk_at dk_M_holdsOn_0 29 rfl)
  · replace h := h.2 c3
    refine r_iload_n C 3 rfl (dk_at dk_M_holdsOn_0 8 rfl) ?_
    refine r_aload_n C 1 rfl (dk_at dk_M_holdsOn_0 9 rfl) ?_
    refine r_iload_n C 0 rfl (dk_at dk_M_holdsOn_0 10 rfl) ?_
    refine r_iconst C 2 (dk_at dk_M_holdsOn_0 11 rfl) ?_
    refine r_cvI C cl_M_137 0 (hL 0 _ rfl) [.int r1, .int 2] (m_M_reading hL h) (rmK_ok rfl rfl) rfl rfl (Nat.le_of_ble_eq_true rfl) (dk_at dk_M_holdsOn_0 12 rfl) (fun r4 σ5 h => ?_)
    refine r_isub C (dk_at dk_M_holdsOn_0 13 rfl) ?_
    refine r_aload_n C 1 rfl (dk_at dk_M_holdsOn_0 14 rfl) ?_
    refine r_iload_n C 2 rfl (dk_at dk_M_holdsOn_0 15 rfl) ?_
    refine r_aload_n C 1 rfl (dk_at dk_M_holdsOn_0 16 rfl) ?_
    refine r_iload_n C 0 rfl (dk_at dk_M_holdsOn_0 17 rfl) ?_
    refine r_iconst C 1 (dk_at dk_M_holdsOn_0 18 rfl) ?_
    refine r_cvI C cl_M_137 0 (hL 0 _ rfl) [.int r1, .int 1] (m_M_reading hL h) (rmK_ok rfl rfl) rfl rfl (Nat.le_of_ble_eq_true rfl) (dk_at dk_M_holdsOn_0 19 rfl) (fun r6 σ7 h => ?_)
    refine r_aload_n C 1 rfl (dk_at dk_M_holdsOn_0 20 rfl) ?_
    refine r_iload_n C 0 rfl (dk_at dk_M_holdsOn_0 21 rfl) ?_
    refine r_iconst C 2 (dk_at dk_M_holdsOn_0 22 rfl) ?_
    refine r_cvI C cl_M_137 0 (hL 0 _ rfl) [.int r1, .int 2] (m_M_reading hL h) (rmK_ok rfl rfl) rfl rfl (Nat.le_of_ble_eq_true rfl) (dk_at dk_M_holdsOn_0 23 rfl) (fun r8 σ9 h => ?_)
    refine r_cvI C cl_M_303 0 (hL 0 _ rfl) [.int a1, .int r6, .int r8] (m_M_lastsFor hL h) (rmK_ok rfl rfl) rfl rfl (Nat.le_of_ble_eq_true rfl) (dk_at dk_M_holdsOn_0 24 rfl) (fun r10 σ11 h => ?_)
    refine r_icmp_ge C 44 rfl (dk_at dk_M_holdsOn_0 25 rfl) (fun c12 => ?_) (fun c12 => ?_)
    · replace h := h.1 c12
      refine r_iconst C 0 (dk_at dk_M_holdsOn_0 28 rfl) ?_
      exact r_zret C (Or.inl rfl) h (dk_at dk_M_holdsOn_0 29 rfl)
    · replace h := h.2 c12
      refine r_iconst C 1 (dk_at dk_M_holdsOn_0 26 rfl) ?_
      refine r_goto C 45 rfl (dk_at dk_M_holdsOn_0 27 rfl) ?_
      exact r_zret C (Or.inr rfl) h (dk_at dk_M_holdsOn_0 29 rfl)
  )
set_option maxRecDepth 20000 in
theorem t_M_heldOn_j33 {X : CT} {w : WO} (C : CF X w (lim0 w) 4 cX11_heldOn RX11 (some .int) (.code yX11_heldOn cX11_heldOn 4 (some .int)) (rmK 92 2224)) (hL : LyM w) {K4 : DD → Int32 → Int32 → Prop} {post : Int32 → DD → Prop} {a1 : Int32} {a3 : Int32} {t0 : Int32} {t1 : Int32} (k4 : ∀ (σ : DD) (a2 : Int32) (a3 : Int32), K4 σ a2 a3 → gW X w (lim0 w) 4 (QI X w post) σ 4 [(0, .ref (wAd w 0)), (1, .int a1), (2, .int a2), (3, .int a3)] []) {σ : DD} (h : w_M_heldOn_j33 K4 post σ a1 a3 t0 t1) : gW X w (lim0 w) 4 (QI X w post) σ 33 [(0, .ref (wAd w 0)), (1, .int a1), (3, .int a3)] [.int t1, .int t0] := by
  unfold w_M_heldOn_j33 at h
  refine r_ior C (dk_at dk_M_heldOn_0 21 rfl) ?_
  refine r_topi (fun v1 e2 => ?_)
  replace h := h v1 e2
  refine r_istore_n C [(2, .int v1), (0, .ref (wAd w 0)), (1, .int a1), (3, .int a3)] rfl rfl (dk_at dk_M_heldOn_0 22 rfl) ?_
  refine r_iinc C 3 rfl rfl [(3, .int (a3 + 1)), (2, .int v1), (0, .ref (wAd w 0)), (1, .int a1)] rfl rfl (dk_at dk_M_heldOn_0 23 rfl) ?_
  refine r_goto C 4 rfl (dk_at dk_M_heldOn_0 24 rfl) ?_
  refine r_lv [2, 3, 1, 0] rfl ?_
  exact k4 _ _ _ h
set_option maxRecDepth 20000 in
theorem t_M_heldOn_b4 {X : CT} {w : WO} (C : CF X w (lim0 w) 4 cX11_heldOn RX11 (some .int) (.code yX11_heldOn cX11_heldOn 4 (some .int)) (rmK 92 2224)) (hL : LyM w) {a1 : Int32} {K4 : DD → Int32 → Int32 → Prop} {post : Int32 → DD → Prop} (k4 : ∀ (σ : DD) (a2 : Int32) (a3 : Int32), K4 σ a2 a3 → gW X w (lim0 w) 4 (QI X w post) σ 4 [(0, .ref (wAd w 0)), (1, .int a1), (2, .int a2), (3, .int a3)] []) {σ : DD} {a2 : Int32} {a3 : Int32} (h : w_M_heldOn_b4 a1 K4 post σ a2 a3) : gW X w (lim0 w) 4 (QI X w post) σ 4 [(0, .ref (wAd w 0)), (1, .int a1), (2, .int a2), (3, .int a3)] [] := by
  unfold w_M_heldOn_b4 at h
  refine r_iload_n C 3 rfl (dk_at dk_M_heldOn_0 4 rfl) ?_
  refine r_aload_n C 0 rfl (dk_at dk_M_heldOn_0 5 rfl) ?_
  refine r_getR C fl_M_20 0 (hL 0 _ rfl) rfl (dk_at dk_M_heldOn_0 6 rfl) ?_
  refine r_sipush C 399 (dk_at dk_M_heldOn_0 7 rfl) ?_
  refine r_ialdK C 4 (hL 4 _ rfl) lk_399 (vk_399_6012) (dk_at dk_M_heldOn_0 8 rfl) ?_
  refine r_icmp_ge C 41 rfl (dk_at dk_M_heldOn_0 9 rfl) (fun c3 => ?_) (fun c3 => ?_)
  · replace h := h.1 c3
    refine r_iload_n C 2 rfl (dk_at dk_M_heldOn_0 25 rfl) ?_
    exact r_iret C h (dk_at dk_M_heldOn_0 26 rfl)
  · replace h := h.2 c3
    refine r_iload_n C 2 rfl (dk_at dk_M_heldOn_0 10 rfl) ?_
    refine r_aload_n C 0 rfl (dk_at dk_M_heldOn_0 11 rfl) ?_
    refine r_iload_n C 3 rfl (dk_at dk_M_heldOn_0 12 rfl) ?_
    refine r_iload_n C 1 rfl (dk_at dk_M_heldOn_0 13 rfl) ?_
    refine r_cvI C cl_M_307 0 (hL 0 _ rfl) [.int a3, .int a1] (m_M_holdsOn hL h) (rmK_ok rfl rfl) rfl rfl (Nat.le_of_ble_eq_true rfl) (dk_at dk_M_heldOn_0 14 rfl) (fun r4 σ5 h => ?_)
    refine r_if_eq C 32 rfl (dk_at dk_M_heldOn_0 15 rfl) (fun c6 => ?_) (fun c6 => ?_)
    · replace h := h.1 c6
      refine r_iconst C 0 (dk_at dk_M_heldOn_0 20 rfl) ?_
      refine r_lv [0, 1, 3] rfl ?_
      exact t_M_heldOn_j33 C hL k4 h
    · replace h := h.2 c6
      refine r_iconst C 1 (dk_at dk_M_heldOn_0 16 rfl) ?_
      refine r_iload_n C 3 rfl (dk_at dk_M_heldOn_0 17 rfl) ?_
      refine r_ishl C (dk_at dk_M_heldOn_0 18 rfl) ?_
      refine r_goto C 33 rfl (dk_at dk_M_heldOn_0 19 rfl) ?_
      refine r_lv [0, 1, 3] rfl ?_
      exact t_M_heldOn_j33 C hL k4 h
set_option maxRecDepth 20000 in
theorem t_M_heldOn_l4 {X : CT} {w : WO} (C : CF X w (lim0 w) 4 cX11_heldOn RX11 (some .int) (.code yX11_heldOn cX11_heldOn 4 (some .int)) (rmK 92 2224)) (hL : LyM w) {a1 : Int32} {post : Int32 → DD → Prop} {σ : DD} {a2 : Int32} {a3 : Int32} (h : w_M_heldOn_l4 post σ a1 a2 a3) : gW X w (lim0 w) 4 (QI X w post) σ 4 [(0, .ref (wAd w 0)), (1, .int a1), (2, .int a2), (3, .int a3)] [] :=
  LoopW (G := fun x : DD × Int32 × Int32 => gW X w (lim0 w) 4 (QI X w post) x.1 4 [(0, .ref (wAd w 0)), (1, .int a1), (2, .int x.2.1), (3, .int x.2.2)] []) (fun K x hK hF => t_M_heldOn_b4 C hL (fun σ a2 a3 q => hK (σ, a2, a3) q) hF) h
set_option maxRecDepth 20000 in
theorem m_M_heldOn {l : Launch} {w : WO} (hL : LyM w) {σ : DD} {a1 : Int32} {post : Int32 → DD → Prop} (h : w_M_heldOn σ a1 post) : MI l w yX11_heldOn cX11_heldOn 4 .int (rmK 92 2224) σ [.ref (wAd w 0), .int a1] post :=
  met_head (rt := (some .int)) (by decide) rfl (fun X hX C => by
  subst hX
  unfold w_M_heldOn at h
  show gW X w (lim0 w) 4 (QI X w post) σ 0 [(0, .ref (wAd w 0)), (1, .int a1)] []
  refine r_iconst C 0 (dk_at dk_M_heldOn_0 0 rfl) ?_
  refine r_istore_n C [(2, .int 0), (0, .ref (wAd w 0)), (1, .int a1)] rfl rfl (dk_at dk_M_heldOn_0 1 rfl) ?_
  refine r_iconst C 0 (dk_at dk_M_heldOn_0 2 rfl) ?_
  refine r_istore_n C [(3, .int 0), (2, .int 0), (0, .ref (wAd w 0)), (1, .int a1)] rfl rfl (dk_at dk_M_heldOn_0 3 rfl) ?_
  refine r_lv [2, 3, 1, 0] rfl ?_
  exact t_M_heldOn_l4 C hL h
  )
set_option maxRecDepth 20000 in
theorem t_M_leftOn_j68 {X : CT} {w : WO} (C : CF X w (lim0 w) 5 cX11_leftOn RX11 (some .int) (.code yX11_leftOn cX11_leftOn 5 (some .int)) (rmK 91 2201)) (hL : LyM w) {K15 : DD → Int32 → Int32 → Prop} {post : Int32 → DD → Prop} {a1 : Int32} {a2 : Int32} {a4 : Int32} {t0 : Int32} {t1 : Int32} (k15 : ∀ (σ : DD) (a3 : Int32) (a4 : Int32), K15 σ a3 a4 → gW X w (lim0 w) 5 (QI X w post) σ 15 [(0, .ref (wAd w 0)), (1, .int a1), (2, .int a2), (3, .int a3), (4, .int a4)] []) {σ : DD} (h : w_M_leftOn_j68 K15 post σ a1 a2 a4 t0 t1) : gW X w (lim0 w) 5 (QI X w post) σ 68 [(0, .ref (wAd w 0)), (1, .int a1), (2, .int a2), (4, .int a4)] [.int t1, .int t0] := by
  unfold w_M_leftOn_j68 at h
  refine r_isub C (dk_at dk_M_leftOn_1 0 rfl) ?_
  refine r_topi (fun v1 e2 => ?_)
  replace h := h v1 e2
  refine r_istore_n C [(3, .int v1), (0, .ref (wAd w 0)), (1, .int a1), (2, .int a2), (4, .int a4)] rfl rfl (dk_at dk_M_leftOn_1 1 rfl) ?_
  refine r_iinc C 4 rfl rfl [(4, .int (a4 + 1)), (3, .int v1), (0, .ref (wAd w 0)), (1, .int a1), (2, .int a2)] rfl rfl (dk_at dk_M_leftOn_1 2 rfl) ?_
  refine r_goto C 15 rfl (dk_at dk_M_leftOn_1 3 rfl) ?_
  refine r_lv [2, 3, 4, 1, 0] rfl ?_
  exact k15 _ _ _ h
set_option maxRecDepth 20000 in
theorem t_M_leftOn_j67 {X : CT} {w : WO} (C : CF X w (lim0 w) 5 cX11_leftOn RX11 (some .int) (.code yX11_leftOn cX11_leftOn 5 (some .int)) (rmK 91 2201)) (hL : LyM w) {K15 : DD → Int32 → Int32 → Prop} {post : Int32 → DD → Prop} {a1 : Int32} {a2 : Int32} {a4 : Int32} {t0 : Int32} (k15 : ∀ (σ : DD) (a3 : Int32) (a4 : Int32), K15 σ a3 a4 → gW X w (lim0 w) 5 (QI X w post) σ 15 [(0, .ref (wAd w 0)), (1, .int a1), (2, .int a2), (3, .int a3), (4, .int a4)] []) {σ : DD} (h : w_M_leftOn_j67 K15 post σ a1 a2 a4 t0) : gW X w (lim0 w) 5 (QI X w post) σ 67 [(0, .ref (wAd w 0)), (1, .int a1), (2, .int a2), (4, .int a4)] [.int t0] := by
  unfold w_M_leftOn_j67 at h
  refine r_iconst C 0 (dk_at dk_M_leftOn_0 39 rfl) ?_
  refine r_lv [0, 1, 2, 3] rfl ?_
  exact t_M_leftOn_j68 C hL k15 h
set_option maxRecDepth 20000 in
theorem t_M_leftOn_b15 {X : CT} {w : WO} (C : CF X w (lim0 w) 5 cX11_leftOn RX11 (some .int) (.code yX11_leftOn cX11_leftOn 5 (some .int)) (rmK 91 2201)) (hL : LyM w) {a1 : Int32} {a2 : Int32} {K15 : DD → Int32 → Int32 → Prop} {post : Int32 → DD → Prop} (k15 : ∀ (σ : DD) (a3 : Int32) (a4 : Int32), K15 σ a3 a4 → gW X w (lim0 w) 5 (QI X w post) σ 15 [(0, .ref (wAd w 0)), (1, .int a1), (2, .int a2), (3, .int a3), (4, .int a4)] []) {σ : DD} {a3 : Int32} {a4 : Int32} (h : w_M_leftOn_b15 a1 a2 K15 post σ a3 a4) : gW X w (lim0 w) 5 (QI X w post) σ 15 [(0, .ref (wAd w 0)), (1, .int a1), (2, .int a2), (3, .int a3), (4, .int a4)] [] := by
  unfold w_M_leftOn_b15 at h
  refine r_iload C 4 rfl (dk_at dk_M_leftOn_0 11 rfl) ?_
  refine r_aload_n C 0 rfl (dk_at dk_M_leftOn_0 12 rfl) ?_
  refine r_getR C fl_M_20 0 (hL 0 _ rfl) rfl (dk_at dk_M_leftOn_0 13 rfl) ?_
  refine r_sipush C 401 (dk_at dk_M_leftOn_0 14 rfl) ?_
  refine r_ialdK C 4 (hL 4 _ rfl) lk_401 (vk_401_6012) (dk_at dk_M_leftOn_0 15 rfl) ?_
  refine r_icmp_ge C 76 rfl (dk_at dk_M_leftOn_0 16 rfl) (fun c3 => ?_) (fun c3 => ?_)
  · replace h := h.1 c3
    refine r_iload_n C 3 rfl (dk_at dk_M_leftOn_1 4 rfl) ?_
    exact r_iret C h (dk_at dk_M_leftOn_1 5 rfl)
  · replace h := h.2 c3
    refine r_iload_n C 3 rfl (dk_at dk_M_leftOn_0 17 rfl) ?_
    refine r_aload_n C 0 rfl (dk_at dk_M_leftOn_0 18 rfl) ?_
    refine r_iload C 4 rfl (dk_at dk_M_leftOn_0 19 rfl) ?_
    refine r_iconst C 1 (dk_at dk_M_leftOn_0 20 rfl) ?_
    refine r_cvI C cl_M_137 0 (hL 0 _ rfl) [.int a4, .int 1] (m_M_reading hL h) (rmK_ok rfl rfl) rfl rfl (Nat.le_of_ble_eq_true rfl) (dk_at dk_M_leftOn_0 21 rfl) (fun r4 σ5 h => ?_)
    refine r_iload_n C 1 rfl (dk_at dk_M_leftOn_0 22 rfl) ?_
    refine r_icmp_ne C 67 rfl (dk_at dk_M_leftOn_0 23 rfl) (fun c6 => ?_) (fun c6 => ?_)
    · replace h := h.1 c6
      refine r_lv [0, 1, 2, 4] rfl ?_
      exact t_M_leftOn_j67 C hL k15 h
    · replace h := h.2 c6
      refine r_aload_n C 0 rfl (dk_at dk_M_leftOn_0 24 rfl) ?_
      refine r_iload C 4 rfl (dk_at dk_M_leftOn_0 25 rfl) ?_
      refine r_iconst C 2 (dk_at dk_M_leftOn_0 26 rfl) ?_
      refine r_cvI C cl_M_137 0 (hL 0 _ rfl) [.int a4, .int 2] (m_M_reading hL h) (rmK_ok rfl rfl) rfl rfl (Nat.le_of_ble_eq_true rfl) (dk_at dk_M_leftOn_0 27 rfl) (fun r7 σ8 h => ?_)
      refine r_iload_n C 2 rfl (dk_at dk_M_leftOn_0 28 rfl) ?_
      refine r_icmp_ne C 67 rfl (dk_at dk_M_leftOn_0 29 rfl) (fun c9 => ?_) (fun c9 => ?_)
      · replace h := h.1 c9
        refine r_lv [0, 1, 2, 4] rfl ?_
        exact t_M_leftOn_j67 C hL k15 h
      · replace h := h.2 c9
        refine r_aload_n C 0 rfl (dk_at dk_M_leftOn_0 30 rfl) ?_
        refine r_aload_n C 0 rfl (dk_at dk_M_leftOn_0 31 rfl) ?_
        refine r_iload C 4 rfl (dk_at dk_M_leftOn_0 32 rfl) ?_
        refine r_iconst C 0 (dk_at dk_M_leftOn_0 33 rfl) ?_
        refine r_cvI C cl_M_137 0 (hL 0 _ rfl) [.int a4, .int 0] (m_M_reading hL h) (rmK_ok rfl rfl) rfl rfl (Nat.le_of_ble_eq_true rfl) (dk_at dk_M_leftOn_0 34 rfl) (fun r10 σ11 h => ?_)
        refine r_iload_n C 1 rfl (dk_at dk_M_leftOn_0 35 rfl) ?_
        refine r_iload_n C 2 rfl (dk_at dk_M_leftOn_0 36 rfl) ?_
        refine r_cvI C cl_M_310 0 (hL 0 _ rfl) [.int r10, .int a1, .int a2] (m_M_takesOf hL h) (rmK_ok rfl rfl) rfl rfl (Nat.le_of_ble_eq_true rfl) (dk_at dk_M_leftOn_0 37 rfl) (fun r12 σ13 h => ?_)
        refine r_goto C 68 rfl (dk_at dk_M_leftOn_0 38 rfl) ?_
        refine r_lv [0, 1, 2, 4] rfl ?_
        exact t_M_leftOn_j68 C hL k15 h
set_option maxRecDepth 20000 in
theorem t_M_leftOn_l15 {X : CT} {w : WO} (C : CF X w (lim0 w) 5 cX11_leftOn RX11 (some .int) (.code yX11_leftOn cX11_leftOn 5 (some .int)) (rmK 91 2201)) (hL : LyM w) {a1 : Int32} {a2 : Int32} {post : Int32 → DD → Prop} {σ : DD} {a3 : Int32} {a4 : Int32} (h : w_M_leftOn_l15 post σ a1 a2 a3 a4) : gW X w (lim0 w) 5 (QI X w post) σ 15 [(0, .ref (wAd w 0)), (1, .int a1), (2, .int a2), (3, .int a3), (4, .int a4)] [] :=
  LoopW (G := fun x : DD × Int32 × Int32 => gW X w (lim0 w) 5 (QI X w post) x.1 15 [(0, .ref (wAd w 0)), (1, .int a1), (2, .int a2), (3, .int x.2.1), (4, .int x.2.2)] []) (fun K x hK hF => t_M_leftOn_b15 C hL (fun σ a3 a4 q => hK (σ, a3, a4) q) hF) h
set_option maxRecDepth 20000 in
theorem m_M_leftOn {l : Launch} {w : WO} (hL : LyM w) {σ : DD} {a1 : Int32} {a2 : Int32} {post : Int32 → DD → Prop} (h : w_M_leftOn σ a1 a2 post) : MI l w yX11_leftOn cX11_leftOn 5 .int (rmK 91 2201) σ [.ref (wAd w 0), .int a1, .int a2] post :=
  met_head (rt := (some .int)) (by decide) rfl (fun X hX C => by
  subst hX
  unfold w_M_leftOn at h
  show gW X w (lim0 w) 5 (QI X w post) σ 0 [(0, .ref (wAd w 0)), (1, .int a1), (2, .int a2)] []
  refine r_aload_n C 0 rfl (dk_at dk_M_leftOn_0 0 rfl) ?_
  refine r_getR C fl_M_20 0 (hL 0 _ rfl) rfl (dk_at dk_M_leftOn_0 1 rfl) ?_
  refine r_bipush C 96 (dk_at dk_M_leftOn_0 2 rfl) ?_
  refine r_iconst C 2 (dk_at dk_M_leftOn_0 3 rfl) ?_
  refine r_iload_n C 1 rfl (dk_at dk_M_leftOn_0 4 rfl) ?_
  refine r_imul C (dk_at dk_M_leftOn_0 5 rfl) ?_
  refine r_iadd C (dk_at dk_M_leftOn_0 6 rfl) ?_
  obtain ⟨q14, h⟩ := h
  refine r_iald C 4 (hL 4 _ rfl) q14 (dk_at dk_M_leftOn_0 7 rfl) ?_
  refine r_topi (fun v15 e16 => ?_)
  replace h := h v15 e16
  refine r_istore_n C [(3, .int v15), (0, .ref (wAd w 0)), (1, .int a1), (2, .int a2)] rfl rfl (dk_at dk_M_leftOn_0 8 rfl) ?_
  refine r_iconst C 0 (dk_at dk_M_leftOn_0 9 rfl) ?_
  refine r_istore C [(4, .int 0), (3, .int v15), (0, .ref (wAd w 0)), (1, .int a1), (2, .int a2)] rfl rfl (dk_at dk_M_leftOn_0 10 rfl) ?_
  refine r_lv [2, 3, 4, 1, 0] rfl ?_
  exact t_M_leftOn_l15 C hL h
  )
set_option maxRecDepth 20000 in
theorem t_M_canRead_j121 {X : CT} {w : WO} (C : CF X w (lim0 w) 5 cX11_canRead RX11 (some .boolean) (.code yX11_canRead cX11_canRead 5 (some .boolean)) (rmK 92 2225)) (hL : LyM w) {post : Int32 → DD → Prop} {a1 : Int32} {a2 : Int32} {a3 : Int32} {σ : DD} (h : w_M_canRead_j121 post σ a1 a2 a3) : gW X w (lim0 w) 5 (QI X w post) σ 121 [(0, .ref (wAd w 0)), (1, .int a1), (2, .int a2), (3, .int a3)] [] := by
  unfold w_M_canRead_j121 at h
  refine r_aload_n C 0 rfl (dk_at dk_M_canRead_1 30 rfl) ?_
  refine r_iload_n C 2 rfl (dk_at dk_M_canRead_1 31 rfl) ?_
  refine r_iload_n C 3 rfl (dk_at dk_M_canRead_1 32 rfl) ?_
  refine r_cvI C cl_M_319 0 (hL 0 _ rfl) [.int a2, .int a3] (m_M_leftOn hL h) (rmK_ok rfl rfl) rfl rfl (Nat.le_of_ble_eq_true rfl) (dk_at dk_M_canRead_1 33 rfl) (fun r1 σ2 h => ?_)
  refine r_aload_n C 0 rfl (dk_at dk_M_canRead_1 34 rfl) ?_
  refine r_iload_n C 1 rfl (dk_at dk_M_canRead_1 35 rfl) ?_
  refine r_iload_n C 2 rfl (dk_at dk_M_canRead_1 36 rfl) ?_
  refine r_iload_n C 3 rfl (dk_at dk_M_canRead_1 37 rfl) ?_
  refine r_cvI C cl_M_310 0 (hL 0 _ rfl) [.int a1, .int a2, .int a3] (m_M_takesOf hL h) (rmK_ok rfl rfl) rfl rfl (Nat.le_of_ble_eq_true rfl) (dk_at dk_M_canRead_1 38 rfl) (fun r3 σ4 h => ?_)
  refine r_icmp_lt C 141 rfl (dk_at dk_M_canRead_1 39 rfl) (fun c5 => ?_) (fun c5 => ?_)
  · replace h := h.1 c5
    refine r_iconst C 0 (dk_at dk_M_canRead_2 2 rfl) ?_
    exact r_zret C (Or.inl rfl) h (dk_at dk_M_canRead_2 3 rfl)
  · replace h := h.2 c5
    refine r_iconst C 1 (dk_at dk_M_canRead_2 0 rfl) ?_
    refine r_goto C 142 rfl (dk_at dk_M_canRead_2 1 rfl) ?_
    exact r_zret C (Or.inr rfl) h (dk_at dk_M_canRead_2 3 rfl)
set_option maxRecDepth 20000 in
theorem t_M_canRead_b37 {X : CT} {w : WO} (C : CF X w (lim0 w) 5 cX11_canRead RX11 (some .boolean) (.code yX11_canRead cX11_canRead 5 (some .boolean)) (rmK 92 2225)) (hL : LyM w) {a1 : Int32} {a2 : Int32} {a3 : Int32} {K37 : DD → Int32 → Prop} {post : Int32 → DD → Prop} (k37 : ∀ (σ : DD) (a4 : Int32), K37 σ a4 → gW X w (lim0 w) 5 (QI X w post) σ 37 [(0, .ref (wAd w 0)), (1, .int a1), (2, .int a2), (3, .int a3), (4, .int a4)] []) {σ : DD} {a4 : Int32} (h : w_M_canRead_b37 a1 a2 a3 K37 post σ a4) : gW X w (lim0 w) 5 (QI X w post) σ 37 [(0, .ref (wAd w 0)), (1, .int a1), (2, .int a2), (3, .int a3), (4, .int a4)] [] := by
  unfold w_M_canRead_b37 at h
  refine r_iload C 4 rfl (dk_at dk_M_canRead_0 24 rfl) ?_
  refine r_aload_n C 0 rfl (dk_at dk_M_canRead_0 25 rfl) ?_
  refine r_getR C fl_M_20 0 (hL 0 _ rfl) rfl (dk_at dk_M_canRead_0 26 rfl) ?_
  refine r_sipush C 401 (dk_at dk_M_canRead_0 27 rfl) ?_
  refine r_ialdK C 4 (hL 4 _ rfl) lk_401 (vk_401_6012) (dk_at dk_M_canRead_0 28 rfl) ?_
  refine r_icmp_ge C 95 rfl (dk_at dk_M_canRead_0 29 rfl) (fun c6 => ?_) (fun c6 => ?_)
  · replace h := h.1 c6
    refine r_aload_n C 0 rfl (dk_at dk_M_canRead_1 14 rfl) ?_
    refine r_iload_n C 1 rfl (dk_at dk_M_canRead_1 15 rfl) ?_
    refine r_iconst C 3 (dk_at dk_M_canRead_1 16 rfl) ?_
    refine r_cvI C cl_M_124 0 (hL 0 _ rfl) [.int a1, .int 3] (m_M_fact hL h) (rmK_ok rfl rfl) rfl rfl (Nat.le_of_ble_eq_true rfl) (dk_at dk_M_canRead_1 17 rfl) (fun r7 σ8 h => ?_)
    refine r_iconst C (-1) (dk_at dk_M_canRead_1 18 rfl) ?_
    refine r_icmp_eq C 121 rfl (dk_at dk_M_canRead_1 19 rfl) (fun c9 => ?_) (fun c9 => ?_)
    · replace h := h.1 c9
      refine r_lv [0, 1, 2, 3] rfl ?_
      exact t_M_canRead_j121 C hL h
    · replace h := h.2 c9
      refine r_aload_n C 0 rfl (dk_at dk_M_canRead_1 20 rfl) ?_
      refine r_aload_n C 0 rfl (dk_at dk_M_canRead_1 21 rfl) ?_
      refine r_iload_n C 1 rfl (dk_at dk_M_canRead_1 22 rfl) ?_
      refine r_iconst C 3 (dk_at dk_M_canRead_1 23 rfl) ?_
      refine r_cvI C cl_M_124 0 (hL 0 _ rfl) [.int a1, .int 3] (m_M_fact hL h) (rmK_ok rfl rfl) rfl rfl (Nat.le_of_ble_eq_true rfl) (dk_at dk_M_canRead_1 24 rfl) (fun r10 σ11 h => ?_)
      refine r_iload_n C 3 rfl (dk_at dk_M_canRead_1 25 rfl) ?_
      refine r_cvI C cl_M_307 0 (hL 0 _ rfl) [.int r10, .int a3] (m_M_holdsOn hL h) (rmK_ok rfl rfl) rfl rfl (Nat.le_of_ble_eq_true rfl) (dk_at dk_M_canRead_1 26 rfl) (fun r12 σ13 h => ?_)
      refine r_if_ne C 121 rfl (dk_at dk_M_canRead_1 27 rfl) (fun c14 => ?_) (fun c14 => ?_)
      · replace h := h.1 c14
        refine r_lv [0, 1, 2, 3] rfl ?_
        exact t_M_canRead_j121 C hL h
      · replace h := h.2 c14
        refine r_iconst C 0 (dk_at dk_M_canRead_1 28 rfl) ?_
        exact r_zret C (Or.inl rfl) h (dk_at dk_M_canRead_1 29 rfl)
  · replace h := h.2 c6
    refine r_aload_n C 0 rfl (dk_at dk_M_canRead_0 30 rfl) ?_
    refine r_iload C 4 rfl (dk_at dk_M_canRead_0 31 rfl) ?_
    refine r_iconst C 2 (dk_at dk_M_canRead_0 32 rfl) ?_
    refine r_cvI C cl_M_137 0 (hL 0 _ rfl) [.int a4, .int 2] (m_M_reading hL h) (rmK_ok rfl rfl) rfl rfl (Nat.le_of_ble_eq_true rfl) (dk_at dk_M_canRead_0 33 rfl) (fun r15 σ16 h => ?_)
    refine r_iload_n C 3 rfl (dk_at dk_M_canRead_0 34 rfl) ?_
    refine r_icmp_ne C 89 rfl (dk_at dk_M_canRead_0 35 rfl) (fun c17 => ?_) (fun c17 => ?_)
    · replace h := h.1 c17
      refine r_iinc C 4 rfl rfl [(4, .int (a4 + 1)), (0, .ref (wAd w 0)), (1, .int a1), (2, .int a2), (3, .int a3)] rfl rfl (dk_at dk_M_canRead_1 12 rfl) ?_
      refine r_goto C 37 rfl (dk_at dk_M_canRead_1 13 rfl) ?_
      refine r_lv [1, 2, 3, 4, 0] rfl ?_
      exact k37 _ _ h
    · replace h := h.2 c17
      refine r_aload_n C 0 rfl (dk_at dk_M_canRead_0 36 rfl) ?_
      refine r_iload C 4 rfl (dk_at dk_M_canRead_0 37 rfl) ?_
      refine r_iconst C 0 (dk_at dk_M_canRead_0 38 rfl) ?_
      refine r_cvI C cl_M_137 0 (hL 0 _ rfl) [.int a4, .int 0] (m_M_reading hL h) (rmK_ok rfl rfl) rfl rfl (Nat.le_of_ble_eq_true rfl) (dk_at dk_M_canRead_0 39 rfl) (fun r18 σ19 h => ?_)
      refine r_iload_n C 1 rfl (dk_at dk_M_canRead_1 0 rfl) ?_
      refine r_icmp_eq C 87 rfl (dk_at dk_M_canRead_1 1 rfl) (fun c20 => ?_) (fun c20 => ?_)
      · replace h := h.1 c20
        refine r_iconst C 0 (dk_at dk_M_canRead_1 10 rfl) ?_
        exact r_zret C (Or.inl rfl) h (dk_at dk_M_canRead_1 11 rfl)
      · replace h := h.2 c20
        refine r_aload_n C 0 rfl (dk_at dk_M_canRead_1 2 rfl) ?_
        refine r_iload_n C 1 rfl (dk_at dk_M_canRead_1 3 rfl) ?_
        refine r_aload_n C 0 rfl (dk_at dk_M_canRead_1 4 rfl) ?_
        refine r_iload C 4 rfl (dk_at dk_M_canRead_1 5 rfl) ?_
        refine r_iconst C 0 (dk_at dk_M_canRead_1 6 rfl) ?_
        refine r_cvI C cl_M_137 0 (hL 0 _ rfl) [.int a4, .int 0] (m_M_reading hL h) (rmK_ok rfl rfl) rfl rfl (Nat.le_of_ble_eq_true rfl) (dk_at dk_M_canRead_1 7 rfl) (fun r21 σ22 h => ?_)
        refine r_cvI C cl_M_316 0 (hL 0 _ rfl) [.int a1, .int r21] (m_M_gainsays hL h) (rmK_ok rfl rfl) rfl rfl (Nat.le_of_ble_eq_true rfl) (dk_at dk_M_canRead_1 8 rfl) (fun r23 σ24 h => ?_)
        refine r_if_eq C 89 rfl (dk_at dk_M_canRead_1 9 rfl) (fun c25 => ?_) (fun c25 => ?_)
        · replace h := h.1 c25
          refine r_iinc C 4 rfl rfl [(4, .int (a4 + 1)), (0, .ref (wAd w 0)), (1, .int a1), (2, .int a2), (3, .int a3)] rfl rfl (dk_at dk_M_canRead_1 12 rfl) ?_
          refine r_goto C 37 rfl (dk_at dk_M_canRead_1 13 rfl) ?_
          refine r_lv [1, 2, 3, 4, 0] rfl ?_
          exact k37 _ _ h
        · replace h := h.2 c25
          refine r_iconst C 0 (dk_at dk_M_canRead_1 10 rfl) ?_
          exact r_zret C (Or.inl rfl) h (dk_at dk_M_canRead_1 11 rfl)
set_option maxRecDepth 20000 in
theorem t_M_canRead_l37 {X : CT} {w : WO} (C : CF X w (lim0 w) 5 cX11_canRead RX11 (some .boolean) (.code yX11_canRead cX11_canRead 5 (some .boolean)) (rmK 92 2225)) (hL : LyM w) {a1 : Int32} {a2 : Int32} {a3 : Int32} {post : Int32 → DD → Prop} {σ : DD} {a4 : Int32} (h : w_M_canRead_l37 post σ a1 a2 a3 a4) : gW X w (lim0 w) 5 (QI X w post) σ 37 [(0, .ref (wAd w 0)), (1, .int a1), (2, .int a2), (3, .int a3), (4, .int a4)] [] :=
  LoopW (G := fun x : DD × Int32 => gW X w (lim0 w) 5 (QI X w post) x.1 37 [(0, .ref (wAd w 0)), (1, .int a1), (2, .int a2), (3, .int a3), (4, .int x.2)] []) (fun K x hK hF => t_M_canRead_b37 C hL (fun σ a4 q => hK (σ, a4) q) hF) h
set_option maxRecDepth 20000 in
theorem m_M_canRead {l : Launch} {w : WO} (hL : LyM w) {σ : DD} {a1 : Int32} {a2 : Int32} {a3 : Int32} {post : Int32 → DD → Prop} (h : w_M_canRead σ a1 a2 a3 post) : MI l w yX11_canRead cX11_canRead 5 .boolean (rmK 92 2225) σ [.ref (wAd w 0), .int a1, .int a2, .int a3] post :=
  met_head (rt := (some .boolean)) (by decide) rfl (fun X hX C => by
  subst hX
  unfold w_M_canRead at h
  show gW X w (lim0 w) 5 (QI X w post) σ 0 [(0, .ref (wAd w 0)), (1, .int a1), (2, .int a2), (3, .int a3)] []
  refine r_aload_n C 0 rfl (dk_at dk_M_canRead_0 0 rfl) ?_
  refine r_iload_n C 1 rfl (dk_at dk_M_canRead_0 1 rfl) ?_
  refine r_iload_n C 2 rfl (dk_at dk_M_canRead_0 2 rfl) ?_
  refine r_iload_n C 3 rfl (dk_at dk_M_canRead_0 3 rfl) ?_
  refine r_cvI C cl_M_313 0 (hL 0 _ rfl) [.int a1, .int a2, .int a3] (m_M_isBarred hL h) (rmK_ok rfl rfl) rfl rfl (Nat.le_of_ble_eq_true rfl) (dk_at dk_M_canRead_0 4 rfl) (fun r26 σ27 h => ?_)
  refine r_if_ne C 32 rfl (dk_at dk_M_canRead_0 5 rfl) (fun c28 => ?_) (fun c28 => ?_)
  · replace h := h.1 c28
    refine r_iconst C 0 (dk_at dk_M_canRead_0 20 rfl) ?_
    exact r_zret C (Or.inl rfl) h (dk_at dk_M_canRead_0 21 rfl)
  · replace h := h.2 c28
    refine r_aload_n C 0 rfl (dk_at dk_M_canRead_0 6 rfl) ?_
    refine r_getR C fl_M_20 0 (hL 0 _ rfl) rfl (dk_at dk_M_canRead_0 7 rfl) ?_
    refine r_bipush C 104 (dk_at dk_M_canRead_0 8 rfl) ?_
    refine r_iload_n C 3 rfl (dk_at dk_M_canRead_0 9 rfl) ?_
    refine r_bipush C 7 (dk_at dk_M_canRead_0 10 rfl) ?_
    refine r_irem C (by decide) (dk_at dk_M_canRead_0 11 rfl) ?_
    refine r_iadd C (dk_at dk_M_canRead_0 12 rfl) ?_
    obtain ⟨q29, h⟩ := h
    refine r_iald C 4 (hL 4 _ rfl) q29 (dk_at dk_M_canRead_0 13 rfl) ?_
    refine r_aload_n C 0 rfl (dk_at dk_M_canRead_0 14 rfl) ?_
    refine r_iload_n C 1 rfl (dk_at dk_M_canRead_0 15 rfl) ?_
    refine r_iconst C 2 (dk_at dk_M_canRead_0 16 rfl) ?_
    refine r_cvI C cl_M_124 0 (hL 0 _ rfl) [.int a1, .int 2] (m_M_fact hL h) (rmK_ok rfl rfl) rfl rfl (Nat.le_of_ble_eq_true rfl) (dk_at dk_M_canRead_0 17 rfl) (fun r30 σ31 h => ?_)
    refine r_iand C (dk_at dk_M_canRead_0 18 rfl) ?_
    refine r_if_ne C 34 rfl (dk_at dk_M_canRead_0 19 rfl) (fun c32 => ?_) (fun c32 => ?_)
    · replace h := h.1 c32
      refine r_iconst C 0 (dk_at dk_M_canRead_0 22 rfl) ?_
      refine r_istore C [(4, .int 0), (0, .ref (wAd w 0)), (1, .int a1), (2, .int a2), (3, .int a3)] rfl rfl (dk_at dk_M_canRead_0 23 rfl) ?_
      refine r_lv [1, 2, 3, 4, 0] rfl ?_
      exact t_M_canRead_l37 C hL h
    · replace h := h.2 c32
      refine r_iconst C 0 (dk_at dk_M_canRead_0 20 rfl) ?_
      exact r_zret C (Or.inl rfl) h (dk_at dk_M_canRead_0 21 rfl)
  )
set_option maxRecDepth 20000 in
theorem m_M_of {l : Launch} {w : WO} (hL : LyM w) {σ : DD} {a1 : Int32} {a2 : Int32} {post : Int32 → DD → Prop} (h : w_M_of σ a1 a2 post) : MI l w yX11_of cX11_of 4 .int (rmK 92 2224) σ [.ref (wAd w 0), .int a1, .int a2] post :=
  met_head (rt := (some .int)) (by decide) rfl (fun X hX C => by
  subst hX
  unfold w_M_of at h
  show gW X w (lim0 w) 4 (QI X w post) σ 0 [(0, .ref (wAd w 0)), (1, .int a1), (2, .int a2)] []
  refine r_aload_n C 0 rfl (dk_at dk_M_of_0 0 rfl) ?_
  refine r_iload_n C 1 rfl (dk_at dk_M_of_0 1 rfl) ?_
  refine r_cvI C cl_M_120 0 (hL 0 _ rfl) [.int a1] (m_M_isAct hL h) (rmK_ok rfl rfl) rfl rfl (Nat.le_of_ble_eq_true rfl) (dk_at dk_M_of_0 2 rfl) (fun r1 σ2 h => ?_)
  refine r_if_ne C 10 rfl (dk_at dk_M_of_0 3 rfl) (fun c3 => ?_) (fun c3 => ?_)
  · replace h := h.1 c3
    refine r_iload_n C 2 rfl (dk_at dk_M_of_0 6 rfl) ?_
    refine r_iconst C 0 (dk_at dk_M_of_0 7 rfl) ?_
    refine r_iconst C 3 (dk_at dk_M_of_0 8 rfl) ?_
    refine r_csI C cs_M_101 [.int a2, .int 0, .int 3] (m_M_lies hL h) (rmK_ok rfl rfl) rfl rfl (Nat.le_of_ble_eq_true rfl) (dk_at dk_M_of_0 9 rfl) (fun r4 σ5 h => ?_)
    refine r_if_eq C 26 rfl (dk_at dk_M_of_0 10 rfl) (fun c6 => ?_) (fun c6 => ?_)
    · replace h := h.1 c6
      refine r_iload_n C 2 rfl (dk_at dk_M_of_0 16 rfl) ?_
      refine r_iconst C 5 (dk_at dk_M_of_0 17 rfl) ?_
      refine r_icmp_ne C 53 rfl (dk_at dk_M_of_0 18 rfl) (fun c7 => ?_) (fun c7 => ?_)
      · replace h := h.1 c7
        refine r_aload_n C 0 rfl (dk_at dk_M_of_0 31 rfl) ?_
        refine r_iload_n C 1 rfl (dk_at dk_M_of_0 32 rfl) ?_
        refine r_aload_n C 0 rfl (dk_at dk_M_of_0 33 rfl) ?_
        refine r_getR C fl_M_20 0 (hL 0 _ rfl) rfl (dk_at dk_M_of_0 34 rfl) ?_
        refine r_sipush C 395 (dk_at dk_M_of_0 35 rfl) ?_
        refine r_ialdK C 4 (hL 4 _ rfl) lk_395 (vk_395_6012) (dk_at dk_M_of_0 36 rfl) ?_
        refine r_cvI C cl_M_300 0 (hL 0 _ rfl) [.int a1, .int (gI σ5 4 395)] (m_M_latestOf hL h) (rmK_ok rfl rfl) rfl rfl (Nat.le_of_ble_eq_true rfl) (dk_at dk_M_of_0 37 rfl) (fun r8 σ9 h => ?_)
        refine r_istore_n C [(3, .int r8), (0, .ref (wAd w 0)), (1, .int a1), (2, .int a2)] rfl rfl (dk_at dk_M_of_0 38 rfl) ?_
        refine r_iload_n C 3 rfl (dk_at dk_M_of_0 39 rfl) ?_
        refine r_iconst C 4 (dk_at dk_M_of_1 0 rfl) ?_
        refine r_icmp_ne C 77 rfl (dk_at dk_M_of_1 1 rfl) (fun c10 => ?_) (fun c10 => ?_)
        · replace h := h.1 c10
          refine r_iconst C (-1) (dk_at dk_M_of_1 5 rfl) ?_
          refine r_goto C 96 rfl (dk_at dk_M_of_1 6 rfl) ?_
          exact r_iret C h (dk_at dk_M_of_1 16 rfl)
        · replace h := h.2 c10
          refine r_iload_n C 0 rfl (dk_at dk_M_of_1 2 rfl) ?_
          refine r_iconst C (-1) (dk_at dk_M_of_1 3 rfl) ?_
          refine r_icmp_ne C 81 rfl (dk_at dk_M_of_1 4 rfl) (fun c11 => ?_) (fun c11 => ?_)
          · replace h := h.1 c11
            refine r_aload_n C 1 rfl (dk_at dk_M_of_1 7 rfl) ?_
            refine r_getR C fl_M_20 0 (hL 0 _ rfl) rfl (dk_at dk_M_of_1 8 rfl) ?_
            refine r_sipush C 395 (dk_at dk_M_of_1 9 rfl) ?_
            refine r_ialdK C 4 (hL 4 _ rfl) lk_395 (vk_395_6012) (dk_at dk_M_of_1 10 rfl) ?_
            refine r_aload_n C 1 rfl (dk_at dk_M_of_1 11 rfl) ?_
            refine r_iload_n C 0 rfl (dk_at dk_M_of_1 12 rfl) ?_
            refine r_iconst C 2 (dk_at dk_M_of_1 13 rfl) ?_
            refine r_cvI C cl_M_137 0 (hL 0 _ rfl) [.int r8, .int 2] (m_M_reading hL h) (rmK_ok rfl rfl) rfl rfl (Nat.le_of_ble_eq_true rfl) (dk_at dk_M_of_1 14 rfl) (fun r12 σ13 h => ?_)
            refine r_isub C (dk_at dk_M_of_1 15 rfl) ?_
            exact r_iret C h (dk_at dk_M_of_1 16 rfl)
          · replace h := h.2 c11
            refine r_iconst C (-1) (dk_at dk_M_of_1 5 rfl) ?_
            refine r_goto C 96 rfl (dk_at dk_M_of_1 6 rfl) ?_
            exact r_iret C h (dk_at dk_M_of_1 16 rfl)
      · replace h := h.2 c7
        refine r_aload_n C 0 rfl (dk_at dk_M_of_0 19 rfl) ?_
        refine r_iload_n C 1 rfl (dk_at dk_M_of_0 20 rfl) ?_
        refine r_aload_n C 0 rfl (dk_at dk_M_of_0 21 rfl) ?_
        refine r_getR C fl_M_20 0 (hL 0 _ rfl) rfl (dk_at dk_M_of_0 22 rfl) ?_
        refine r_sipush C 395 (dk_at dk_M_of_0 23 rfl) ?_
        refine r_ialdK C 4 (hL 4 _ rfl) lk_395 (vk_395_6012) (dk_at dk_M_of_0 24 rfl) ?_
        refine r_cvI C cl_M_307 0 (hL 0 _ rfl) [.int a1, .int (gI σ5 4 395)] (m_M_holdsOn hL h) (rmK_ok rfl rfl) rfl rfl (Nat.le_of_ble_eq_true rfl) (dk_at dk_M_of_0 25 rfl) (fun r14 σ15 h => ?_)
        refine r_if_eq C 51 rfl (dk_at dk_M_of_0 26 rfl) (fun c16 => ?_) (fun c16 => ?_)
        · replace h := h.1 c16
          refine r_iconst C 0 (dk_at dk_M_of_0 29 rfl) ?_
          exact r_iret C h (dk_at dk_M_of_0 30 rfl)
        · replace h := h.2 c16
          refine r_iconst C 1 (dk_at dk_M_of_0 27 rfl) ?_
          refine r_goto C 52 rfl (dk_at dk_M_of_0 28 rfl) ?_
          exact r_iret C h (dk_at dk_M_of_0 30 rfl)
    · replace h := h.2 c6
      refine r_aload_n C 0 rfl (dk_at dk_M_of_0 11 rfl) ?_
      refine r_iload_n C 1 rfl (dk_at dk_M_of_0 12 rfl) ?_
      refine r_iload_n C 2 rfl (dk_at dk_M_of_0 13 rfl) ?_
      refine r_cvI C cl_M_124 0 (hL 0 _ rfl) [.int a1, .int a2] (m_M_fact hL h) (rmK_ok rfl rfl) rfl rfl (Nat.le_of_ble_eq_true rfl) (dk_at dk_M_of_0 14 rfl) (fun r17 σ18 h => ?_)
      exact r_iret C h (dk_at dk_M_of_0 15 rfl)
  · replace h := h.2 c3
    refine r_iconst C (-1) (dk_at dk_M_of_0 4 rfl) ?_
    exact r_iret C h (dk_at dk_M_of_0 5 rfl)
  )
set_option maxRecDepth 20000 in
theorem m_M_throat {l : Launch} {w : WO} (hL : LyM w) {σ : DD} {a1 : Int32} {a2 : Int32} {post : Int32 → DD → Prop} (h : w_M_throat σ a1 a2 post) : MI l w yX11_throat cX11_throat 3 .int (rmK 92 2225) σ [.ref (wAd w 0), .int a1, .int a2] post :=
  met_head (rt := (some .int)) (by decide) rfl (fun X hX C => by
  subst hX
  unfold w_M_throat at h
  show gW X w (lim0 w) 3 (QI X w post) σ 0 [(0, .ref (wAd w 0)), (1, .int a1), (2, .int a2)] []
  refine r_aload_n C 0 rfl (dk_at dk_M_throat_0 0 rfl) ?_
  refine r_iload_n C 1 rfl (dk_at dk_M_throat_0 1 rfl) ?_
  refine r_cvI C cl_M_322 0 (hL 0 _ rfl) [.int a1] (m_M_isReader hL h) (rmK_ok rfl rfl) rfl rfl (Nat.le_of_ble_eq_true rfl) (dk_at dk_M_throat_0 2 rfl) (fun r1 σ2 h => ?_)
  refine r_if_eq C 17 rfl (dk_at dk_M_throat_0 3 rfl) (fun c3 => ?_) (fun c3 => ?_)
  · replace h := h.1 c3
    refine r_iconst C (-1) (dk_at dk_M_throat_0 9 rfl) ?_
    exact r_iret C h (dk_at dk_M_throat_0 10 rfl)
  · replace h := h.2 c3
    refine r_iload_n C 2 rfl (dk_at dk_M_throat_0 4 rfl) ?_
    refine r_iconst C 0 (dk_at dk_M_throat_0 5 rfl) ?_
    refine r_iconst C 2 (dk_at dk_M_throat_0 6 rfl) ?_
    refine r_csI C cs_M_101 [.int a2, .int 0, .int 2] (m_M_lies hL h) (rmK_ok rfl rfl) rfl rfl (Nat.le_of_ble_eq_true rfl) (dk_at dk_M_throat_0 7 rfl) (fun r4 σ5 h => ?_)
    refine r_if_ne C 19 rfl (dk_at dk_M_throat_0 8 rfl) (fun c6 => ?_) (fun c6 => ?_)
    · replace h := h.1 c6
      refine r_iload_n C 2 rfl (dk_at dk_M_throat_0 11 rfl) ?_
      refine r_iconst C 2 (dk_at dk_M_throat_0 12 rfl) ?_
      refine r_icmp_ne C 40 rfl (dk_at dk_M_throat_0 13 rfl) (fun c7 => ?_) (fun c7 => ?_)
      · replace h := h.1 c7
        refine r_aload_n C 0 rfl (dk_at dk_M_throat_0 22 rfl) ?_
        refine r_getR C fl_M_20 0 (hL 0 _ rfl) rfl (dk_at dk_M_throat_0 23 rfl) ?_
        refine r_bipush C 96 (dk_at dk_M_throat_0 24 rfl) ?_
        refine r_iconst C 2 (dk_at dk_M_throat_0 25 rfl) ?_
        refine r_iload_n C 1 rfl (dk_at dk_M_throat_0 26 rfl) ?_
        refine r_imul C (dk_at dk_M_throat_0 27 rfl) ?_
        refine r_iadd C (dk_at dk_M_throat_0 28 rfl) ?_
        refine r_iload_n C 2 rfl (dk_at dk_M_throat_0 29 rfl) ?_
        refine r_iadd C (dk_at dk_M_throat_0 30 rfl) ?_
        obtain ⟨q8, h⟩ := h
        refine r_iald C 4 (hL 4 _ rfl) q8 (dk_at dk_M_throat_0 31 rfl) ?_
        exact r_iret C h (dk_at dk_M_throat_0 32 rfl)
      · replace h := h.2 c7
        refine r_aload_n C 0 rfl (dk_at dk_M_throat_0 14 rfl) ?_
        refine r_iload_n C 1 rfl (dk_at dk_M_throat_0 15 rfl) ?_
        refine r_aload_n C 0 rfl (dk_at dk_M_throat_0 16 rfl) ?_
        refine r_getR C fl_M_20 0 (hL 0 _ rfl) rfl (dk_at dk_M_throat_0 17 rfl) ?_
        refine r_sipush C 395 (dk_at dk_M_throat_0 18 rfl) ?_
        refine r_ialdK C 4 (hL 4 _ rfl) lk_395 (vk_395_6012) (dk_at dk_M_throat_0 19 rfl) ?_
        refine r_cvI C cl_M_319 0 (hL 0 _ rfl) [.int a1, .int (gI σ5 4 395)] (m_M_leftOn hL h) (rmK_ok rfl rfl) rfl rfl (Nat.le_of_ble_eq_true rfl) (dk_at dk_M_throat_0 20 rfl) (fun r9 σ10 h => ?_)
        refine r_goto C 53 rfl (dk_at dk_M_throat_0 21 rfl) ?_
        exact r_iret C h (dk_at dk_M_throat_0 32 rfl)
    · replace h := h.2 c6
      refine r_iconst C (-1) (dk_at dk_M_throat_0 9 rfl) ?_
      exact r_iret C h (dk_at dk_M_throat_0 10 rfl)
  )
set_option maxRecDepth 20000 in
theorem m_M_asks {l : Launch} {w : WO} (hL : LyM w) {σ : DD} {a1 : Int32} {a2 : Int32} {a3 : Int32} {post : Int32 → DD → Prop} (h : w_M_asks σ a1 a2 a3 post) : MI l w yX11_asks cX11_asks 4 .int (rmK 93 2249) σ [.ref (wAd w 0), .int a1, .int a2, .int a3] post :=
  met_head (rt := (some .int)) (by decide) rfl (fun X hX C => by
  subst hX
  unfold w_M_asks at h
  show gW X w (lim0 w) 4 (QI X w post) σ 0 [(0, .ref (wAd w 0)), (1, .int a1), (2, .int a2), (3, .int a3)] []
  refine r_aload_n C 0 rfl (dk_at dk_M_asks_0 0 rfl) ?_
  refine r_iload_n C 1 rfl (dk_at dk_M_asks_0 1 rfl) ?_
  refine r_cvI C cl_M_120 0 (hL 0 _ rfl) [.int a1] (m_M_isAct hL h) (rmK_ok rfl rfl) rfl rfl (Nat.le_of_ble_eq_true rfl) (dk_at dk_M_asks_0 2 rfl) (fun r1 σ2 h => ?_)
  refine r_if_eq C 16 rfl (dk_at dk_M_asks_0 3 rfl) (fun c3 => ?_) (fun c3 => ?_)
  · replace h := h.1 c3
    refine r_iconst C (-1) (dk_at dk_M_asks_0 8 rfl) ?_
    exact r_iret C h (dk_at dk_M_asks_0 9 rfl)
  · replace h := h.2 c3
    refine r_aload_n C 0 rfl (dk_at dk_M_asks_0 4 rfl) ?_
    refine r_iload_n C 2 rfl (dk_at dk_M_asks_0 5 rfl) ?_
    refine r_cvI C cl_M_322 0 (hL 0 _ rfl) [.int a2] (m_M_isReader hL h) (rmK_ok rfl rfl) rfl rfl (Nat.le_of_ble_eq_true rfl) (dk_at dk_M_asks_0 6 rfl) (fun r4 σ5 h => ?_)
    refine r_if_ne C 18 rfl (dk_at dk_M_asks_0 7 rfl) (fun c6 => ?_) (fun c6 => ?_)
    · replace h := h.1 c6
      refine r_iload_n C 3 rfl (dk_at dk_M_asks_0 10 rfl) ?_
      by_cases c7 : a3 = 0
      · refine r_tabK C 0 c7 (off := 29) (tgt := 48) (by decide) (dk_at dk_M_asks_0 11 rfl) ?_
        replace h := h.1 c7
        refine r_aload_n C 0 rfl (dk_at dk_M_asks_0 12 rfl) ?_
        refine r_iload_n C 1 rfl (dk_at dk_M_asks_0 13 rfl) ?_
        refine r_iload_n C 2 rfl (dk_at dk_M_asks_0 14 rfl) ?_
        refine r_aload_n C 0 rfl (dk_at dk_M_asks_0 15 rfl) ?_
        refine r_getR C fl_M_20 0 (hL 0 _ rfl) rfl (dk_at dk_M_asks_0 16 rfl) ?_
        refine r_sipush C 395 (dk_at dk_M_asks_0 17 rfl) ?_
        refine r_ialdK C 4 (hL 4 _ rfl) lk_395 (vk_395_6012) (dk_at dk_M_asks_0 18 rfl) ?_
        refine r_cvI C cl_M_303 0 (hL 0 _ rfl) [.int a1, .int a2, .int (gI σ5 4 395)] (m_M_lastsFor hL h) (rmK_ok rfl rfl) rfl rfl (Nat.le_of_ble_eq_true rfl) (dk_at dk_M_asks_0 19 rfl) (fun r8 σ9 h => ?_)
        exact r_iret C h (dk_at dk_M_asks_0 20 rfl)
      · replace h := h.2 c7
        by_cases c10 : a3 = 1
        · refine r_tabK C 1 c10 (off := 44) (tgt := 63) (by decide) (dk_at dk_M_asks_0 11 rfl) ?_
          replace h := h.1 c10
          refine r_aload_n C 0 rfl (dk_at dk_M_asks_0 21 rfl) ?_
          refine r_iload_n C 1 rfl (dk_at dk_M_asks_0 22 rfl) ?_
          refine r_iload_n C 2 rfl (dk_at dk_M_asks_0 23 rfl) ?_
          refine r_aload_n C 0 rfl (dk_at dk_M_asks_0 24 rfl) ?_
          refine r_getR C fl_M_20 0 (hL 0 _ rfl) rfl (dk_at dk_M_asks_0 25 rfl) ?_
          refine r_sipush C 395 (dk_at dk_M_asks_0 26 rfl) ?_
          refine r_ialdK C 4 (hL 4 _ rfl) lk_395 (vk_395_6012) (dk_at dk_M_asks_0 27 rfl) ?_
          refine r_cvI C cl_M_310 0 (hL 0 _ rfl) [.int a1, .int a2, .int (gI σ5 4 395)] (m_M_takesOf hL h) (rmK_ok rfl rfl) rfl rfl (Nat.le_of_ble_eq_true rfl) (dk_at dk_M_asks_0 28 rfl) (fun r11 σ12 h => ?_)
          exact r_iret C h (dk_at dk_M_asks_0 29 rfl)
        · replace h := h.2 c10
          by_cases c13 : a3 = 2
          · refine r_tabK C 2 c13 (off := 59) (tgt := 78) (by decide) (dk_at dk_M_asks_0 11 rfl) ?_
            replace h := h.1 c13
            refine r_aload_n C 0 rfl (dk_at dk_M_asks_0 30 rfl) ?_
            refine r_iload_n C 1 rfl (dk_at dk_M_asks_0 31 rfl) ?_
            refine r_iload_n C 2 rfl (dk_at dk_M_asks_0 32 rfl) ?_
            refine r_aload_n C 0 rfl (dk_at dk_M_asks_0 33 rfl) ?_
            refine r_getR C fl_M_20 0 (hL 0 _ rfl) rfl (dk_at dk_M_asks_0 34 rfl) ?_
            refine r_sipush C 395 (dk_at dk_M_asks_0 35 rfl) ?_
            refine r_ialdK C 4 (hL 4 _ rfl) lk_395 (vk_395_6012) (dk_at dk_M_asks_0 36 rfl) ?_
            refine r_cvI C cl_M_313 0 (hL 0 _ rfl) [.int a1, .int a2, .int (gI σ5 4 395)] (m_M_isBarred hL h) (rmK_ok rfl rfl) rfl rfl (Nat.le_of_ble_eq_true rfl) (dk_at dk_M_asks_0 37 rfl) (fun r14 σ15 h => ?_)
            refine r_if_eq C 99 rfl (dk_at dk_M_asks_0 38 rfl) (fun c16 => ?_) (fun c16 => ?_)
            · replace h := h.1 c16
              refine r_iconst C 0 (dk_at dk_M_asks_1 1 rfl) ?_
              exact r_iret C h (dk_at dk_M_asks_1 2 rfl)
            · replace h := h.2 c16
              refine r_iconst C 1 (dk_at dk_M_asks_0 39 rfl) ?_
              refine r_goto C 100 rfl (dk_at dk_M_asks_1 0 rfl) ?_
              exact r_iret C h (dk_at dk_M_asks_1 2 rfl)
          · replace h := h.2 c13
            by_cases c17 : a3 = 3
            · refine r_tabK C 3 c17 (off := 82) (tgt := 101) (by decide) (dk_at dk_M_asks_0 11 rfl) ?_
              replace h := h.1 c17
              refine r_aload_n C 0 rfl (dk_at dk_M_asks_1 3 rfl) ?_
              refine r_iload_n C 1 rfl (dk_at dk_M_asks_1 4 rfl) ?_
              refine r_iload_n C 2 rfl (dk_at dk_M_asks_1 5 rfl) ?_
              refine r_aload_n C 0 rfl (dk_at dk_M_asks_1 6 rfl) ?_
              refine r_getR C fl_M_20 0 (hL 0 _ rfl) rfl (dk_at dk_M_asks_1 7 rfl) ?_
              refine r_sipush C 395 (dk_at dk_M_asks_1 8 rfl) ?_
              refine r_ialdK C 4 (hL 4 _ rfl) lk_395 (vk_395_6012) (dk_at dk_M_asks_1 9 rfl) ?_
              refine r_cvI C cl_M_325 0 (hL 0 _ rfl) [.int a1, .int a2, .int (gI σ5 4 395)] (m_M_canRead hL h) (rmK_ok rfl rfl) rfl rfl (Nat.le_of_ble_eq_true rfl) (dk_at dk_M_asks_1 10 rfl) (fun r18 σ19 h => ?_)
              refine r_if_eq C 122 rfl (dk_at dk_M_asks_1 11 rfl) (fun c20 => ?_) (fun c20 => ?_)
              · replace h := h.1 c20
                refine r_iconst C 0 (dk_at dk_M_asks_1 14 rfl) ?_
                exact r_iret C h (dk_at dk_M_asks_1 15 rfl)
              · replace h := h.2 c20
                refine r_iconst C 1 (dk_at dk_M_asks_1 12 rfl) ?_
                refine r_goto C 123 rfl (dk_at dk_M_asks_1 13 rfl) ?_
                exact r_iret C h (dk_at dk_M_asks_1 15 rfl)
            · replace h := h.2 c17
              refine r_tabD C (tgt := 124) (dk_at dk_M_asks_0 11 rfl) (tab_out (fun k h1 h2 => by rcases (show k = 0 ∨ k = 1 ∨ k = 2 ∨ k = 3 by omega) with rfl | rfl | rfl | rfl <;> assumption)) rfl ?_
              refine r_iconst C (-1) (dk_at dk_M_asks_1 16 rfl) ?_
              exact r_iret C h (dk_at dk_M_asks_1 17 rfl)
    · replace h := h.2 c6
      refine r_iconst C (-1) (dk_at dk_M_asks_0 8 rfl) ?_
      exact r_iret C h (dk_at dk_M_asks_0 9 rfl)
  )
set_option maxRecDepth 20000 in
theorem m_M_readsKept {l : Launch} {w : WO} (hL : LyM w) {σ : DD} {a1 : Int32} {a2 : Int32} {post : Int32 → DD → Prop} (h : w_M_readsKept σ a1 a2 post) : MI l w yX11_readsKept cX11_readsKept 3 .int (rmK 93 2249) σ [.ref (wAd w 0), .int a1, .int a2] post :=
  met_head (rt := (some .int)) (by decide) rfl (fun X hX C => by
  subst hX
  unfold w_M_readsKept at h
  show gW X w (lim0 w) 3 (QI X w post) σ 0 [(0, .ref (wAd w 0)), (1, .int a1), (2, .int a2)] []
  refine r_aload_n C 0 rfl (dk_at dk_M_readsKept_0 0 rfl) ?_
  refine r_iload_n C 1 rfl (dk_at dk_M_readsKept_0 1 rfl) ?_
  refine r_cvI C cl_M_120 0 (hL 0 _ rfl) [.int a1] (m_M_isAct hL h) (rmK_ok rfl rfl) rfl rfl (Nat.le_of_ble_eq_true rfl) (dk_at dk_M_readsKept_0 2 rfl) (fun r1 σ2 h => ?_)
  refine r_if_eq C 16 rfl (dk_at dk_M_readsKept_0 3 rfl) (fun c3 => ?_) (fun c3 => ?_)
  · replace h := h.1 c3
    refine r_bipush C (-2) (dk_at dk_M_readsKept_0 8 rfl) ?_
    exact r_iret C h (dk_at dk_M_readsKept_0 9 rfl)
  · replace h := h.2 c3
    refine r_aload_n C 0 rfl (dk_at dk_M_readsKept_0 4 rfl) ?_
    refine r_iload_n C 2 rfl (dk_at dk_M_readsKept_0 5 rfl) ?_
    refine r_cvI C cl_M_322 0 (hL 0 _ rfl) [.int a2] (m_M_isReader hL h) (rmK_ok rfl rfl) rfl rfl (Nat.le_of_ble_eq_true rfl) (dk_at dk_M_readsKept_0 6 rfl) (fun r4 σ5 h => ?_)
    refine r_if_ne C 19 rfl (dk_at dk_M_readsKept_0 7 rfl) (fun c6 => ?_) (fun c6 => ?_)
    · replace h := h.1 c6
      refine r_aload_n C 0 rfl (dk_at dk_M_readsKept_0 10 rfl) ?_
      refine r_iload_n C 1 rfl (dk_at dk_M_readsKept_0 11 rfl) ?_
      refine r_iload_n C 2 rfl (dk_at dk_M_readsKept_0 12 rfl) ?_
      refine r_aload_n C 0 rfl (dk_at dk_M_readsKept_0 13 rfl) ?_
      refine r_getR C fl_M_20 0 (hL 0 _ rfl) rfl (dk_at dk_M_readsKept_0 14 rfl) ?_
      refine r_sipush C 395 (dk_at dk_M_readsKept_0 15 rfl) ?_
      refine r_ialdK C 4 (hL 4 _ rfl) lk_395 (vk_395_6012) (dk_at dk_M_readsKept_0 16 rfl) ?_
      refine r_cvI C cl_M_325 0 (hL 0 _ rfl) [.int a1, .int a2, .int (gI σ5 4 395)] (m_M_canRead hL h) (rmK_ok rfl rfl) rfl rfl (Nat.le_of_ble_eq_true rfl) (dk_at dk_M_readsKept_0 17 rfl) (fun r7 σ8 h => ?_)
      refine r_if_ne C 39 rfl (dk_at dk_M_readsKept_0 18 rfl) (fun c9 => ?_) (fun c9 => ?_)
      · replace h := h.1 c9
        refine r_aload_n C 0 rfl (dk_at dk_M_readsKept_0 21 rfl) ?_
        refine r_getR C fl_M_20 0 (hL 0 _ rfl) rfl (dk_at dk_M_readsKept_0 22 rfl) ?_
        refine r_sipush C 401 (dk_at dk_M_readsKept_0 23 rfl) ?_
        refine r_ialdK C 4 (hL 4 _ rfl) lk_401 (vk_401_6012) (dk_at dk_M_readsKept_0 24 rfl) ?_
        refine r_bipush C 24 (dk_at dk_M_readsKept_0 25 rfl) ?_
        refine r_icmp_lt C 55 rfl (dk_at dk_M_readsKept_0 26 rfl) (fun c10 => ?_) (fun c10 => ?_)
        · replace h := h.1 c10
          refine r_aload_n C 0 rfl (dk_at dk_M_readsKept_0 29 rfl) ?_
          refine r_iload_n C 1 rfl (dk_at dk_M_readsKept_0 30 rfl) ?_
          refine r_iload_n C 2 rfl (dk_at dk_M_readsKept_0 31 rfl) ?_
          refine r_aload_n C 0 rfl (dk_at dk_M_readsKept_0 32 rfl) ?_
          refine r_getR C fl_M_20 0 (hL 0 _ rfl) rfl (dk_at dk_M_readsKept_0 33 rfl) ?_
          refine r_sipush C 395 (dk_at dk_M_readsKept_0 34 rfl) ?_
          refine r_ialdK C 4 (hL 4 _ rfl) lk_395 (vk_395_6012) (dk_at dk_M_readsKept_0 35 rfl) ?_
          refine r_cvV C cl_M_328 0 (hL 0 _ rfl) [.int a1, .int a2, .int (gI σ8 4 395)] (m_M_logs hL h) (rmK_ok rfl rfl) rfl rfl (Nat.le_of_ble_eq_true rfl) (dk_at dk_M_readsKept_0 36 rfl) (fun σ12 h => ?_)
          refine r_iconst C 0 (dk_at dk_M_readsKept_0 37 rfl) ?_
          exact r_iret C h (dk_at dk_M_readsKept_0 38 rfl)
        · replace h := h.2 c10
          refine r_bipush C (-5) (dk_at dk_M_readsKept_0 27 rfl) ?_
          exact r_iret C h (dk_at dk_M_readsKept_0 28 rfl)
      · replace h := h.2 c9
        refine r_bipush C (-3) (dk_at dk_M_readsKept_0 19 rfl) ?_
        exact r_iret C h (dk_at dk_M_readsKept_0 20 rfl)
    · replace h := h.2 c6
      refine r_bipush C (-2) (dk_at dk_M_readsKept_0 8 rfl) ?_
      exact r_iret C h (dk_at dk_M_readsKept_0 9 rfl)
  )
set_option maxRecDepth 20000 in
theorem m_M_read {l : Launch} {w : WO} (hL : LyM w) {σ : DD} {a1 : Int32} {a2 : Int32} {post : Int32 → DD → Prop} (h : w_M_read σ a1 a2 post) : MI l w yX11_read cX11_read 4 .int (rmK 94 2271) σ [.ref (wAd w 0), .int a1, .int a2] post :=
  met_head (rt := (some .int)) (by decide) rfl (fun X hX C => by
  subst hX
  unfold w_M_read at h
  show gW X w (lim0 w) 4 (QI X w post) σ 0 [(0, .ref (wAd w 0)), (1, .int a1), (2, .int a2)] []
  refine r_aload_n C 0 rfl (dk_at dk_M_read_0 0 rfl) ?_
  refine r_iload_n C 1 rfl (dk_at dk_M_read_0 1 rfl) ?_
  refine r_iload_n C 2 rfl (dk_at dk_M_read_0 2 rfl) ?_
  refine r_cvI C cl_M_332 0 (hL 0 _ rfl) [.int a1, .int a2] (m_M_readsKept hL h) (rmK_ok rfl rfl) rfl rfl (Nat.le_of_ble_eq_true rfl) (dk_at dk_M_read_0 3 rfl) (fun r1 σ2 h => ?_)
  refine r_istore_n C [(3, .int r1), (0, .ref (wAd w 0)), (1, .int a1), (2, .int a2)] rfl rfl (dk_at dk_M_read_0 4 rfl) ?_
  refine r_iload_n C 0 rfl (dk_at dk_M_read_0 5 rfl) ?_
  refine r_if_ge C 19 rfl (dk_at dk_M_read_0 6 rfl) (fun c3 => ?_) (fun c3 => ?_)
  · replace h := h.1 c3
    refine r_aload_n C 1 rfl (dk_at dk_M_read_0 11 rfl) ?_
    refine r_aload_n C 1 rfl (dk_at dk_M_read_0 12 rfl) ?_
    refine r_iload_n C 3 rfl (dk_at dk_M_read_0 13 rfl) ?_
    refine r_aload_n C 1 rfl (dk_at dk_M_read_0 14 rfl) ?_
    refine r_getR C fl_M_20 0 (hL 0 _ rfl) rfl (dk_at dk_M_read_0 15 rfl) ?_
    refine r_sipush C 395 (dk_at dk_M_read_0 16 rfl) ?_
    refine r_ialdK C 4 (hL 4 _ rfl) lk_395 (vk_395_6012) (dk_at dk_M_read_0 17 rfl) ?_
    refine r_cvI C cl_M_319 0 (hL 0 _ rfl) [.int a2, .int (gI σ2 4 395)] (m_M_leftOn hL h) (rmK_ok rfl rfl) rfl rfl (Nat.le_of_ble_eq_true rfl) (dk_at dk_M_read_0 18 rfl) (fun r4 σ5 h => ?_)
    refine r_cvI C cl_M_109 0 (hL 0 _ rfl) [.int r4] (m_M_good hL h) (rmK_ok rfl rfl) rfl rfl (Nat.le_of_ble_eq_true rfl) (dk_at dk_M_read_0 19 rfl) (fun r6 σ7 h => ?_)
    exact r_iret C h (dk_at dk_M_read_0 20 rfl)
  · replace h := h.2 c3
    refine r_aload_n C 1 rfl (dk_at dk_M_read_0 7 rfl) ?_
    refine r_iload_n C 0 rfl (dk_at dk_M_read_0 8 rfl) ?_
    refine r_cvI C cl_M_105 0 (hL 0 _ rfl) [.int r1] (m_M_refuses hL h) (rmK_ok rfl rfl) rfl rfl (Nat.le_of_ble_eq_true rfl) (dk_at dk_M_read_0 9 rfl) (fun r8 σ9 h => ?_)
    refine r_goto C 36 rfl (dk_at dk_M_read_0 10 rfl) ?_
    exact r_iret C h (dk_at dk_M_read_0 20 rfl)
  )
set_option maxRecDepth 20000 in
theorem m_M_undo {l : Launch} {w : WO} (hL : LyM w) {σ : DD} {post : Int32 → DD → Prop} (h : w_M_undo σ post) : MI l w yX11_undo cX11_undo 1 .int (rmK 1 22) σ [.ref (wAd w 0)] post :=
  met_head (rt := (some .int)) (by decide) rfl (fun X hX C => by
  subst hX
  unfold w_M_undo at h
  show gW X w (lim0 w) 1 (QI X w post) σ 0 [(0, .ref (wAd w 0))] []
  refine r_aload_n C 0 rfl (dk_at dk_M_undo_0 0 rfl) ?_
  refine r_getR C fl_M_20 0 (hL 0 _ rfl) rfl (dk_at dk_M_undo_0 1 rfl) ?_
  refine r_sipush C 401 (dk_at dk_M_undo_0 2 rfl) ?_
  refine r_ialdK C 4 (hL 4 _ rfl) lk_401 (vk_401_6012) (dk_at dk_M_undo_0 3 rfl) ?_
  refine r_if_ne C 18 rfl (dk_at dk_M_undo_0 4 rfl) (fun c1 => ?_) (fun c1 => ?_)
  · replace h := h.1 c1
    refine r_aload_n C 0 rfl (dk_at dk_M_undo_0 9 rfl) ?_
    refine r_getR C fl_M_20 0 (hL 0 _ rfl) rfl (dk_at dk_M_undo_0 10 rfl) ?_
    refine r_sipush C 401 (dk_at dk_M_undo_0 11 rfl) ?_
    refine r_dup2 C rfl rfl (dk_at dk_M_undo_0 12 rfl) ?_
    refine r_ialdK C 4 (hL 4 _ rfl) lk_401 (vk_401_6012) (dk_at dk_M_undo_0 13 rfl) ?_
    refine r_iconst C 1 (dk_at dk_M_undo_0 14 rfl) ?_
    refine r_isub C (dk_at dk_M_undo_0 15 rfl) ?_
    refine r_iastK C 4 (hL 4 _ rfl) lk_401 vk_401_6012 (dk_at dk_M_undo_0 16 rfl) (r_sg (fun σ2 e3 => ?_))
    replace h := h σ2 e3
    refine r_aload_n C 0 rfl (dk_at dk_M_undo_0 17 rfl) ?_
    refine r_aload_n C 0 rfl (dk_at dk_M_undo_0 18 rfl) ?_
    refine r_aload_n C 0 rfl (dk_at dk_M_undo_0 19 rfl) ?_
    refine r_getR C fl_M_20 0 (hL 0 _ rfl) rfl (dk_at dk_M_undo_0 20 rfl) ?_
    refine r_sipush C 401 (dk_at dk_M_undo_0 21 rfl) ?_
    refine r_ialdK C 4 (hL 4 _ rfl) lk_401 (vk_401_6012) (dk_at dk_M_undo_0 22 rfl) ?_
    refine r_iconst C 0 (dk_at dk_M_undo_0 23 rfl) ?_
    refine r_cvI C cl_M_137 0 (hL 0 _ rfl) [.int (gI σ2 4 401), .int 0] (m_M_reading hL h) (rmK_ok rfl rfl) rfl rfl (Nat.le_of_ble_eq_true rfl) (dk_at dk_M_undo_0 24 rfl) (fun r4 σ5 h => ?_)
    refine r_cvI C cl_M_109 0 (hL 0 _ rfl) [.int r4] (m_M_good hL h) (rmK_ok rfl rfl) rfl rfl (Nat.le_of_ble_eq_true rfl) (dk_at dk_M_undo_0 25 rfl) (fun r6 σ7 h => ?_)
    exact r_iret C h (dk_at dk_M_undo_0 26 rfl)
  · replace h := h.2 c1
    refine r_aload_n C 0 rfl (dk_at dk_M_undo_0 5 rfl) ?_
    refine r_bipush C (-3) (dk_at dk_M_undo_0 6 rfl) ?_
    refine r_cvI C cl_M_105 0 (hL 0 _ rfl) [.int (-3)] (m_M_refuses hL h) (rmK_ok rfl rfl) rfl rfl (Nat.le_of_ble_eq_true rfl) (dk_at dk_M_undo_0 7 rfl) (fun r8 σ9 h => ?_)
    exact r_iret C h (dk_at dk_M_undo_0 8 rfl)
  )
set_option maxRecDepth 20000 in
theorem m_M_log {l : Launch} {w : WO} (hL : LyM w) {σ : DD} {a1 : Int32} {a2 : Int32} {post : Int32 → DD → Prop} (h : w_M_log σ a1 a2 post) : MI l w yX11_log cX11_log 3 .int (rmK 91 2201) σ [.ref (wAd w 0), .int a1, .int a2] post :=
  met_head (rt := (some .int)) (by decide) rfl (fun X hX C => by
  subst hX
  unfold w_M_log at h
  show gW X w (lim0 w) 3 (QI X w post) σ 0 [(0, .ref (wAd w 0)), (1, .int a1), (2, .int a2)] []
  refine r_iload_n C 1 rfl (dk_at dk_M_log_0 0 rfl) ?_
  refine r_iconst C 0 (dk_at dk_M_log_0 1 rfl) ?_
  refine r_aload_n C 0 rfl (dk_at dk_M_log_0 2 rfl) ?_
  refine r_getR C fl_M_20 0 (hL 0 _ rfl) rfl (dk_at dk_M_log_0 3 rfl) ?_
  refine r_sipush C 401 (dk_at dk_M_log_0 4 rfl) ?_
  refine r_ialdK C 4 (hL 4 _ rfl) lk_401 (vk_401_6012) (dk_at dk_M_log_0 5 rfl) ?_
  refine r_iconst C 1 (dk_at dk_M_log_0 6 rfl) ?_
  refine r_isub C (dk_at dk_M_log_0 7 rfl) ?_
  refine r_csI C cs_M_101 [.int a1, .int 0, .int ((gI σ 4 401) - 1)] (m_M_lies hL h) (rmK_ok rfl rfl) rfl rfl (Nat.le_of_ble_eq_true rfl) (dk_at dk_M_log_0 8 rfl) (fun r1 σ2 h => ?_)
  refine r_if_eq C 27 rfl (dk_at dk_M_log_0 9 rfl) (fun c3 => ?_) (fun c3 => ?_)
  · replace h := h.1 c3
    refine r_iconst C (-1) (dk_at dk_M_log_0 15 rfl) ?_
    exact r_iret C h (dk_at dk_M_log_0 16 rfl)
  · replace h := h.2 c3
    refine r_iload_n C 2 rfl (dk_at dk_M_log_0 10 rfl) ?_
    refine r_iconst C 0 (dk_at dk_M_log_0 11 rfl) ?_
    refine r_iconst C 3 (dk_at dk_M_log_0 12 rfl) ?_
    refine r_csI C cs_M_101 [.int a2, .int 0, .int 3] (m_M_lies hL h) (rmK_ok rfl rfl) rfl rfl (Nat.le_of_ble_eq_true rfl) (dk_at dk_M_log_0 13 rfl) (fun r4 σ5 h => ?_)
    refine r_if_ne C 29 rfl (dk_at dk_M_log_0 14 rfl) (fun c6 => ?_) (fun c6 => ?_)
    · replace h := h.1 c6
      refine r_iload_n C 2 rfl (dk_at dk_M_log_0 17 rfl) ?_
      refine r_iconst C 3 (dk_at dk_M_log_0 18 rfl) ?_
      refine r_icmp_ge C 43 rfl (dk_at dk_M_log_0 19 rfl) (fun c7 => ?_) (fun c7 => ?_)
      · replace h := h.1 c7
        refine r_aload_n C 0 rfl (dk_at dk_M_log_0 25 rfl) ?_
        refine r_aload_n C 0 rfl (dk_at dk_M_log_0 26 rfl) ?_
        refine r_iload_n C 1 rfl (dk_at dk_M_log_0 27 rfl) ?_
        refine r_iconst C 0 (dk_at dk_M_log_0 28 rfl) ?_
        refine r_cvI C cl_M_137 0 (hL 0 _ rfl) [.int a1, .int 0] (m_M_reading hL h) (rmK_ok rfl rfl) rfl rfl (Nat.le_of_ble_eq_true rfl) (dk_at dk_M_log_0 29 rfl) (fun r8 σ9 h => ?_)
        refine r_aload_n C 0 rfl (dk_at dk_M_log_0 30 rfl) ?_
        refine r_iload_n C 1 rfl (dk_at dk_M_log_0 31 rfl) ?_
        refine r_iconst C 1 (dk_at dk_M_log_0 32 rfl) ?_
        refine r_cvI C cl_M_137 0 (hL 0 _ rfl) [.int a1, .int 1] (m_M_reading hL h) (rmK_ok rfl rfl) rfl rfl (Nat.le_of_ble_eq_true rfl) (dk_at dk_M_log_0 33 rfl) (fun r10 σ11 h => ?_)
        refine r_aload_n C 0 rfl (dk_at dk_M_log_0 34 rfl) ?_
        refine r_iload_n C 1 rfl (dk_at dk_M_log_0 35 rfl) ?_
        refine r_iconst C 2 (dk_at dk_M_log_0 36 rfl) ?_
        refine r_cvI C cl_M_137 0 (hL 0 _ rfl) [.int a1, .int 2] (m_M_reading hL h) (rmK_ok rfl rfl) rfl rfl (Nat.le_of_ble_eq_true rfl) (dk_at dk_M_log_0 37 rfl) (fun r12 σ13 h => ?_)
        refine r_cvI C cl_M_303 0 (hL 0 _ rfl) [.int r8, .int r10, .int r12] (m_M_lastsFor hL h) (rmK_ok rfl rfl) rfl rfl (Nat.le_of_ble_eq_true rfl) (dk_at dk_M_log_0 38 rfl) (fun r14 σ15 h => ?_)
        exact r_iret C h (dk_at dk_M_log_0 39 rfl)
      · replace h := h.2 c7
        refine r_aload_n C 0 rfl (dk_at dk_M_log_0 20 rfl) ?_
        refine r_iload_n C 1 rfl (dk_at dk_M_log_0 21 rfl) ?_
        refine r_iload_n C 2 rfl (dk_at dk_M_log_0 22 rfl) ?_
        refine r_cvI C cl_M_137 0 (hL 0 _ rfl) [.int a1, .int a2] (m_M_reading hL h) (rmK_ok rfl rfl) rfl rfl (Nat.le_of_ble_eq_true rfl) (dk_at dk_M_log_0 23 rfl) (fun r16 σ17 h => ?_)
        refine r_goto C 65 rfl (dk_at dk_M_log_0 24 rfl) ?_
        exact r_iret C h (dk_at dk_M_log_0 39 rfl)
    · replace h := h.2 c6
      refine r_iconst C (-1) (dk_at dk_M_log_0 15 rfl) ?_
      exact r_iret C h (dk_at dk_M_log_0 16 rfl)
  )
set_option maxRecDepth 20000 in
theorem m_M_await {l : Launch} {w : WO} (hL : LyM w) {σ : DD} {post : Int32 → DD → Prop} (h : w_M_await σ post) : MI l w yX11_await cX11_await 2 .int (rmK 93 2247) σ [.ref (wAd w 0)] post :=
  met_head (rt := (some .int)) (by decide) rfl (fun X hX C => by
  subst hX
  unfold w_M_await at h
  show gW X w (lim0 w) 2 (QI X w post) σ 0 [(0, .ref (wAd w 0))] []
  refine r_aload_n C 0 rfl (dk_at dk_M_await_0 0 rfl) ?_
  refine r_getR C fl_M_20 0 (hL 0 _ rfl) rfl (dk_at dk_M_await_0 1 rfl) ?_
  refine r_sipush C 395 (dk_at dk_M_await_0 2 rfl) ?_
  refine r_ialdK C 4 (hL 4 _ rfl) lk_395 (vk_395_6012) (dk_at dk_M_await_0 3 rfl) ?_
  refine r_sipush C 999 (dk_at dk_M_await_0 4 rfl) ?_
  refine r_icmp_ne C 21 rfl (dk_at dk_M_await_0 5 rfl) (fun c1 => ?_) (fun c1 => ?_)
  · replace h := h.1 c1
    refine r_aload_n C 0 rfl (dk_at dk_M_await_0 10 rfl) ?_
    refine r_aload_n C 0 rfl (dk_at dk_M_await_0 11 rfl) ?_
    refine r_getR C fl_M_20 0 (hL 0 _ rfl) rfl (dk_at dk_M_await_0 12 rfl) ?_
    refine r_sipush C 395 (dk_at dk_M_await_0 13 rfl) ?_
    refine r_ialdK C 4 (hL 4 _ rfl) lk_395 (vk_395_6012) (dk_at dk_M_await_0 14 rfl) ?_
    refine r_cvI C cl_M_335 0 (hL 0 _ rfl) [.int (gI σ 4 395)] (m_M_heldOn hL h) (rmK_ok rfl rfl) rfl rfl (Nat.le_of_ble_eq_true rfl) (dk_at dk_M_await_0 15 rfl) (fun r2 σ3 h => ?_)
    refine r_istore_n C [(1, .int r2), (0, .ref (wAd w 0))] rfl rfl (dk_at dk_M_await_0 16 rfl) ?_
    refine r_aload_n C 1 rfl (dk_at dk_M_await_0 17 rfl) ?_
    refine r_getR C fl_M_20 0 (hL 0 _ rfl) rfl (dk_at dk_M_await_0 18 rfl) ?_
    refine r_sipush C 395 (dk_at dk_M_await_0 19 rfl) ?_
    refine r_dup2 C rfl rfl (dk_at dk_M_await_0 20 rfl) ?_
    refine r_ialdK C 4 (hL 4 _ rfl) lk_395 (vk_395_6012) (dk_at dk_M_await_0 21 rfl) ?_
    refine r_iconst C 1 (dk_at dk_M_await_0 22 rfl) ?_
    refine r_iadd C (dk_at dk_M_await_0 23 rfl) ?_
    refine r_iastK C 4 (hL 4 _ rfl) lk_395 vk_395_6012 (dk_at dk_M_await_0 24 rfl) (r_sg (fun σ4 e5 => ?_))
    replace h := h σ4 e5
    refine r_aload_n C 1 rfl (dk_at dk_M_await_0 25 rfl) ?_
    refine r_iload_n C 0 rfl (dk_at dk_M_await_0 26 rfl) ?_
    refine r_aload_n C 1 rfl (dk_at dk_M_await_0 27 rfl) ?_
    refine r_aload_n C 1 rfl (dk_at dk_M_await_0 28 rfl) ?_
    refine r_getR C fl_M_20 0 (hL 0 _ rfl) rfl (dk_at dk_M_await_0 29 rfl) ?_
    refine r_sipush C 395 (dk_at dk_M_await_0 30 rfl) ?_
    refine r_ialdK C 4 (hL 4 _ rfl) lk_395 (vk_395_6012) (dk_at dk_M_await_0 31 rfl) ?_
    refine r_cvI C cl_M_335 0 (hL 0 _ rfl) [.int (gI σ4 4 395)] (m_M_heldOn hL h) (rmK_ok rfl rfl) rfl rfl (Nat.le_of_ble_eq_true rfl) (dk_at dk_M_await_0 32 rfl) (fun r6 σ7 h => ?_)
    refine r_iconst C (-1) (dk_at dk_M_await_0 33 rfl) ?_
    refine r_ixor C (dk_at dk_M_await_0 34 rfl) ?_
    refine r_iand C (dk_at dk_M_await_0 35 rfl) ?_
    refine r_csI C cs_M_288 [.int (r2 &&& (r6 ^^^ (-1)))] (m_M_ones hL h) (rmK_ok rfl rfl) rfl rfl (Nat.le_of_ble_eq_true rfl) (dk_at dk_M_await_0 36 rfl) (fun r8 σ9 h => ?_)
    refine r_cvI C cl_M_109 0 (hL 0 _ rfl) [.int r8] (m_M_good hL h) (rmK_ok rfl rfl) rfl rfl (Nat.le_of_ble_eq_true rfl) (dk_at dk_M_await_0 37 rfl) (fun r10 σ11 h => ?_)
    exact r_iret C h (dk_at dk_M_await_0 38 rfl)
  · replace h := h.2 c1
    refine r_aload_n C 0 rfl (dk_at dk_M_await_0 6 rfl) ?_
    refine r_bipush C (-3) (dk_at dk_M_await_0 7 rfl) ?_
    refine r_cvI C cl_M_105 0 (hL 0 _ rfl) [.int (-3)] (m_M_refuses hL h) (rmK_ok rfl rfl) rfl rfl (Nat.le_of_ble_eq_true rfl) (dk_at dk_M_await_0 8 rfl) (fun r12 σ13 h => ?_)
    exact r_iret C h (dk_at dk_M_await_0 9 rfl)
  )
set_option maxRecDepth 20000 in
theorem m_M_held {l : Launch} {w : WO} (hL : LyM w) {σ : DD} {a1 : Int32} {post : Int32 → DD → Prop} (h : w_M_held σ a1 post) : MI l w yX11_held cX11_held 2 .int (rmK 93 2247) σ [.ref (wAd w 0), .int a1] post :=
  met_head (rt := (some .int)) (by decide) rfl (fun X hX C => by
  subst hX
  unfold w_M_held at h
  show gW X w (lim0 w) 2 (QI X w post) σ 0 [(0, .ref (wAd w 0)), (1, .int a1)] []
  refine r_iload_n C 1 rfl (dk_at dk_M_held_0 0 rfl) ?_
  refine r_csI C cs_M_131 [.int a1] (m_M_isDay hL h) (rmK_ok rfl rfl) rfl rfl (Nat.le_of_ble_eq_true rfl) (dk_at dk_M_held_0 1 rfl) (fun r1 σ2 h => ?_)
  refine r_if_eq C 15 rfl (dk_at dk_M_held_0 2 rfl) (fun c3 => ?_) (fun c3 => ?_)
  · replace h := h.1 c3
    refine r_iconst C (-1) (dk_at dk_M_held_0 7 rfl) ?_
    exact r_iret C h (dk_at dk_M_held_0 8 rfl)
  · replace h := h.2 c3
    refine r_aload_n C 0 rfl (dk_at dk_M_held_0 3 rfl) ?_
    refine r_iload_n C 1 rfl (dk_at dk_M_held_0 4 rfl) ?_
    refine r_cvI C cl_M_335 0 (hL 0 _ rfl) [.int a1] (m_M_heldOn hL h) (rmK_ok rfl rfl) rfl rfl (Nat.le_of_ble_eq_true rfl) (dk_at dk_M_held_0 5 rfl) (fun r4 σ5 h => ?_)
    refine r_goto C 16 rfl (dk_at dk_M_held_0 6 rfl) ?_
    exact r_iret C h (dk_at dk_M_held_0 8 rfl)
  )
set_option maxRecDepth 20000 in
theorem t_M_bound_j67 {X : CT} {w : WO} (C : CF X w (lim0 w) 5 cX11_bound RX11 (some .int) (.code yX11_bound cX11_bound 5 (some .int)) (rmK 92 2224)) (hL : LyM w) {K21 : DD → Int32 → Int32 → Prop} {post : Int32 → DD → Prop} {a1 : Int32} {a2 : Int32} {a4 : Int32} {t0 : Int32} {t1 : Int32} (k21 : ∀ (σ : DD) (a3 : Int32) (a4 : Int32), K21 σ a3 a4 → gW X w (lim0 w) 5 (QI X w post) σ 21 [(0, .ref (wAd w 0)), (1, .int a1), (2, .int a2), (3, .int a3), (4, .int a4)] []) {σ : DD} (h : w_M_bound_j67 K21 post σ a1 a2 a4 t0 t1) : gW X w (lim0 w) 5 (QI X w post) σ 67 [(0, .ref (wAd w 0)), (1, .int a1), (2, .int a2), (4, .int a4)] [.int t1, .int t0] := by
  unfold w_M_bound_j67 at h
  refine r_ior C (dk_at dk_M_bound_0 36 rfl) ?_
  refine r_topi (fun v1 e2 => ?_)
  replace h := h v1 e2
  refine r_istore_n C [(3, .int v1), (0, .ref (wAd w 0)), (1, .int a1), (2, .int a2), (4, .int a4)] rfl rfl (dk_at dk_M_bound_0 37 rfl) ?_
  refine r_iinc C 4 rfl rfl [(4, .int (a4 + 1)), (3, .int v1), (0, .ref (wAd w 0)), (1, .int a1), (2, .int a2)] rfl rfl (dk_at dk_M_bound_0 38 rfl) ?_
  refine r_goto C 21 rfl (dk_at dk_M_bound_0 39 rfl) ?_
  refine r_lv [2, 3, 4, 1, 0] rfl ?_
  exact k21 _ _ _ h
set_option maxRecDepth 20000 in
theorem t_M_bound_j66 {X : CT} {w : WO} (C : CF X w (lim0 w) 5 cX11_bound RX11 (some .int) (.code yX11_bound cX11_bound 5 (some .int)) (rmK 92 2224)) (hL : LyM w) {K21 : DD → Int32 → Int32 → Prop} {post : Int32 → DD → Prop} {a1 : Int32} {a2 : Int32} {a4 : Int32} {t0 : Int32} (k21 : ∀ (σ : DD) (a3 : Int32) (a4 : Int32), K21 σ a3 a4 → gW X w (lim0 w) 5 (QI X w post) σ 21 [(0, .ref (wAd w 0)), (1, .int a1), (2, .int a2), (3, .int a3), (4, .int a4)] []) {σ : DD} (h : w_M_bound_j66 K21 post σ a1 a2 a4 t0) : gW X w (lim0 w) 5 (QI X w post) σ 66 [(0, .ref (wAd w 0)), (1, .int a1), (2, .int a2), (4, .int a4)] [.int t0] := by
  unfold w_M_bound_j66 at h
  refine r_iconst C 0 (dk_at dk_M_bound_0 35 rfl) ?_
  refine r_lv [0, 1, 2, 3] rfl ?_
  exact t_M_bound_j67 C hL k21 h
set_option maxRecDepth 20000 in
theorem t_M_bound_b21 {X : CT} {w : WO} (C : CF X w (lim0 w) 5 cX11_bound RX11 (some .int) (.code yX11_bound cX11_bound 5 (some .int)) (rmK 92 2224)) (hL : LyM w) {a1 : Int32} {a2 : Int32} {K21 : DD → Int32 → Int32 → Prop} {post : Int32 → DD → Prop} (k21 : ∀ (σ : DD) (a3 : Int32) (a4 : Int32), K21 σ a3 a4 → gW X w (lim0 w) 5 (QI X w post) σ 21 [(0, .ref (wAd w 0)), (1, .int a1), (2, .int a2), (3, .int a3), (4, .int a4)] []) {σ : DD} {a3 : Int32} {a4 : Int32} (h : w_M_bound_b21 a1 a2 K21 post σ a3 a4) : gW X w (lim0 w) 5 (QI X w post) σ 21 [(0, .ref (wAd w 0)), (1, .int a1), (2, .int a2), (3, .int a3), (4, .int a4)] [] := by
  unfold w_M_bound_b21 at h
  refine r_iload C 4 rfl (dk_at dk_M_bound_0 12 rfl) ?_
  refine r_aload_n C 0 rfl (dk_at dk_M_bound_0 13 rfl) ?_
  refine r_getR C fl_M_20 0 (hL 0 _ rfl) rfl (dk_at dk_M_bound_0 14 rfl) ?_
  refine r_sipush C 399 (dk_at dk_M_bound_0 15 rfl) ?_
  refine r_ialdK C 4 (hL 4 _ rfl) lk_399 (vk_399_6012) (dk_at dk_M_bound_0 16 rfl) ?_
  refine r_icmp_ge C 75 rfl (dk_at dk_M_bound_0 17 rfl) (fun c3 => ?_) (fun c3 => ?_)
  · replace h := h.1 c3
    refine r_iload_n C 3 rfl (dk_at dk_M_bound_1 0 rfl) ?_
    exact r_iret C h (dk_at dk_M_bound_1 1 rfl)
  · replace h := h.2 c3
    refine r_iload_n C 3 rfl (dk_at dk_M_bound_0 18 rfl) ?_
    refine r_aload_n C 0 rfl (dk_at dk_M_bound_0 19 rfl) ?_
    refine r_iload C 4 rfl (dk_at dk_M_bound_0 20 rfl) ?_
    refine r_iconst C 2 (dk_at dk_M_bound_0 21 rfl) ?_
    refine r_cvI C cl_M_124 0 (hL 0 _ rfl) [.int a4, .int 2] (m_M_fact hL h) (rmK_ok rfl rfl) rfl rfl (Nat.le_of_ble_eq_true rfl) (dk_at dk_M_bound_0 22 rfl) (fun r4 σ5 h => ?_)
    refine r_iload_n C 1 rfl (dk_at dk_M_bound_0 23 rfl) ?_
    refine r_csI C cs_M_338 [.int r4, .int a1] (m_M_isIn hL h) (rmK_ok rfl rfl) rfl rfl (Nat.le_of_ble_eq_true rfl) (dk_at dk_M_bound_0 24 rfl) (fun r6 σ7 h => ?_)
    refine r_if_eq C 66 rfl (dk_at dk_M_bound_0 25 rfl) (fun c8 => ?_) (fun c8 => ?_)
    · replace h := h.1 c8
      refine r_lv [0, 1, 2, 4] rfl ?_
      exact t_M_bound_j66 C hL k21 h
    · replace h := h.2 c8
      refine r_aload_n C 0 rfl (dk_at dk_M_bound_0 26 rfl) ?_
      refine r_iload C 4 rfl (dk_at dk_M_bound_0 27 rfl) ?_
      refine r_iload_n C 2 rfl (dk_at dk_M_bound_0 28 rfl) ?_
      refine r_cvI C cl_M_307 0 (hL 0 _ rfl) [.int a4, .int a2] (m_M_holdsOn hL h) (rmK_ok rfl rfl) rfl rfl (Nat.le_of_ble_eq_true rfl) (dk_at dk_M_bound_0 29 rfl) (fun r9 σ10 h => ?_)
      refine r_if_eq C 66 rfl (dk_at dk_M_bound_0 30 rfl) (fun c11 => ?_) (fun c11 => ?_)
      · replace h := h.1 c11
        refine r_lv [0, 1, 2, 4] rfl ?_
        exact t_M_bound_j66 C hL k21 h
      · replace h := h.2 c11
        refine r_iconst C 1 (dk_at dk_M_bound_0 31 rfl) ?_
        refine r_iload C 4 rfl (dk_at dk_M_bound_0 32 rfl) ?_
        refine r_ishl C (dk_at dk_M_bound_0 33 rfl) ?_
        refine r_goto C 67 rfl (dk_at dk_M_bound_0 34 rfl) ?_
        refine r_lv [0, 1, 2, 4] rfl ?_
        exact t_M_bound_j67 C hL k21 h
set_option maxRecDepth 20000 in
theorem t_M_bound_l21 {X : CT} {w : WO} (C : CF X w (lim0 w) 5 cX11_bound RX11 (some .int) (.code yX11_bound cX11_bound 5 (some .int)) (rmK 92 2224)) (hL : LyM w) {a1 : Int32} {a2 : Int32} {post : Int32 → DD → Prop} {σ : DD} {a3 : Int32} {a4 : Int32} (h : w_M_bound_l21 post σ a1 a2 a3 a4) : gW X w (lim0 w) 5 (QI X w post) σ 21 [(0, .ref (wAd w 0)), (1, .int a1), (2, .int a2), (3, .int a3), (4, .int a4)] [] :=
  LoopW (G := fun x : DD × Int32 × Int32 => gW X w (lim0 w) 5 (QI X w post) x.1 21 [(0, .ref (wAd w 0)), (1, .int a1), (2, .int a2), (3, .int x.2.1), (4, .int x.2.2)] []) (fun K x hK hF => t_M_bound_b21 C hL (fun σ a3 a4 q => hK (σ, a3, a4) q) hF) h
set_option maxRecDepth 20000 in
theorem m_M_bound {l : Launch} {w : WO} (hL : LyM w) {σ : DD} {a1 : Int32} {a2 : Int32} {post : Int32 → DD → Prop} (h : w_M_bound σ a1 a2 post) : MI l w yX11_bound cX11_bound 5 .int (rmK 92 2224) σ [.ref (wAd w 0), .int a1, .int a2] post :=
  met_head (rt := (some .int)) (by decide) rfl (fun X hX C => by
  subst hX
  unfold w_M_bound at h
  show gW X w (lim0 w) 5 (QI X w post) σ 0 [(0, .ref (wAd w 0)), (1, .int a1), (2, .int a2)] []
  refine r_iload_n C 1 rfl (dk_at dk_M_bound_0 0 rfl) ?_
  refine r_csI C cs_M_128 [.int a1] (m_M_isClass hL h) (rmK_ok rfl rfl) rfl rfl (Nat.le_of_ble_eq_true rfl) (dk_at dk_M_bound_0 1 rfl) (fun r12 σ13 h => ?_)
  refine r_if_eq C 14 rfl (dk_at dk_M_bound_0 2 rfl) (fun c14 => ?_) (fun c14 => ?_)
  · replace h := h.1 c14
    refine r_iconst C (-1) (dk_at dk_M_bound_0 6 rfl) ?_
    exact r_iret C h (dk_at dk_M_bound_0 7 rfl)
  · replace h := h.2 c14
    refine r_iload_n C 2 rfl (dk_at dk_M_bound_0 3 rfl) ?_
    refine r_csI C cs_M_131 [.int a2] (m_M_isDay hL h) (rmK_ok rfl rfl) rfl rfl (Nat.le_of_ble_eq_true rfl) (dk_at dk_M_bound_0 4 rfl) (fun r15 σ16 h => ?_)
    refine r_if_ne C 16 rfl (dk_at dk_M_bound_0 5 rfl) (fun c17 => ?_) (fun c17 => ?_)
    · replace h := h.1 c17
      refine r_iconst C 0 (dk_at dk_M_bound_0 8 rfl) ?_
      refine r_istore_n C [(3, .int 0), (0, .ref (wAd w 0)), (1, .int a1), (2, .int a2)] rfl rfl (dk_at dk_M_bound_0 9 rfl) ?_
      refine r_iconst C 0 (dk_at dk_M_bound_0 10 rfl) ?_
      refine r_istore C [(4, .int 0), (3, .int 0), (0, .ref (wAd w 0)), (1, .int a1), (2, .int a2)] rfl rfl (dk_at dk_M_bound_0 11 rfl) ?_
      refine r_lv [2, 3, 4, 1, 0] rfl ?_
      exact t_M_bound_l21 C hL h
    · replace h := h.2 c17
      refine r_iconst C (-1) (dk_at dk_M_bound_0 6 rfl) ?_
      exact r_iret C h (dk_at dk_M_bound_0 7 rfl)
  )
set_option maxRecDepth 20000 in
theorem t_M_triesMorning_b68 {o_triesMorning : DD → Int32 → Int32 → (DD → Prop) → Prop} {f0 q0 f_triesMorning q_triesMorning : Nat} {X : CT} {w : WO} (C : CF X w (lim0 w) 6 cX11_triesMorning RX11 none (.code yX11_triesMorning cX11_triesMorning 6 none) (rmK f0 q0)) (hL : LyM w) (hr0 : 93 ≤ f0 ∧ 2249 ≤ q0) (hr_triesMorning : f_triesMorning + 1 ≤ f0 ∧ 8 + (6 + 11) + q_triesMorning ≤ q0) (ho_triesMorning : ∀ (σ : DD) (a1 : Int32) (a2 : Int32) (post : DD → Prop), o_triesMorning σ a1 a2 post → MV X.l w yX11_triesMorning cX11_triesMorning 6 (rmK f_triesMorning q_triesMorning) σ [.ref (wAd w 0), .int a1, .int a2] post) {K68 : DD → Int32 → Prop} {post : DD → Prop} (k68 : ∀ (σ : DD) (a5 : Int32), K68 σ a5 → gW X w (lim0 w) 6 (QV X w post) σ 68 [(0, .ref (wAd w 0)), (5, .int a5)] []) {σ : DD} {a5 : Int32} (h : w_M_triesMorning_b68 o_triesMorning K68 post σ a5) : gW X w (lim0 w) 6 (QV X w post) σ 68 [(0, .ref (wAd w 0)), (5, .int a5)] [] := by
  unfold w_M_triesMorning_b68 at h
  refine r_iload C 1 rfl (dk_at dk_M_triesMorning_0 38 rfl) ?_
  refine r_aload_n C 0 rfl (dk_at dk_M_triesMorning_0 39 rfl) ?_
  refine r_getI C fl_M_344 0 (hL 0 _ rfl) rfl (dk_at dk_M_triesMorning_1 0 rfl) ?_
  refine r_icmp_ge C 97 rfl (dk_at dk_M_triesMorning_1 1 rfl) (fun c1 => ?_) (fun c1 => ?_)
  · replace h := h.1 c1
    exact r_vret C h (dk_at dk_M_triesMorning_1 12 rfl)
  · replace h := h.2 c1
    refine r_aload_n C 0 rfl (dk_at dk_M_triesMorning_1 2 rfl) ?_
    refine r_getR C fl_M_70 0 (hL 0 _ rfl) rfl (dk_at dk_M_triesMorning_1 3 rfl) ?_
    refine r_iload C 1 rfl (dk_at dk_M_triesMorning_1 4 rfl) ?_
    refine r_aload_n C 0 rfl (dk_at dk_M_triesMorning_1 5 rfl) ?_
    refine r_getR C fl_M_67 0 (hL 0 _ rfl) rfl (dk_at dk_M_triesMorning_1 6 rfl) ?_
    refine r_iload C 1 rfl (dk_at dk_M_triesMorning_1 7 rfl) ?_
    obtain ⟨q2, h⟩ := h
    refine r_iald C 31 (hL 31 _ rfl) q2 (dk_at dk_M_triesMorning_1 8 rfl) ?_
    obtain ⟨q5, h⟩ := h
    refine r_iast C 32 (hL 32 _ rfl) q5 (dk_at dk_M_triesMorning_1 9 rfl) (r_sg (fun σ3 e4 => ?_))
    replace h := h σ3 e4
    refine r_iinc C 1 rfl rfl [(5, .int (a5 + 1)), (0, .ref (wAd w 0))] rfl rfl (dk_at dk_M_triesMorning_1 10 rfl) ?_
    refine r_goto C 68 rfl (dk_at dk_M_triesMorning_1 11 rfl) ?_
    refine r_lv [1, 0] rfl ?_
    exact k68 _ _ h
set_option maxRecDepth 20000 in
theorem t_M_triesMorning_l68 {o_triesMorning : DD → Int32 → Int32 → (DD → Prop) → Prop} {f0 q0 f_triesMorning q_triesMorning : Nat} {X : CT} {w : WO} (C : CF X w (lim0 w) 6 cX11_triesMorning RX11 none (.code yX11_triesMorning cX11_triesMorning 6 none) (rmK f0 q0)) (hL : LyM w) (hr0 : 93 ≤ f0 ∧ 2249 ≤ q0) (hr_triesMorning : f_triesMorning + 1 ≤ f0 ∧ 8 + (6 + 11) + q_triesMorning ≤ q0) (ho_triesMorning : ∀ (σ : DD) (a1 : Int32) (a2 : Int32) (post : DD → Prop), o_triesMorning σ a1 a2 post → MV X.l w yX11_triesMorning cX11_triesMorning 6 (rmK f_triesMorning q_triesMorning) σ [.ref (wAd w 0), .int a1, .int a2] post) {post : DD → Prop} {σ : DD} {a5 : Int32} (h : w_M_triesMorning_l68 o_triesMorning post σ a5) : gW X w (lim0 w) 6 (QV X w post) σ 68 [(0, .ref (wAd w 0)), (5, .int a5)] [] :=
  LoopW (G := fun x : DD × Int32 => gW X w (lim0 w) 6 (QV X w post) x.1 68 [(0, .ref (wAd w 0)), (5, .int x.2)] []) (fun K x hK hF => t_M_triesMorning_b68 C hL hr0 hr_triesMorning ho_triesMorning (fun σ a5 q => hK (σ, a5) q) hF) h
set_option maxRecDepth 20000 in
theorem t_M_triesMorning_b101 {o_triesMorning : DD → Int32 → Int32 → (DD → Prop) → Prop} {f0 q0 f_triesMorning q_triesMorning : Nat} {X : CT} {w : WO} (C : CF X w (lim0 w) 6 cX11_triesMorning RX11 none (.code yX11_triesMorning cX11_triesMorning 6 none) (rmK f0 q0)) (hL : LyM w) (hr0 : 93 ≤ f0 ∧ 2249 ≤ q0) (hr_triesMorning : f_triesMorning + 1 ≤ f0 ∧ 8 + (6 + 11) + q_triesMorning ≤ q0) (ho_triesMorning : ∀ (σ : DD) (a1 : Int32) (a2 : Int32) (post : DD → Prop), o_triesMorning σ a1 a2 post → MV X.l w yX11_triesMorning cX11_triesMorning 6 (rmK f_triesMorning q_triesMorning) σ [.ref (wAd w 0), .int a1, .int a2] post) {a1 : Int32} {a2 : Int32} {a3 : Int32} {K101 : DD → Int32 → Prop} {post : DD → Prop} (k101 : ∀ (σ : DD) (a4 : Int32), K101 σ a4 → gW X w (lim0 w) 6 (QV X w post) σ 101 [(0, .ref (wAd w 0)), (1, .int a1), (2, .int a2), (3, .int a3), (4, .int a4)] []) {σ : DD} {a4 : Int32} (h : w_M_triesMorning_b101 o_triesMorning a1 a2 a3 K101 post σ a4) : gW X w (lim0 w) 6 (QV X w post) σ 101 [(0, .ref (wAd w 0)), (1, .int a1), (2, .int a2), (3, .int a3), (4, .int a4)] [] := by
  unfold w_M_triesMorning_b101 at h
  refine r_iload C 4 rfl (dk_at dk_M_triesMorning_1 15 rfl) ?_
  refine r_aload_n C 0 rfl (dk_at dk_M_triesMorning_1 16 rfl) ?_
  refine r_getR C fl_M_20 0 (hL 0 _ rfl) rfl (dk_at dk_M_triesMorning_1 17 rfl) ?_
  refine r_sipush C 399 (dk_at dk_M_triesMorning_1 18 rfl) ?_
  refine r_ialdK C 4 (hL 4 _ rfl) lk_399 (vk_399_6012) (dk_at dk_M_triesMorning_1 19 rfl) ?_
  refine r_icmp_ge C 178 rfl (dk_at dk_M_triesMorning_1 20 rfl) (fun c6 => ?_) (fun c6 => ?_)
  · replace h := h.1 c6
    refine r_aload_n C 0 rfl (dk_at dk_M_triesMorning_2 18 rfl) ?_
    refine r_getR C fl_M_67 0 (hL 0 _ rfl) rfl (dk_at dk_M_triesMorning_2 19 rfl) ?_
    refine r_iload_n C 1 rfl (dk_at dk_M_triesMorning_2 20 rfl) ?_
    refine r_bipush C 100 (dk_at dk_M_triesMorning_2 21 rfl) ?_
    obtain ⟨q9, h⟩ := h
    refine r_iast C 31 (hL 31 _ rfl) q9 (dk_at dk_M_triesMorning_2 22 rfl) (r_sg (fun σ7 e8 => ?_))
    replace h := h σ7 e8
    refine r_aload_n C 0 rfl (dk_at dk_M_triesMorning_2 23 rfl) ?_
    refine r_iload_n C 1 rfl (dk_at dk_M_triesMorning_2 24 rfl) ?_
    refine r_iconst C 1 (dk_at dk_M_triesMorning_2 25 rfl) ?_
    refine r_iadd C (dk_at dk_M_triesMorning_2 26 rfl) ?_
    refine r_iload_n C 2 rfl (dk_at dk_M_triesMorning_2 27 rfl) ?_
    refine r_cvV C cl_M_356 0 (hL 0 _ rfl) [.int (a1 + 1), .int a2] (ho_triesMorning _ _ _ _ h) (rmK_ok2 hr_triesMorning.1 hr_triesMorning.2) rfl rfl (Nat.le_of_ble_eq_true rfl) (dk_at dk_M_triesMorning_2 28 rfl) (fun σ11 h => ?_)
    exact r_vret C h (dk_at dk_M_triesMorning_2 29 rfl)
  · replace h := h.2 c6
    refine r_aload_n C 0 rfl (dk_at dk_M_triesMorning_1 21 rfl) ?_
    refine r_iload C 4 rfl (dk_at dk_M_triesMorning_1 22 rfl) ?_
    refine r_aload_n C 0 rfl (dk_at dk_M_triesMorning_1 23 rfl) ?_
    refine r_getI C fl_M_353 0 (hL 0 _ rfl) rfl (dk_at dk_M_triesMorning_1 24 rfl) ?_
    refine r_iload_n C 3 rfl (dk_at dk_M_triesMorning_1 25 rfl) ?_
    refine r_cvI C cl_M_325 0 (hL 0 _ rfl) [.int a4, .int (gI σ 0 34), .int a3] (m_M_canRead hL h) (rmK_ok2 (f := f0) (q := q0) (f' := 92) (q' := 2225) (by omega) (by omega)) rfl rfl (Nat.le_of_ble_eq_true rfl) (dk_at dk_M_triesMorning_1 26 rfl) (fun r12 σ13 h => ?_)
    refine r_if_ne C 131 rfl (dk_at dk_M_triesMorning_1 27 rfl) (fun c14 => ?_) (fun c14 => ?_)
    · replace h := h.1 c14
      refine r_aload_n C 0 rfl (dk_at dk_M_triesMorning_1 29 rfl) ?_
      refine r_getR C fl_M_67 0 (hL 0 _ rfl) rfl (dk_at dk_M_triesMorning_1 30 rfl) ?_
      refine r_iload_n C 1 rfl (dk_at dk_M_triesMorning_1 31 rfl) ?_
      refine r_iload C 4 rfl (dk_at dk_M_triesMorning_1 32 rfl) ?_
      obtain ⟨q17, h⟩ := h
      refine r_iast C 31 (hL 31 _ rfl) q17 (dk_at dk_M_triesMorning_1 33 rfl) (r_sg (fun σ15 e16 => ?_))
      replace h := h σ15 e16
      refine r_aload_n C 0 rfl (dk_at dk_M_triesMorning_1 34 rfl) ?_
      refine r_iload C 4 rfl (dk_at dk_M_triesMorning_1 35 rfl) ?_
      refine r_aload_n C 0 rfl (dk_at dk_M_triesMorning_1 36 rfl) ?_
      refine r_getI C fl_M_353 0 (hL 0 _ rfl) rfl (dk_at dk_M_triesMorning_1 37 rfl) ?_
      refine r_iload_n C 3 rfl (dk_at dk_M_triesMorning_1 38 rfl) ?_
      refine r_cvV C cl_M_328 0 (hL 0 _ rfl) [.int a4, .int (gI σ15 0 34), .int a3] (m_M_logs hL h) (rmK_ok2 (f := f0) (q := q0) (f' := 0) (q' := 0) (by omega) (by omega)) rfl rfl (Nat.le_of_ble_eq_true rfl) (dk_at dk_M_triesMorning_1 39 rfl) (fun σ19 h => ?_)
      refine r_aload_n C 0 rfl (dk_at dk_M_triesMorning_2 0 rfl) ?_
      refine r_iload_n C 1 rfl (dk_at dk_M_triesMorning_2 1 rfl) ?_
      refine r_iconst C 1 (dk_at dk_M_triesMorning_2 2 rfl) ?_
      refine r_iadd C (dk_at dk_M_triesMorning_2 3 rfl) ?_
      refine r_iload_n C 2 rfl (dk_at dk_M_triesMorning_2 4 rfl) ?_
      refine r_iconst C 1 (dk_at dk_M_triesMorning_2 5 rfl) ?_
      refine r_iadd C (dk_at dk_M_triesMorning_2 6 rfl) ?_
      refine r_cvV C cl_M_356 0 (hL 0 _ rfl) [.int (a1 + 1), .int (a2 + 1)] (ho_triesMorning _ _ _ _ h) (rmK_ok2 hr_triesMorning.1 hr_triesMorning.2) rfl rfl (Nat.le_of_ble_eq_true rfl) (dk_at dk_M_triesMorning_2 7 rfl) (fun σ21 h => ?_)
      refine r_aload_n C 0 rfl (dk_at dk_M_triesMorning_2 8 rfl) ?_
      refine r_getR C fl_M_20 0 (hL 0 _ rfl) rfl (dk_at dk_M_triesMorning_2 9 rfl) ?_
      refine r_sipush C 401 (dk_at dk_M_triesMorning_2 10 rfl) ?_
      refine r_dup2 C rfl rfl (dk_at dk_M_triesMorning_2 11 rfl) ?_
      refine r_ialdK C 4 (hL 4 _ rfl) lk_401 (vk_401_6012) (dk_at dk_M_triesMorning_2 12 rfl) ?_
      refine r_iconst C 1 (dk_at dk_M_triesMorning_2 13 rfl) ?_
      refine r_isub C (dk_at dk_M_triesMorning_2 14 rfl) ?_
      refine r_iastK C 4 (hL 4 _ rfl) lk_401 vk_401_6012 (dk_at dk_M_triesMorning_2 15 rfl) (r_sg (fun σ22 e23 => ?_))
      replace h := h σ22 e23
      refine r_iinc C 4 rfl rfl [(4, .int (a4 + 1)), (0, .ref (wAd w 0)), (1, .int a1), (2, .int a2), (3, .int a3)] rfl rfl (dk_at dk_M_triesMorning_2 16 rfl) ?_
      refine r_goto C 101 rfl (dk_at dk_M_triesMorning_2 17 rfl) ?_
      refine r_lv [1, 2, 3, 4, 0] rfl ?_
      exact k101 _ _ h
    · replace h := h.2 c14
      refine r_goto C 172 rfl (dk_at dk_M_triesMorning_1 28 rfl) ?_
      refine r_iinc C 4 rfl rfl [(4, .int (a4 + 1)), (0, .ref (wAd w 0)), (1, .int a1), (2, .int a2), (3, .int a3)] rfl rfl (dk_at dk_M_triesMorning_2 16 rfl) ?_
      refine r_goto C 101 rfl (dk_at dk_M_triesMorning_2 17 rfl) ?_
      refine r_lv [1, 2, 3, 4, 0] rfl ?_
      exact k101 _ _ h
set_option maxRecDepth 20000 in
theorem t_M_triesMorning_l101 {o_triesMorning : DD → Int32 → Int32 → (DD → Prop) → Prop} {f0 q0 f_triesMorning q_triesMorning : Nat} {X : CT} {w : WO} (C : CF X w (lim0 w) 6 cX11_triesMorning RX11 none (.code yX11_triesMorning cX11_triesMorning 6 none) (rmK f0 q0)) (hL : LyM w) (hr0 : 93 ≤ f0 ∧ 2249 ≤ q0) (hr_triesMorning : f_triesMorning + 1 ≤ f0 ∧ 8 + (6 + 11) + q_triesMorning ≤ q0) (ho_triesMorning : ∀ (σ : DD) (a1 : Int32) (a2 : Int32) (post : DD → Prop), o_triesMorning σ a1 a2 post → MV X.l w yX11_triesMorning cX11_triesMorning 6 (rmK f_triesMorning q_triesMorning) σ [.ref (wAd w 0), .int a1, .int a2] post) {a1 : Int32} {a2 : Int32} {a3 : Int32} {post : DD → Prop} {σ : DD} {a4 : Int32} (h : w_M_triesMorning_l101 o_triesMorning post σ a1 a2 a3 a4) : gW X w (lim0 w) 6 (QV X w post) σ 101 [(0, .ref (wAd w 0)), (1, .int a1), (2, .int a2), (3, .int a3), (4, .int a4)] [] :=
  LoopW (G := fun x : DD × Int32 => gW X w (lim0 w) 6 (QV X w post) x.1 101 [(0, .ref (wAd w 0)), (1, .int a1), (2, .int a2), (3, .int a3), (4, .int x.2)] []) (fun K x hK hF => t_M_triesMorning_b101 C hL hr0 hr_triesMorning ho_triesMorning (fun σ a4 q => hK (σ, a4) q) hF) h
set_option maxRecDepth 20000 in
theorem m_M_triesMorning_o {l : Launch} {w : WO} (hL : LyM w) {o_triesMorning : DD → Int32 → Int32 → (DD → Prop) → Prop} {f0 q0 f_triesMorning q_triesMorning : Nat} (hr0 : 93 ≤ f0 ∧ 2249 ≤ q0) (hr_triesMorning : f_triesMorning + 1 ≤ f0 ∧ 8 + (6 + 11) + q_triesMorning ≤ q0) (ho_triesMorning : ∀ (σ : DD) (a1 : Int32) (a2 : Int32) (post : DD → Prop), o_triesMorning σ a1 a2 post → MV l w yX11_triesMorning cX11_triesMorning 6 (rmK f_triesMorning q_triesMorning) σ [.ref (wAd w 0), .int a1, .int a2] post) {σ : DD} {a1 : Int32} {a2 : Int32} {post : DD → Prop} (h : w_M_triesMorning_o o_triesMorning σ a1 a2 post) : MV l w yX11_triesMorning cX11_triesMorning 6 (rmK f0 q0) σ [.ref (wAd w 0), .int a1, .int a2] post :=
  met_head (rt := none) (by decide) rfl (fun X hX C => by
  subst hX
  unfold w_M_triesMorning_o at h
  show gW X w (lim0 w) 6 (QV X w post) σ 0 [(0, .ref (wAd w 0)), (1, .int a1), (2, .int a2)] []
  refine r_aload_n C 0 rfl (dk_at dk_M_triesMorning_0 0 rfl) ?_
  refine r_getR C fl_M_20 0 (hL 0 _ rfl) rfl (dk_at dk_M_triesMorning_0 1 rfl) ?_
  refine r_sipush C 395 (dk_at dk_M_triesMorning_0 2 rfl) ?_
  refine r_ialdK C 4 (hL 4 _ rfl) lk_395 (vk_395_6012) (dk_at dk_M_triesMorning_0 3 rfl) ?_
  refine r_iload_n C 1 rfl (dk_at dk_M_triesMorning_0 4 rfl) ?_
  refine r_iadd C (dk_at dk_M_triesMorning_0 5 rfl) ?_
  refine r_topi (fun v24 e25 => ?_)
  replace h := h v24 e25
  refine r_istore_n C [(3, .int v24), (0, .ref (wAd w 0)), (1, .int a1), (2, .int a2)] rfl rfl (dk_at dk_M_triesMorning_0 6 rfl) ?_
  refine r_iload_n C 3 rfl (dk_at dk_M_triesMorning_0 7 rfl) ?_
  refine r_aload_n C 1 rfl (dk_at dk_M_triesMorning_0 8 rfl) ?_
  refine r_getI C fl_M_341 0 (hL 0 _ rfl) rfl (dk_at dk_M_triesMorning_0 9 rfl) ?_
  refine r_icmp_lt C 20 rfl (dk_at dk_M_triesMorning_0 10 rfl) (fun c26 => ?_) (fun c26 => ?_)
  · replace h := h.1 c26
    refine r_iload_n C 2 rfl (dk_at dk_M_triesMorning_0 12 rfl) ?_
    refine r_aload_n C 1 rfl (dk_at dk_M_triesMorning_0 13 rfl) ?_
    refine r_getI C fl_M_344 0 (hL 0 _ rfl) rfl (dk_at dk_M_triesMorning_0 14 rfl) ?_
    refine r_icmp_ne C 98 rfl (dk_at dk_M_triesMorning_0 15 rfl) (fun c27 => ?_) (fun c27 => ?_)
    · replace h := h.1 c27
      refine r_iconst C 0 (dk_at dk_M_triesMorning_1 13 rfl) ?_
      refine r_istore C [(4, .int 0), (3, .int v24), (0, .ref (wAd w 0)), (1, .int a1), (2, .int a2)] rfl rfl (dk_at dk_M_triesMorning_1 14 rfl) ?_
      refine r_lv [2, 3, 4, 1, 0] rfl ?_
      exact t_M_triesMorning_l101 C hL hr0 hr_triesMorning ho_triesMorning h
    · replace h := h.2 c27
      refine r_aload_n C 1 rfl (dk_at dk_M_triesMorning_0 16 rfl) ?_
      refine r_iload_n C 0 rfl (dk_at dk_M_triesMorning_0 17 rfl) ?_
      refine r_cvI C cl_M_335 0 (hL 0 _ rfl) [.int v24] (m_M_heldOn hL h) (rmK_ok2 (f := f0) (q := q0) (f' := 92) (q' := 2224) (by omega) (by omega)) rfl rfl (Nat.le_of_ble_eq_true rfl) (dk_at dk_M_triesMorning_0 18 rfl) (fun r28 σ29 h => ?_)
      refine r_istore C [(4, .int r28), (3, .int v24), (0, .ref (wAd w 0)), (1, .int a1), (2, .int a2)] rfl rfl (dk_at dk_M_triesMorning_0 19 rfl) ?_
      refine r_iload C 0 rfl (dk_at dk_M_triesMorning_0 20 rfl) ?_
      refine r_aload_n C 2 rfl (dk_at dk_M_triesMorning_0 21 rfl) ?_
      refine r_getI C fl_M_347 0 (hL 0 _ rfl) rfl (dk_at dk_M_triesMorning_0 22 rfl) ?_
      refine r_iand C (dk_at dk_M_triesMorning_0 23 rfl) ?_
      refine r_aload_n C 2 rfl (dk_at dk_M_triesMorning_0 24 rfl) ?_
      refine r_getI C fl_M_347 0 (hL 0 _ rfl) rfl (dk_at dk_M_triesMorning_0 25 rfl) ?_
      refine r_icmp_ne C 59 rfl (dk_at dk_M_triesMorning_0 26 rfl) (fun c30 => ?_) (fun c30 => ?_)
      · replace h := h.1 c30
        exact r_vret C h (dk_at dk_M_triesMorning_0 32 rfl)
      · replace h := h.2 c30
        refine r_iload C 0 rfl (dk_at dk_M_triesMorning_0 27 rfl) ?_
        refine r_aload_n C 2 rfl (dk_at dk_M_triesMorning_0 28 rfl) ?_
        refine r_getI C fl_M_350 0 (hL 0 _ rfl) rfl (dk_at dk_M_triesMorning_0 29 rfl) ?_
        refine r_iand C (dk_at dk_M_triesMorning_0 30 rfl) ?_
        refine r_if_eq C 60 rfl (dk_at dk_M_triesMorning_0 31 rfl) (fun c31 => ?_) (fun c31 => ?_)
        · replace h := h.1 c31
          refine r_aload_n C 2 rfl (dk_at dk_M_triesMorning_0 33 rfl) ?_
          refine r_iload_n C 4 rfl (dk_at dk_M_triesMorning_0 34 rfl) ?_
          refine r_putI C fl_M_341 0 (hL 0 _ rfl) rfl (dk_at dk_M_triesMorning_0 35 rfl) (r_sg (fun σ32 e33 => ?_))
          replace h := h σ32 e33
          refine r_iconst C 0 (dk_at dk_M_triesMorning_0 36 rfl) ?_
          refine r_istore C [(5, .int 0), (4, .int r28), (3, .int v24), (0, .ref (wAd w 0)), (1, .int a1), (2, .int a2)] rfl rfl (dk_at dk_M_triesMorning_0 37 rfl) ?_
          refine r_lv [3, 0] rfl ?_
          exact t_M_triesMorning_l68 C hL hr0 hr_triesMorning ho_triesMorning h
        · replace h := h.2 c31
          exact r_vret C h (dk_at dk_M_triesMorning_0 32 rfl)
  · replace h := h.2 c26
    exact r_vret C h (dk_at dk_M_triesMorning_0 11 rfl)
  )
