set_option maxRecDepth 20000 in
theorem t_Outl_wouldMakeSo_l3 {X : CT} {w : WO} (C : CF X w (lim0 w) 9 cX3_wouldMakeSo RX3 (some .boolean) (.code yX3_wouldMakeSo cX3_wouldMakeSo 9 (some .boolean)) (rmK 3 96)) {T : TXT} {z : EXa} (hL : LyX w T z) {a1 : Int32} {a2 : Int32} {a3 : Int32} {post : Int32 → DD → Prop} {σ : DD} {a4 : Int32} (h : w_Outl_wouldMakeSo_l3 T post σ a1 a2 a3 a4) : gW X w (lim0 w) 9 (QI X w post) σ 3 [(0, .ref (wAd w 100)), (1, .int a1), (2, .int a2), (3, .int a3), (4, .int a4)] [] :=
  LoopW (G := fun x : DD × Int32 => gW X w (lim0 w) 9 (QI X w post) x.1 3 [(0, .ref (wAd w 100)), (1, .int a1), (2, .int a2), (3, .int a3), (4, .int x.2)] []) (fun K x hK hF => t_Outl_wouldMakeSo_b3 C hL (fun σ a4 q => hK (σ, a4) q) hF) h
set_option maxRecDepth 20000 in
theorem m_Outl_wouldMakeSo {l : Launch} {w : WO} {T : TXT} {z : EXa} (hL : LyX w T z) {σ : DD} {a1 : Int32} {a2 : Int32} {a3 : Int32} {post : Int32 → DD → Prop} (h : w_Outl_wouldMakeSo T σ a1 a2 a3 post) : MI l w yX3_wouldMakeSo cX3_wouldMakeSo 9 .boolean (rmK 3 96) σ [.ref (wAd w 100), .int a1, .int a2, .int a3] post :=
  met_head (rt := (some .boolean)) (by decide) rfl (fun X hX C => by
  subst hX
  unfold w_Outl_wouldMakeSo at h
  show gW X w (lim0 w) 9 (QI X w post) σ 0 [(0, .ref (wAd w 100)), (1, .int a1), (2, .int a2), (3, .int a3)] []
  refine r_iconst C 0 (dk_at dk_Outl_wouldMakeSo_0 0 rfl) ?_
  refine r_istore C [(4, .int 0), (0, .ref (wAd w 100)), (1, .int a1), (2, .int a2), (3, .int a3)] rfl rfl (dk_at dk_Outl_wouldMakeSo_0 1 rfl) ?_
  refine r_lv [1, 2, 3, 4, 0] rfl ?_
  exact t_Outl_wouldMakeSo_l3 C hL h
  )
set_option maxRecDepth 20000 in
theorem t_Outl_unwrittenReading_b50 {X : CT} {w : WO} (C : CF X w (lim0 w) 7 cX3_unwrittenReading RX3 (some .int) (.code yX3_unwrittenReading cX3_unwrittenReading 7 (some .int)) (rmK 5 144)) {T : TXT} {z : EXa} (hL : LyX w T z) {K19 : DD → Int32 → Int32 → Prop} {K35 : DD → Int32 → Int32 → Prop} {a1 : Int32} {a3 : Int32} {a4 : Int32} {a5 : Int32} {K50 : DD → Int32 → Int32 → Prop} {post : Int32 → DD → Prop} (k19 : ∀ (σ : DD) (a2 : Int32) (a4 : Int32), K19 σ a2 a4 → gW X w (lim0 w) 7 (QI X w post) σ 19 [(0, .ref (wAd w 100)), (1, .int a1), (2, .int a2), (3, .int a3), (4, .int a4)] []) (k35 : ∀ (σ : DD) (a2 : Int32) (a5 : Int32), K35 σ a2 a5 → gW X w (lim0 w) 7 (QI X w post) σ 35 [(0, .ref (wAd w 100)), (1, .int a1), (2, .int a2), (3, .int a3), (4, .int a4), (5, .int a5)] []) (k50 : ∀ (σ : DD) (a2 : Int32) (a6 : Int32), K50 σ a2 a6 → gW X w (lim0 w) 7 (QI X w post) σ 50 [(0, .ref (wAd w 100)), (1, .int a1), (2, .int a2), (3, .int a3), (4, .int a4), (5, .int a5), (6, .int a6)] []) {σ : DD} {a2 : Int32} {a6 : Int32} (h : w_Outl_unwrittenReading_b50 T K19 K35 a1 a3 a4 a5 K50 post σ a2 a6) : gW X w (lim0 w) 7 (QI X w post) σ 50 [(0, .ref (wAd w 100)), (1, .int a1), (2, .int a2), (3, .int a3), (4, .int a4), (5, .int a5), (6, .int a6)] [] := by
  unfold w_Outl_unwrittenReading_b50 at h
  refine r_iload C 6 rfl (dk_at dk_Outl_unwrittenReading_0 27 rfl) ?_
  refine r_aload_n C 0 rfl (dk_at dk_Outl_unwrittenReading_0 28 rfl) ?_
  refine r_getR C fl_Outl_23 100 (hL.1 100 _ rfl) rfl (dk_at dk_Outl_unwrittenReading_0 29 rfl) ?_
  refine r_getI C fl_Outl_114 200 (hL.1 200 _ rfl) rfl (dk_at dk_Outl_unwrittenReading_0 30 rfl) ?_
  refine r_icmp_ge C 109 rfl (dk_at dk_Outl_unwrittenReading_0 31 rfl) (fun c1 => ?_) (fun c1 => ?_)
  · replace h := h.1 c1
    refine r_iinc C 5 rfl rfl [(5, .int (a5 + 1)), (0, .ref (wAd w 100)), (1, .int a1), (2, .int a2), (3, .int a3), (4, .int a4), (6, .int a6)] rfl rfl (dk_at dk_Outl_unwrittenReading_1 17 rfl) ?_
    refine r_goto C 35 rfl (dk_at dk_Outl_unwrittenReading_1 18 rfl) ?_
    refine r_lv [1, 2, 3, 4, 5, 0] rfl ?_
    exact k35 _ _ _ h
  · replace h := h.2 c1
    refine r_aload_n C 0 rfl (dk_at dk_Outl_unwrittenReading_0 32 rfl) ?_
    refine r_iload C 6 rfl (dk_at dk_Outl_unwrittenReading_0 33 rfl) ?_
    refine r_iload C 5 rfl (dk_at dk_Outl_unwrittenReading_0 34 rfl) ?_
    refine r_iload_n C 3 rfl (dk_at dk_Outl_unwrittenReading_0 35 rfl) ?_
    refine r_iload C 4 rfl (dk_at dk_Outl_unwrittenReading_0 36 rfl) ?_
    refine r_isub C (dk_at dk_Outl_unwrittenReading_0 37 rfl) ?_
    refine r_cvI C cl_Outl_117 100 (hL.1 100 _ rfl) [.int a6, .int a5, .int (a3 - a4)] (m_Outl_wouldMakeSo hL h) (rmK_ok rfl rfl) rfl rfl (Nat.le_of_ble_eq_true rfl) (dk_at dk_Outl_unwrittenReading_0 38 rfl) (fun r2 σ3 h => ?_)
    refine r_if_ne C 80 rfl (dk_at dk_Outl_unwrittenReading_0 39 rfl) (fun c4 => ?_) (fun c4 => ?_)
    · replace h := h.1 c4
      refine r_iload_n C 2 rfl (dk_at dk_Outl_unwrittenReading_1 1 rfl) ?_
      refine r_iload_n C 1 rfl (dk_at dk_Outl_unwrittenReading_1 2 rfl) ?_
      refine r_icmp_ne C 100 rfl (dk_at dk_Outl_unwrittenReading_1 3 rfl) (fun c5 => ?_) (fun c5 => ?_)
      · replace h := h.1 c5
        refine r_iinc C 2 rfl rfl [(2, .int (a2 + 1)), (0, .ref (wAd w 100)), (1, .int a1), (3, .int a3), (4, .int a4), (5, .int a5), (6, .int a6)] rfl rfl (dk_at dk_Outl_unwrittenReading_1 14 rfl) ?_
        refine r_iinc C 6 rfl rfl [(6, .int (a6 + 1)), (2, .int (a2 + 1)), (0, .ref (wAd w 100)), (1, .int a1), (3, .int a3), (4, .int a4), (5, .int a5)] rfl rfl (dk_at dk_Outl_unwrittenReading_1 15 rfl) ?_
        refine r_goto C 50 rfl (dk_at dk_Outl_unwrittenReading_1 16 rfl) ?_
        refine r_lv [2, 3, 1, 4, 5, 6, 0] rfl ?_
        exact k50 _ _ _ h
      · replace h := h.2 c5
        refine r_iload C 4 rfl (dk_at dk_Outl_unwrittenReading_1 4 rfl) ?_
        refine r_bipush C 32 (dk_at dk_Outl_unwrittenReading_1 5 rfl) ?_
        refine r_imul C (dk_at dk_Outl_unwrittenReading_1 6 rfl) ?_
        refine r_iload C 5 rfl (dk_at dk_Outl_unwrittenReading_1 7 rfl) ?_
        refine r_bipush C 8 (dk_at dk_Outl_unwrittenReading_1 8 rfl) ?_
        refine r_imul C (dk_at dk_Outl_unwrittenReading_1 9 rfl) ?_
        refine r_iadd C (dk_at dk_Outl_unwrittenReading_1 10 rfl) ?_
        refine r_iload C 6 rfl (dk_at dk_Outl_unwrittenReading_1 11 rfl) ?_
        refine r_iadd C (dk_at dk_Outl_unwrittenReading_1 12 rfl) ?_
        exact r_iret C h (dk_at dk_Outl_unwrittenReading_1 13 rfl)
    · replace h := h.2 c4
      refine r_goto C 103 rfl (dk_at dk_Outl_unwrittenReading_1 0 rfl) ?_
      refine r_iinc C 6 rfl rfl [(6, .int (a6 + 1)), (0, .ref (wAd w 100)), (1, .int a1), (2, .int a2), (3, .int a3), (4, .int a4), (5, .int a5)] rfl rfl (dk_at dk_Outl_unwrittenReading_1 15 rfl) ?_
      refine r_goto C 50 rfl (dk_at dk_Outl_unwrittenReading_1 16 rfl) ?_
      refine r_lv [1, 2, 3, 4, 5, 6, 0] rfl ?_
      exact k50 _ _ _ h
set_option maxRecDepth 20000 in
theorem t_Outl_unwrittenReading_l50 {X : CT} {w : WO} (C : CF X w (lim0 w) 7 cX3_unwrittenReading RX3 (some .int) (.code yX3_unwrittenReading cX3_unwrittenReading 7 (some .int)) (rmK 5 144)) {T : TXT} {z : EXa} (hL : LyX w T z) {K19 : DD → Int32 → Int32 → Prop} {K35 : DD → Int32 → Int32 → Prop} {a1 : Int32} {a3 : Int32} {a4 : Int32} {a5 : Int32} {post : Int32 → DD → Prop} (k19 : ∀ (σ : DD) (a2 : Int32) (a4 : Int32), K19 σ a2 a4 → gW X w (lim0 w) 7 (QI X w post) σ 19 [(0, .ref (wAd w 100)), (1, .int a1), (2, .int a2), (3, .int a3), (4, .int a4)] []) (k35 : ∀ (σ : DD) (a2 : Int32) (a5 : Int32), K35 σ a2 a5 → gW X w (lim0 w) 7 (QI X w post) σ 35 [(0, .ref (wAd w 100)), (1, .int a1), (2, .int a2), (3, .int a3), (4, .int a4), (5, .int a5)] []) {σ : DD} {a2 : Int32} {a6 : Int32} (h : w_Outl_unwrittenReading_l50 T K19 K35 post σ a1 a2 a3 a4 a5 a6) : gW X w (lim0 w) 7 (QI X w post) σ 50 [(0, .ref (wAd w 100)), (1, .int a1), (2, .int a2), (3, .int a3), (4, .int a4), (5, .int a5), (6, .int a6)] [] :=
  LoopW (G := fun x : DD × Int32 × Int32 => gW X w (lim0 w) 7 (QI X w post) x.1 50 [(0, .ref (wAd w 100)), (1, .int a1), (2, .int x.2.1), (3, .int a3), (4, .int a4), (5, .int a5), (6, .int x.2.2)] []) (fun K x hK hF => t_Outl_unwrittenReading_b50 C hL k19 k35 (fun σ a2 a6 q => hK (σ, a2, a6) q) hF) h
set_option maxRecDepth 20000 in
theorem t_Outl_unwrittenReading_b35 {X : CT} {w : WO} (C : CF X w (lim0 w) 7 cX3_unwrittenReading RX3 (some .int) (.code yX3_unwrittenReading cX3_unwrittenReading 7 (some .int)) (rmK 5 144)) {T : TXT} {z : EXa} (hL : LyX w T z) {K19 : DD → Int32 → Int32 → Prop} {a1 : Int32} {a3 : Int32} {a4 : Int32} {K35 : DD → Int32 → Int32 → Prop} {post : Int32 → DD → Prop} (k19 : ∀ (σ : DD) (a2 : Int32) (a4 : Int32), K19 σ a2 a4 → gW X w (lim0 w) 7 (QI X w post) σ 19 [(0, .ref (wAd w 100)), (1, .int a1), (2, .int a2), (3, .int a3), (4, .int a4)] []) (k35 : ∀ (σ : DD) (a2 : Int32) (a5 : Int32), K35 σ a2 a5 → gW X w (lim0 w) 7 (QI X w post) σ 35 [(0, .ref (wAd w 100)), (1, .int a1), (2, .int a2), (3, .int a3), (4, .int a4), (5, .int a5)] []) {σ : DD} {a2 : Int32} {a5 : Int32} (h : w_Outl_unwrittenReading_b35 T K19 a1 a3 a4 K35 post σ a2 a5) : gW X w (lim0 w) 7 (QI X w post) σ 35 [(0, .ref (wAd w 100)), (1, .int a1), (2, .int a2), (3, .int a3), (4, .int a4), (5, .int a5)] [] := by
  unfold w_Outl_unwrittenReading_b35 at h
  refine r_iload C 5 rfl (dk_at dk_Outl_unwrittenReading_0 20 rfl) ?_
  refine r_aload_n C 0 rfl (dk_at dk_Outl_unwrittenReading_0 21 rfl) ?_
  refine r_getR C fl_Outl_23 100 (hL.1 100 _ rfl) rfl (dk_at dk_Outl_unwrittenReading_0 22 rfl) ?_
  refine r_getI C fl_Outl_111 200 (hL.1 200 _ rfl) rfl (dk_at dk_Outl_unwrittenReading_0 23 rfl) ?_
  refine r_icmp_ge C 115 rfl (dk_at dk_Outl_unwrittenReading_0 24 rfl) (fun c6 => ?_) (fun c6 => ?_)
  · replace h := h.1 c6
    refine r_iinc C 4 rfl rfl [(4, .int (a4 + 1)), (0, .ref (wAd w 100)), (1, .int a1), (2, .int a2), (3, .int a3), (5, .int a5)] rfl rfl (dk_at dk_Outl_unwrittenReading_1 19 rfl) ?_
    refine r_goto C 19 rfl (dk_at dk_Outl_unwrittenReading_1 20 rfl) ?_
    refine r_lv [1, 2, 3, 4, 0] rfl ?_
    exact k19 _ _ _ h
  · replace h := h.2 c6
    refine r_iconst C 0 (dk_at dk_Outl_unwrittenReading_0 25 rfl) ?_
    refine r_istore C [(6, .int 0), (0, .ref (wAd w 100)), (1, .int a1), (2, .int a2), (3, .int a3), (4, .int a4), (5, .int a5)] rfl rfl (dk_at dk_Outl_unwrittenReading_0 26 rfl) ?_
    refine r_lv [1, 2, 3, 4, 5, 6, 0] rfl ?_
    exact t_Outl_unwrittenReading_l50 C hL k19 k35 h
set_option maxRecDepth 20000 in
theorem t_Outl_unwrittenReading_l35 {X : CT} {w : WO} (C : CF X w (lim0 w) 7 cX3_unwrittenReading RX3 (some .int) (.code yX3_unwrittenReading cX3_unwrittenReading 7 (some .int)) (rmK 5 144)) {T : TXT} {z : EXa} (hL : LyX w T z) {K19 : DD → Int32 → Int32 → Prop} {a1 : Int32} {a3 : Int32} {a4 : Int32} {post : Int32 → DD → Prop} (k19 : ∀ (σ : DD) (a2 : Int32) (a4 : Int32), K19 σ a2 a4 → gW X w (lim0 w) 7 (QI X w post) σ 19 [(0, .ref (wAd w 100)), (1, .int a1), (2, .int a2), (3, .int a3), (4, .int a4)] []) {σ : DD} {a2 : Int32} {a5 : Int32} (h : w_Outl_unwrittenReading_l35 T K19 post σ a1 a2 a3 a4 a5) : gW X w (lim0 w) 7 (QI X w post) σ 35 [(0, .ref (wAd w 100)), (1, .int a1), (2, .int a2), (3, .int a3), (4, .int a4), (5, .int a5)] [] :=
  LoopW (G := fun x : DD × Int32 × Int32 => gW X w (lim0 w) 7 (QI X w post) x.1 35 [(0, .ref (wAd w 100)), (1, .int a1), (2, .int x.2.1), (3, .int a3), (4, .int a4), (5, .int x.2.2)] []) (fun K x hK hF => t_Outl_unwrittenReading_b35 C hL k19 (fun σ a2 a5 q => hK (σ, a2, a5) q) hF) h
set_option maxRecDepth 20000 in
theorem t_Outl_unwrittenReading_j121 {X : CT} {w : WO} (C : CF X w (lim0 w) 7 cX3_unwrittenReading RX3 (some .int) (.code yX3_unwrittenReading cX3_unwrittenReading 7 (some .int)) (rmK 5 144)) {T : TXT} {z : EXa} (hL : LyX w T z) {post : Int32 → DD → Prop} {a1 : Int32} {a2 : Int32} {σ : DD} (h : w_Outl_unwrittenReading_j121 T post σ a1 a2) : gW X w (lim0 w) 7 (QI X w post) σ 121 [(1, .int a1), (2, .int a2)] [] := by
  unfold w_Outl_unwrittenReading_j121 at h
  refine r_iload_n C 0 rfl (dk_at dk_Outl_unwrittenReading_1 21 rfl) ?_
  refine r_iconst C (-1) (dk_at dk_Outl_unwrittenReading_1 22 rfl) ?_
  refine r_icmp_ne C 130 rfl (dk_at dk_Outl_unwrittenReading_1 23 rfl) (fun c7 => ?_) (fun c7 => ?_)
  · replace h := h.1 c7
    refine r_iconst C (-1) (dk_at dk_Outl_unwrittenReading_1 26 rfl) ?_
    exact r_iret C h (dk_at dk_Outl_unwrittenReading_1 27 rfl)
  · replace h := h.2 c7
    refine r_iload_n C 1 rfl (dk_at dk_Outl_unwrittenReading_1 24 rfl) ?_
    refine r_goto C 131 rfl (dk_at dk_Outl_unwrittenReading_1 25 rfl) ?_
    exact r_iret C h (dk_at dk_Outl_unwrittenReading_1 27 rfl)
set_option maxRecDepth 20000 in
theorem t_Outl_unwrittenReading_b19 {X : CT} {w : WO} (C : CF X w (lim0 w) 7 cX3_unwrittenReading RX3 (some .int) (.code yX3_unwrittenReading cX3_unwrittenReading 7 (some .int)) (rmK 5 144)) {T : TXT} {z : EXa} (hL : LyX w T z) {a1 : Int32} {a3 : Int32} {K19 : DD → Int32 → Int32 → Prop} {post : Int32 → DD → Prop} (k19 : ∀ (σ : DD) (a2 : Int32) (a4 : Int32), K19 σ a2 a4 → gW X w (lim0 w) 7 (QI X w post) σ 19 [(0, .ref (wAd w 100)), (1, .int a1), (2, .int a2), (3, .int a3), (4, .int a4)] []) {σ : DD} {a2 : Int32} {a4 : Int32} (h : w_Outl_unwrittenReading_b19 T a1 a3 K19 post σ a2 a4) : gW X w (lim0 w) 7 (QI X w post) σ 19 [(0, .ref (wAd w 100)), (1, .int a1), (2, .int a2), (3, .int a3), (4, .int a4)] [] := by
  unfold w_Outl_unwrittenReading_b19 at h
  refine r_iload C 4 rfl (dk_at dk_Outl_unwrittenReading_0 12 rfl) ?_
  refine r_bipush C 30 (dk_at dk_Outl_unwrittenReading_0 13 rfl) ?_
  refine r_icmp_ge C 121 rfl (dk_at dk_Outl_unwrittenReading_0 14 rfl) (fun c8 => ?_) (fun c8 => ?_)
  · replace h := h.1 c8
    refine r_lv [1, 2] rfl ?_
    exact t_Outl_unwrittenReading_j121 C hL h
  · replace h := h.2 c8
    refine r_iload C 4 rfl (dk_at dk_Outl_unwrittenReading_0 15 rfl) ?_
    refine r_iload_n C 3 rfl (dk_at dk_Outl_unwrittenReading_0 16 rfl) ?_
    refine r_icmp_gt C 121 rfl (dk_at dk_Outl_unwrittenReading_0 17 rfl) (fun c9 => ?_) (fun c9 => ?_)
    · replace h := h.1 c9
      refine r_lv [1, 2] rfl ?_
      exact t_Outl_unwrittenReading_j121 C hL h
    · replace h := h.2 c9
      refine r_iconst C 0 (dk_at dk_Outl_unwrittenReading_0 18 rfl) ?_
      refine r_istore C [(5, .int 0), (0, .ref (wAd w 100)), (1, .int a1), (2, .int a2), (3, .int a3), (4, .int a4)] rfl rfl (dk_at dk_Outl_unwrittenReading_0 19 rfl) ?_
      refine r_lv [1, 2, 3, 4, 5, 0] rfl ?_
      exact t_Outl_unwrittenReading_l35 C hL k19 h
set_option maxRecDepth 20000 in
theorem t_Outl_unwrittenReading_l19 {X : CT} {w : WO} (C : CF X w (lim0 w) 7 cX3_unwrittenReading RX3 (some .int) (.code yX3_unwrittenReading cX3_unwrittenReading 7 (some .int)) (rmK 5 144)) {T : TXT} {z : EXa} (hL : LyX w T z) {a1 : Int32} {a3 : Int32} {post : Int32 → DD → Prop} {σ : DD} {a2 : Int32} {a4 : Int32} (h : w_Outl_unwrittenReading_l19 T post σ a1 a2 a3 a4) : gW X w (lim0 w) 7 (QI X w post) σ 19 [(0, .ref (wAd w 100)), (1, .int a1), (2, .int a2), (3, .int a3), (4, .int a4)] [] :=
  LoopW (G := fun x : DD × Int32 × Int32 => gW X w (lim0 w) 7 (QI X w post) x.1 19 [(0, .ref (wAd w 100)), (1, .int a1), (2, .int x.2.1), (3, .int a3), (4, .int x.2.2)] []) (fun K x hK hF => t_Outl_unwrittenReading_b19 C hL (fun σ a2 a4 q => hK (σ, a2, a4) q) hF) h
set_option maxRecDepth 20000 in
theorem m_Outl_unwrittenReading {l : Launch} {w : WO} {T : TXT} {z : EXa} (hL : LyX w T z) {σ : DD} {a1 : Int32} {post : Int32 → DD → Prop} (h : w_Outl_unwrittenReading T σ a1 post) : MI l w yX3_unwrittenReading cX3_unwrittenReading 7 .int (rmK 5 144) σ [.ref (wAd w 100), .int a1] post :=
  met_head (rt := (some .int)) (by decide) rfl (fun X hX C => by
  subst hX
  unfold w_Outl_unwrittenReading at h
  show gW X w (lim0 w) 7 (QI X w post) σ 0 [(0, .ref (wAd w 100)), (1, .int a1)] []
  refine r_aload_n C 0 rfl (dk_at dk_Outl_unwrittenReading_0 0 rfl) ?_
  refine r_cvV C cl_Outl_108 100 (hL.1 100 _ rfl) [] (m_Outl_lookAtFines hL h) (rmK_ok rfl rfl) rfl rfl (Nat.le_of_ble_eq_true rfl) (dk_at dk_Outl_unwrittenReading_0 1 rfl) (fun σ11 h => ?_)
  refine r_iconst C 0 (dk_at dk_Outl_unwrittenReading_0 2 rfl) ?_
  refine r_istore_n C [(2, .int 0), (0, .ref (wAd w 100)), (1, .int a1)] rfl rfl (dk_at dk_Outl_unwrittenReading_0 3 rfl) ?_
  refine r_aload_n C 1 rfl (dk_at dk_Outl_unwrittenReading_0 4 rfl) ?_
  refine r_getR C fl_Outl_23 100 (hL.1 100 _ rfl) rfl (dk_at dk_Outl_unwrittenReading_0 5 rfl) ?_
  refine r_getR C fl_Outl_31 200 (hL.1 200 _ rfl) rfl (dk_at dk_Outl_unwrittenReading_0 6 rfl) ?_
  refine r_iconst C 0 (dk_at dk_Outl_unwrittenReading_0 7 rfl) ?_
  refine r_ialdK C 208 (hL.1 208 _ rfl) lk_0 (vk_0_4) (dk_at dk_Outl_unwrittenReading_0 8 rfl) ?_
  refine r_topi (fun v12 e13 => ?_)
  replace h := h v12 e13
  refine r_istore_n C [(3, .int v12), (2, .int 0), (0, .ref (wAd w 100)), (1, .int a1)] rfl rfl (dk_at dk_Outl_unwrittenReading_0 9 rfl) ?_
  refine r_iconst C 0 (dk_at dk_Outl_unwrittenReading_0 10 rfl) ?_
  refine r_istore C [(4, .int 0), (3, .int v12), (2, .int 0), (0, .ref (wAd w 100)), (1, .int a1)] rfl rfl (dk_at dk_Outl_unwrittenReading_0 11 rfl) ?_
  refine r_lv [3, 4, 2, 1, 0] rfl ?_
  exact t_Outl_unwrittenReading_l19 C hL h
  )
set_option maxRecDepth 20000 in
theorem m_Pars_halt {l : Launch} {w : WO} {T : TXT} {z : EXa} (hL : LyX w T z) {σ : DD} {post : Int32 → DD → Prop} (h : w_Pars_halt T σ post) : MI l w yX4_halt cX4_halt 1 .boolean (rmK 0 0) σ [.ref (wAd w 30)] post :=
  met_head (rt := (some .boolean)) (by decide) rfl (fun X hX C => by
  subst hX
  unfold w_Pars_halt at h
  show gW X w (lim0 w) 1 (QI X w post) σ 0 [(0, .ref (wAd w 30))] []
  refine r_aload_n C 0 rfl (dk_at dk_Pars_halt_0 0 rfl) ?_
  refine r_aload_n C 0 rfl (dk_at dk_Pars_halt_0 1 rfl) ?_
  refine r_getR C fl_Pars_26 30 (hL.1 30 _ rfl) rfl (dk_at dk_Pars_halt_0 2 rfl) ?_
  refine r_getI C fl_Pars_75 20 (hL.1 20 _ rfl) rfl (dk_at dk_Pars_halt_0 3 rfl) ?_
  refine r_putI C fl_Pars_22 30 (hL.1 30 _ rfl) rfl (dk_at dk_Pars_halt_0 4 rfl) (r_sg (fun σ1 e2 => ?_))
  replace h := h σ1 e2
  refine r_iconst C 0 (dk_at dk_Pars_halt_0 5 rfl) ?_
  exact r_zret C (Or.inl rfl) h (dk_at dk_Pars_halt_0 6 rfl)
  )
set_option maxRecDepth 20000 in
theorem m_J0_coder_7d493 {l : Launch} {w : WO} {T : TXT} {z : EXa} (hL : LyX w T z) {o : Nat} (hso : o < 10) {σ : DD} {post : Int32 → DD → Prop} (h : w_J0_coder_7d493 T o σ post) : MI l w yJ0_coder_7d493 cJ0_coder_7d493 1 .byte (rmK 0 0) σ [.ref (z.2.1 o)] post :=
  met_head (rt := (some .byte)) (by decide) rfl (fun X hX C => by
  subst hX
  unfold w_J0_coder_7d493 at h
  show gW X w (lim0 w) 1 (QI X w post) σ 0 [(0, .ref (z.2.1 o))] []
  refine r_getsC C (hL.2.2 _ _ C.z) tw_648 (dk_at dk_J0_coder_7d493_0 0 rfl) ?_
  refine r_if_eq C 13 rfl (dk_at dk_J0_coder_7d493_0 1 rfl) (fun c1 => ?_) (fun c1 => ?_)
  · replace h := h.1 c1
    refine r_iconst C 1 (dk_at dk_J0_coder_7d493_0 5 rfl) ?_
    exact r_nret C rfl h.1 h.2 (dk_at dk_J0_coder_7d493_0 6 rfl)
  · replace h := h.2 c1
    refine r_aload_n C 0 rfl (dk_at dk_J0_coder_7d493_0 2 rfl) ?_
    refine r_sgC C (hL.2.2 _ _ C.z) o hso tw_1820 (dk_at dk_J0_coder_7d493_0 3 rfl) ?_
    refine r_goto C 14 rfl (dk_at dk_J0_coder_7d493_0 4 rfl) ?_
    exact r_nret C rfl h.1 h.2 (dk_at dk_J0_coder_7d493_0 6 rfl)
  )
set_option maxRecDepth 20000 in
theorem m_J0_length_8abf5 {l : Launch} {w : WO} {T : TXT} {z : EXa} (hL : LyX w T z) {o : Nat} (hso : o < 10) {σ : DD} {post : Int32 → DD → Prop} (h : w_J0_length_8abf5 T o σ post) : MI l w yJ0_length_8abf5 cJ0_length_8abf5 1 .int (rmK 1 20) σ [.ref (z.2.1 o)] post :=
  met_head (rt := (some .int)) (by decide) rfl (fun X hX C => by
  subst hX
  unfold w_J0_length_8abf5 at h
  show gW X w (lim0 w) 1 (QI X w post) σ 0 [(0, .ref (z.2.1 o))] []
  refine r_aload_n C 0 rfl (dk_at dk_J0_length_8abf5_0 0 rfl) ?_
  refine r_sgV C (hL.2.2 _ _ C.z) o hso tw_1819 (dk_at dk_J0_length_8abf5_0 1 rfl) ?_
  refine r_slen C (hL.2.2 _ _ C.z) o hso (dk_at dk_J0_length_8abf5_0 2 rfl) ?_
  refine r_aload_n C 0 rfl (dk_at dk_J0_length_8abf5_0 3 rfl) ?_
  refine r_svI C (hL.2.2 _ _ C.z) o hso cj_J0_335 rfl [] (m_J0_coder_7d493 hL hso h) (rmK_ok rfl rfl) rfl rfl (Nat.le_of_ble_eq_true rfl) (dk_at dk_J0_length_8abf5_0 4 rfl) (fun r1 σ2 h => ?_)
  refine r_ishr C (dk_at dk_J0_length_8abf5_0 5 rfl) ?_
  exact r_iret C h (dk_at dk_J0_length_8abf5_0 6 rfl)
  )
set_option maxRecDepth 20000 in
theorem m_J0_isLatin1_aae02 {l : Launch} {w : WO} {T : TXT} {z : EXa} (hL : LyX w T z) {o : Nat} (hso : o < 10) {σ : DD} {post : Int32 → DD → Prop} (h : w_J0_isLatin1_aae02 T o σ post) : MI l w yJ0_isLatin1_aae02 cJ0_isLatin1_aae02 1 .boolean (rmK 0 0) σ [.ref (z.2.1 o)] post :=
  met_head (rt := (some .boolean)) (by decide) rfl (fun X hX C => by
  subst hX
  unfold w_J0_isLatin1_aae02 at h
  show gW X w (lim0 w) 1 (QI X w post) σ 0 [(0, .ref (z.2.1 o))] []
  refine r_getsC C (hL.2.2 _ _ C.z) tw_648 (dk_at dk_J0_isLatin1_aae02_0 0 rfl) ?_
  refine r_if_eq C 17 rfl (dk_at dk_J0_isLatin1_aae02_0 1 rfl) (fun c1 => ?_) (fun c1 => ?_)
  · replace h := h.1 c1
    refine r_iconst C 0 (dk_at dk_J0_isLatin1_aae02_0 7 rfl) ?_
    exact r_zret C (Or.inl rfl) h (dk_at dk_J0_isLatin1_aae02_0 8 rfl)
  · replace h := h.2 c1
    refine r_aload_n C 0 rfl (dk_at dk_J0_isLatin1_aae02_0 2 rfl) ?_
    refine r_sgC C (hL.2.2 _ _ C.z) o hso tw_1820 (dk_at dk_J0_isLatin1_aae02_0 3 rfl) ?_
    refine r_if_ne C 17 rfl (dk_at dk_J0_isLatin1_aae02_0 4 rfl) (fun c2 => ?_) (fun c2 => ?_)
    · replace h := h.1 c2
      refine r_iconst C 0 (dk_at dk_J0_isLatin1_aae02_0 7 rfl) ?_
      exact r_zret C (Or.inl rfl) h (dk_at dk_J0_isLatin1_aae02_0 8 rfl)
    · replace h := h.2 c2
      refine r_iconst C 1 (dk_at dk_J0_isLatin1_aae02_0 5 rfl) ?_
      refine r_goto C 18 rfl (dk_at dk_J0_isLatin1_aae02_0 6 rfl) ?_
      exact r_zret C (Or.inr rfl) h (dk_at dk_J0_isLatin1_aae02_0 8 rfl)
  )
set_option maxRecDepth 20000 in
theorem t_J3_checkIndex_8e157_j9 {X : CT} {w : WO} (C : CF X w (lim0 w) 3 cJ3_checkIndex_8e157 RJ3 (some .int) (.code yJ3_checkIndex_8e157 cJ3_checkIndex_8e157 3 (some .int)) (rmK 0 0)) {T : TXT} {z : EXa} (hL : LyX w T z) {vv : Value} (hvv : vv = .null ∨ ∃ t, vv = .ref t) {post : Int32 → DD → Prop} {a0 : Int32} {a1 : Int32} {σ : DD} (h : w_J3_checkIndex_8e157_j9 T post σ a0 a1) : gW X w (lim0 w) 3 (QI X w post) σ 9 [(0, .int a0), (1, .int a1), (2, vv)] [] := by
  unfold w_J3_checkIndex_8e157_j9 at h
  exact h.elim
set_option maxRecDepth 20000 in
theorem m_J3_checkIndex_8e157 {l : Launch} {w : WO} {T : TXT} {z : EXa} (hL : LyX w T z) {vv : Value} (hvv : vv = .null ∨ ∃ t, vv = .ref t) {σ : DD} {a0 : Int32} {a1 : Int32} {post : Int32 → DD → Prop} (h : w_J3_checkIndex_8e157 T σ a0 a1 post) : MI l w yJ3_checkIndex_8e157 cJ3_checkIndex_8e157 3 .int (rmK 0 0) σ [.int a0, .int a1, vv] post :=
  met_head (rt := (some .int)) (by decide) (by rcases hvv with rfl | ⟨t, rfl⟩ <;> rfl) (fun X hX C => by
  subst hX
  unfold w_J3_checkIndex_8e157 at h
  show gW X w (lim0 w) 3 (QI X w post) σ 0 [(0, .int a0), (1, .int a1), (2, vv)] []
  refine r_iload_n C 0 rfl (dk_at dk_J3_checkIndex_8e157_0 0 rfl) ?_
  refine r_if_lt C 9 rfl (dk_at dk_J3_checkIndex_8e157_0 1 rfl) (fun c1 => ?_) (fun c1 => ?_)
  · replace h := h.1 c1
    refine r_lv [0, 1, 2] rfl ?_
    exact t_J3_checkIndex_8e157_j9 C hL hvv h
  · replace h := h.2 c1
    refine r_iload_n C 0 rfl (dk_at dk_J3_checkIndex_8e157_0 2 rfl) ?_
    refine r_iload_n C 1 rfl (dk_at dk_J3_checkIndex_8e157_0 3 rfl) ?_
    refine r_icmp_lt C 16 rfl (dk_at dk_J3_checkIndex_8e157_0 4 rfl) (fun c2 => ?_) (fun c2 => ?_)
    · replace h := h.1 c2
      refine r_iload_n C 0 rfl (dk_at dk_J3_checkIndex_8e157_0 10 rfl) ?_
      exact r_iret C h (dk_at dk_J3_checkIndex_8e157_0 11 rfl)
    · replace h := h.2 c2
      refine r_lv [0, 1, 2] rfl ?_
      exact t_J3_checkIndex_8e157_j9 C hL hvv h
  )
set_option maxRecDepth 20000 in
theorem m_J0_checkIndex_df160 {l : Launch} {w : WO} {T : TXT} {z : EXa} (hL : LyX w T z) {σ : DD} {a0 : Int32} {a1 : Int32} {post : DD → Prop} (h : w_J0_checkIndex_df160 T σ a0 a1 post) : MV l w yJ0_checkIndex_df160 cJ0_checkIndex_df160 2 (rmK 1 22) σ [.int a0, .int a1] post :=
  met_head (rt := none) (by decide) rfl (fun X hX C => by
  subst hX
  unfold w_J0_checkIndex_df160 at h
  show gW X w (lim0 w) 2 (QV X w post) σ 0 [(0, .int a0), (1, .int a1)] []
  refine r_iload_n C 0 rfl (dk_at dk_J0_checkIndex_df160_0 0 rfl) ?_
  refine r_iload_n C 1 rfl (dk_at dk_J0_checkIndex_df160_0 1 rfl) ?_
  refine r_getsQ C (hL.2.2 _ _ C.z) tw_664 (dk_at dk_J0_checkIndex_df160_0 2 rfl) (fun v1 g2 => ?_)
  refine r_csI C cs_J0_1059 [.int a0, .int a1, v1] (m_J3_checkIndex_8e157 hL g2 h) (rmK_ok rfl rfl) rfl rfl (Nat.le_of_ble_eq_true rfl) (dk_at dk_J0_checkIndex_df160_0 3 rfl) (fun r3 σ4 h => ?_)
  refine r_pop C rfl (dk_at dk_J0_checkIndex_df160_0 4 rfl) ?_
  exact r_vret C h (dk_at dk_J0_checkIndex_df160_0 5 rfl)
  )
set_option maxRecDepth 20000 in
theorem m_J1_charAt_3b067 {l : Launch} {w : WO} {T : TXT} {z : EXa} (hL : LyX w T z) {a0 : Nat} (hs0 : a0 < 10) {σ : DD} {a1 : Int32} {post : Int32 → DD → Prop} (h : w_J1_charAt_3b067 T a0 σ a1 post) : MI l w yJ1_charAt_3b067 cJ1_charAt_3b067 2 .char (rmK 2 43) σ [.ref (z.2.2 a0), .int a1] post :=
  met_head (rt := (some .char)) (by decide) rfl (fun X hX C => by
  subst hX
  unfold w_J1_charAt_3b067 at h
  show gW X w (lim0 w) 2 (QI X w post) σ 0 [(0, .ref (z.2.2 a0)), (1, .int a1)] []
  refine r_iload_n C 1 rfl (dk_at dk_J1_charAt_3b067_0 0 rfl) ?_
  refine r_aload_n C 0 rfl (dk_at dk_J1_charAt_3b067_0 1 rfl) ?_
  refine r_slen C (hL.2.2 _ _ C.z) a0 hs0 (dk_at dk_J1_charAt_3b067_0 2 rfl) ?_
  refine r_csV C cs_J1_9 [.int a1, .int (sLen a0)] (m_J0_checkIndex_df160 hL h) (rmK_ok rfl rfl) rfl rfl (Nat.le_of_ble_eq_true rfl) (dk_at dk_J1_charAt_3b067_0 3 rfl) (fun σ2 h => ?_)
  refine r_aload_n C 0 rfl (dk_at dk_J1_charAt_3b067_0 4 rfl) ?_
  refine r_iload_n C 1 rfl (dk_at dk_J1_charAt_3b067_0 5 rfl) ?_
  obtain ⟨q3, h⟩ := h
  refine r_sbald C (hL.2.2 _ _ C.z) a0 hs0 q3 (dk_at dk_J1_charAt_3b067_0 6 rfl) ?_
  refine r_sipush C 255 (dk_at dk_J1_charAt_3b067_0 7 rfl) ?_
  refine r_iand C (dk_at dk_J1_charAt_3b067_0 8 rfl) ?_
  refine r_i2c C (dk_at dk_J1_charAt_3b067_0 9 rfl) ?_
  exact r_nret C rfl h.1 h.2 (dk_at dk_J1_charAt_3b067_0 10 rfl)
  )
set_option maxRecDepth 20000 in
theorem m_J0_charAt_5068e {l : Launch} {w : WO} {T : TXT} {z : EXa} (hL : LyX w T z) {o : Nat} (hso : o < 10) {σ : DD} {a1 : Int32} {post : Int32 → DD → Prop} (h : w_J0_charAt_5068e T o σ a1 post) : MI l w yJ0_charAt_5068e cJ0_charAt_5068e 2 .char (rmK 3 64) σ [.ref (z.2.1 o), .int a1] post :=
  met_head (rt := (some .char)) (by decide) rfl (fun X hX C => by
  subst hX
  unfold w_J0_charAt_5068e at h
  show gW X w (lim0 w) 2 (QI X w post) σ 0 [(0, .ref (z.2.1 o)), (1, .int a1)] []
  refine r_aload_n C 0 rfl (dk_at dk_J0_charAt_5068e_0 0 rfl) ?_
  refine r_svI C (hL.2.2 _ _ C.z) o hso cj_J0_492 rfl [] (m_J0_isLatin1_aae02 hL hso h) (rmK_ok rfl rfl) rfl rfl (Nat.le_of_ble_eq_true rfl) (dk_at dk_J0_charAt_5068e_0 1 rfl) (fun r1 σ2 h => ?_)
  refine r_if_eq C 16 rfl (dk_at dk_J0_charAt_5068e_0 2 rfl) (fun c3 => ?_) (fun c3 => ?_)
  · replace h := h.1 c3
    refine r_aload_n C 0 rfl (dk_at dk_J0_charAt_5068e_0 8 rfl) ?_
    refine r_sgV C (hL.2.2 _ _ C.z) o hso tw_1819 (dk_at dk_J0_charAt_5068e_0 9 rfl) ?_
    refine r_iload_n C 1 rfl (dk_at dk_J0_charAt_5068e_0 10 rfl) ?_
    exact h.elim
  · replace h := h.2 c3
    refine r_aload_n C 0 rfl (dk_at dk_J0_charAt_5068e_0 3 rfl) ?_
    refine r_sgV C (hL.2.2 _ _ C.z) o hso tw_1819 (dk_at dk_J0_charAt_5068e_0 4 rfl) ?_
    refine r_iload_n C 1 rfl (dk_at dk_J0_charAt_5068e_0 5 rfl) ?_
    refine r_csI C cs_J0_495 [.ref (z.2.2 o), .int a1] (m_J1_charAt_3b067 hL hso h) (rmK_ok rfl rfl) rfl rfl (Nat.le_of_ble_eq_true rfl) (dk_at dk_J0_charAt_5068e_0 6 rfl) (fun r4 σ5 h => ?_)
    exact r_nret C rfl h.1 h.2 (dk_at dk_J0_charAt_5068e_0 7 rfl)
  )
set_option maxRecDepth 20000 in
theorem t_Tape_indexAmong_j129 {X : CT} {w : WO} (C : CF X w (lim0 w) 6 cX7_indexAmong RX7 (some .int) (.code yX7_indexAmong cX7_indexAmong 6 (some .int)) (rmK 4 85)) {T : TXT} {z : EXa} (hL : LyX w T z) {a1 : Nat} (hs1 : a1 < 10) {K16 : DD → Int32 → Int32 → Int32 → Prop} {post : Int32 → DD → Prop} {a2 : Int32} {a4 : Int32} (k16 : ∀ (σ : DD) (a2 : Int32) (a3 : Int32) (a4 : Int32), K16 σ a2 a3 a4 → gW X w (lim0 w) 6 (QI X w post) σ 16 [(0, .ref (wAd w 20)), (1, .ref (z.2.1 a1)), (2, .int a2), (3, .int a3), (4, .int a4)] []) {σ : DD} (h : w_Tape_indexAmong_j129 T a1 K16 post σ a2 a4) : gW X w (lim0 w) 6 (QI X w post) σ 129 [(0, .ref (wAd w 20)), (1, .ref (z.2.1 a1)), (2, .int a2), (4, .int a4)] [] := by
  unfold w_Tape_indexAmong_j129 at h
  refine r_iconst C (-1) (dk_at dk_Tape_indexAmong_1 28 rfl) ?_
  refine r_istore_n C [(3, .int (-1)), (0, .ref (wAd w 20)), (1, .ref (z.2.1 a1)), (2, .int a2), (4, .int a4)] rfl rfl (dk_at dk_Tape_indexAmong_1 29 rfl) ?_
  refine r_iinc C 4 rfl rfl [(4, .int (a4 + 1)), (3, .int (-1)), (0, .ref (wAd w 20)), (1, .ref (z.2.1 a1)), (2, .int a2)] rfl rfl (dk_at dk_Tape_indexAmong_1 30 rfl) ?_
  refine r_goto C 16 rfl (dk_at dk_Tape_indexAmong_1 31 rfl) ?_
  refine r_lv [2, 3, 4, 1, 0] rfl ?_
  exact k16 _ _ _ _ h
set_option maxRecDepth 20000 in
theorem t_Tape_indexAmong_j72 {X : CT} {w : WO} (C : CF X w (lim0 w) 6 cX7_indexAmong RX7 (some .int) (.code yX7_indexAmong cX7_indexAmong 6 (some .int)) (rmK 4 85)) {T : TXT} {z : EXa} (hL : LyX w T z) {a1 : Nat} (hs1 : a1 < 10) {K16 : DD → Int32 → Int32 → Int32 → Prop} {post : Int32 → DD → Prop} {a2 : Int32} {a3 : Int32} {a4 : Int32} {a5 : Int32} (k16 : ∀ (σ : DD) (a2 : Int32) (a3 : Int32) (a4 : Int32), K16 σ a2 a3 a4 → gW X w (lim0 w) 6 (QI X w post) σ 16 [(0, .ref (wAd w 20)), (1, .ref (z.2.1 a1)), (2, .int a2), (3, .int a3), (4, .int a4)] []) {σ : DD} (h : w_Tape_indexAmong_j72 T a1 K16 post σ a2 a3 a4 a5) : gW X w (lim0 w) 6 (QI X w post) σ 72 [(0, .ref (wAd w 20)), (1, .ref (z.2.1 a1)), (2, .int a2), (3, .int a3), (4, .int a4), (5, .int a5)] [] := by
  unfold w_Tape_indexAmong_j72 at h
  refine r_iload C 5 rfl (dk_at dk_Tape_indexAmong_0 39 rfl) ?_
  refine r_if_eq C 85 rfl (dk_at dk_Tape_indexAmong_1 0 rfl) (fun c1 => ?_) (fun c1 => ?_)
  · replace h := h.1 c1
    refine r_iload_n C 3 rfl (dk_at dk_Tape_indexAmong_1 5 rfl) ?_
    refine r_iconst C (-1) (dk_at dk_Tape_indexAmong_1 6 rfl) ?_
    refine r_icmp_eq C 129 rfl (dk_at dk_Tape_indexAmong_1 7 rfl) (fun c2 => ?_) (fun c2 => ?_)
    · replace h := h.1 c2
      refine r_lv [0, 1, 2, 4] rfl ?_
      exact t_Tape_indexAmong_j129 C hL hs1 k16 h
    · replace h := h.2 c2
      refine r_iload_n C 3 rfl (dk_at dk_Tape_indexAmong_1 8 rfl) ?_
      refine r_aload_n C 0 rfl (dk_at dk_Tape_indexAmong_1 9 rfl) ?_
      refine r_getI C fl_Tape_19 20 (hL.1 20 _ rfl) rfl (dk_at dk_Tape_indexAmong_1 10 rfl) ?_
      refine r_aload_n C 0 rfl (dk_at dk_Tape_indexAmong_1 11 rfl) ?_
      refine r_getI C fl_Tape_25 20 (hL.1 20 _ rfl) rfl (dk_at dk_Tape_indexAmong_1 12 rfl) ?_
      refine r_isub C (dk_at dk_Tape_indexAmong_1 13 rfl) ?_
      refine r_icmp_ge C 129 rfl (dk_at dk_Tape_indexAmong_1 14 rfl) (fun c3 => ?_) (fun c3 => ?_)
      · replace h := h.1 c3
        refine r_lv [0, 1, 2, 4] rfl ?_
        exact t_Tape_indexAmong_j129 C hL hs1 k16 h
      · replace h := h.2 c3
        refine r_aload_n C 0 rfl (dk_at dk_Tape_indexAmong_1 15 rfl) ?_
        refine r_getR C fl_Tape_11 20 (hL.1 20 _ rfl) rfl (dk_at dk_Tape_indexAmong_1 16 rfl) ?_
        refine r_aload_n C 0 rfl (dk_at dk_Tape_indexAmong_1 17 rfl) ?_
        refine r_getI C fl_Tape_25 20 (hL.1 20 _ rfl) rfl (dk_at dk_Tape_indexAmong_1 18 rfl) ?_
        refine r_iload_n C 3 rfl (dk_at dk_Tape_indexAmong_1 19 rfl) ?_
        refine r_iadd C (dk_at dk_Tape_indexAmong_1 20 rfl) ?_
        obtain ⟨q4, h⟩ := h
        refine r_iald C 21 (hL.1 21 _ rfl) q4 (dk_at dk_Tape_indexAmong_1 21 rfl) ?_
        refine r_aload_n C 1 rfl (dk_at dk_Tape_indexAmong_1 22 rfl) ?_
        refine r_iload C 4 rfl (dk_at dk_Tape_indexAmong_1 23 rfl) ?_
        refine r_svI C (hL.2.2 _ _ C.z) a1 hs1 cj_Tape_45 rfl [.int a4] (m_J0_charAt_5068e hL hs1 h) (rmK_ok rfl rfl) rfl rfl (Nat.le_of_ble_eq_true rfl) (dk_at dk_Tape_indexAmong_1 24 rfl) (fun r5 σ6 h => ?_)
        refine r_icmp_ne C 129 rfl (dk_at dk_Tape_indexAmong_1 25 rfl) (fun c7 => ?_) (fun c7 => ?_)
        · replace h := h.1 c7
          refine r_lv [0, 1, 2, 4] rfl ?_
          exact t_Tape_indexAmong_j129 C hL hs1 k16 h
        · replace h := h.2 c7
          refine r_iinc C 3 rfl rfl [(3, .int (a3 + 1)), (0, .ref (wAd w 20)), (1, .ref (z.2.1 a1)), (2, .int a2), (4, .int a4), (5, .int a5)] rfl rfl (dk_at dk_Tape_indexAmong_1 26 rfl) ?_
          refine r_goto C 131 rfl (dk_at dk_Tape_indexAmong_1 27 rfl) ?_
          refine r_iinc C 4 rfl rfl [(4, .int (a4 + 1)), (3, .int (a3 + 1)), (0, .ref (wAd w 20)), (1, .ref (z.2.1 a1)), (2, .int a2), (5, .int a5)] rfl rfl (dk_at dk_Tape_indexAmong_1 30 rfl) ?_
          refine r_goto C 16 rfl (dk_at dk_Tape_indexAmong_1 31 rfl) ?_
          refine r_lv [2, 3, 4, 1, 0] rfl ?_
          exact k16 _ _ _ _ h
  · replace h := h.2 c1
    refine r_iinc C 2 rfl rfl [(2, .int (a2 + 1)), (0, .ref (wAd w 20)), (1, .ref (z.2.1 a1)), (3, .int a3), (4, .int a4), (5, .int a5)] rfl rfl (dk_at dk_Tape_indexAmong_1 1 rfl) ?_
    refine r_iconst C 0 (dk_at dk_Tape_indexAmong_1 2 rfl) ?_
    refine r_istore_n C [(3, .int 0), (2, .int (a2 + 1)), (0, .ref (wAd w 20)), (1, .ref (z.2.1 a1)), (4, .int a4), (5, .int a5)] rfl rfl (dk_at dk_Tape_indexAmong_1 3 rfl) ?_
    refine r_goto C 131 rfl (dk_at dk_Tape_indexAmong_1 4 rfl) ?_
    refine r_iinc C 4 rfl rfl [(4, .int (a4 + 1)), (3, .int 0), (2, .int (a2 + 1)), (0, .ref (wAd w 20)), (1, .ref (z.2.1 a1)), (5, .int a5)] rfl rfl (dk_at dk_Tape_indexAmong_1 30 rfl) ?_
    refine r_goto C 16 rfl (dk_at dk_Tape_indexAmong_1 31 rfl) ?_
    refine r_lv [3, 4, 2, 1, 0] rfl ?_
    exact k16 _ _ _ _ h
set_option maxRecDepth 20000 in
theorem t_Tape_indexAmong_j50 {X : CT} {w : WO} (C : CF X w (lim0 w) 6 cX7_indexAmong RX7 (some .int) (.code yX7_indexAmong cX7_indexAmong 6 (some .int)) (rmK 4 85)) {T : TXT} {z : EXa} (hL : LyX w T z) {a1 : Nat} (hs1 : a1 < 10) {K16 : DD → Int32 → Int32 → Int32 → Prop} {post : Int32 → DD → Prop} {a2 : Int32} {a3 : Int32} {a4 : Int32} {t0 : Int32} (k16 : ∀ (σ : DD) (a2 : Int32) (a3 : Int32) (a4 : Int32), K16 σ a2 a3 a4 → gW X w (lim0 w) 6 (QI X w post) σ 16 [(0, .ref (wAd w 20)), (1, .ref (z.2.1 a1)), (2, .int a2), (3, .int a3), (4, .int a4)] []) {σ : DD} (h : w_Tape_indexAmong_j50 T a1 K16 post σ a2 a3 a4 t0) : gW X w (lim0 w) 6 (QI X w post) σ 50 [(0, .ref (wAd w 20)), (1, .ref (z.2.1 a1)), (2, .int a2), (3, .int a3), (4, .int a4)] [.int t0] := by
  unfold w_Tape_indexAmong_j50 at h
  refine r_istore C [(5, .int t0), (0, .ref (wAd w 20)), (1, .ref (z.2.1 a1)), (2, .int a2), (3, .int a3), (4, .int a4)] rfl rfl (dk_at dk_Tape_indexAmong_0 27 rfl) ?_
  refine r_iload C 0 rfl (dk_at dk_Tape_indexAmong_0 28 rfl) ?_
  refine r_if_eq C 72 rfl (dk_at dk_Tape_indexAmong_0 29 rfl) (fun c8 => ?_) (fun c8 => ?_)
  · replace h := h.1 c8
    refine r_lv [1, 2, 3, 4, 5, 0] rfl ?_
    exact t_Tape_indexAmong_j72 C hL hs1 k16 h
  · replace h := h.2 c8
    refine r_iload_n C 4 rfl (dk_at dk_Tape_indexAmong_0 30 rfl) ?_
    refine r_aload_n C 1 rfl (dk_at dk_Tape_indexAmong_0 31 rfl) ?_
    refine r_getI C fl_Tape_19 20 (hL.1 20 _ rfl) rfl (dk_at dk_Tape_indexAmong_0 32 rfl) ?_
    refine r_aload_n C 1 rfl (dk_at dk_Tape_indexAmong_0 33 rfl) ?_
    refine r_getI C fl_Tape_25 20 (hL.1 20 _ rfl) rfl (dk_at dk_Tape_indexAmong_0 34 rfl) ?_
    refine r_isub C (dk_at dk_Tape_indexAmong_0 35 rfl) ?_
    refine r_icmp_ne C 72 rfl (dk_at dk_Tape_indexAmong_0 36 rfl) (fun c9 => ?_) (fun c9 => ?_)
    · replace h := h.1 c9
      refine r_lv [1, 2, 3, 4, 5, 0] rfl ?_
      exact t_Tape_indexAmong_j72 C hL hs1 k16 h
    · replace h := h.2 c9
      refine r_iload_n C 3 rfl (dk_at dk_Tape_indexAmong_0 37 rfl) ?_
      exact r_iret C h (dk_at dk_Tape_indexAmong_0 38 rfl)
set_option maxRecDepth 20000 in
theorem t_Tape_indexAmong_j45 {X : CT} {w : WO} (C : CF X w (lim0 w) 6 cX7_indexAmong RX7 (some .int) (.code yX7_indexAmong cX7_indexAmong 6 (some .int)) (rmK 4 85)) {T : TXT} {z : EXa} (hL : LyX w T z) {a1 : Nat} (hs1 : a1 < 10) {K16 : DD → Int32 → Int32 → Int32 → Prop} {post : Int32 → DD → Prop} {a2 : Int32} {a3 : Int32} {a4 : Int32} (k16 : ∀ (σ : DD) (a2 : Int32) (a3 : Int32) (a4 : Int32), K16 σ a2 a3 a4 → gW X w (lim0 w) 6 (QI X w post) σ 16 [(0, .ref (wAd w 20)), (1, .ref (z.2.1 a1)), (2, .int a2), (3, .int a3), (4, .int a4)] []) {σ : DD} (h : w_Tape_indexAmong_j45 T a1 K16 post σ a2 a3 a4) : gW X w (lim0 w) 6 (QI X w post) σ 45 [(0, .ref (wAd w 20)), (1, .ref (z.2.1 a1)), (2, .int a2), (3, .int a3), (4, .int a4)] [] := by
  unfold w_Tape_indexAmong_j45 at h
  refine r_iconst C 1 (dk_at dk_Tape_indexAmong_0 24 rfl) ?_
  refine r_goto C 50 rfl (dk_at dk_Tape_indexAmong_0 25 rfl) ?_
  refine r_lv [0, 1, 2, 3, 4] rfl ?_
  exact t_Tape_indexAmong_j50 C hL hs1 k16 h
set_option maxRecDepth 20000 in
theorem t_Tape_indexAmong_b16 {X : CT} {w : WO} (C : CF X w (lim0 w) 6 cX7_indexAmong RX7 (some .int) (.code yX7_indexAmong cX7_indexAmong 6 (some .int)) (rmK 4 85)) {T : TXT} {z : EXa} (hL : LyX w T z) {a1 : Nat} (hs1 : a1 < 10) {K16 : DD → Int32 → Int32 → Int32 → Prop} {post : Int32 → DD → Prop} (k16 : ∀ (σ : DD) (a2 : Int32) (a3 : Int32) (a4 : Int32), K16 σ a2 a3 a4 → gW X w (lim0 w) 6 (QI X w post) σ 16 [(0, .ref (wAd w 20)), (1, .ref (z.2.1 a1)), (2, .int a2), (3, .int a3), (4, .int a4)] []) {σ : DD} {a2 : Int32} {a3 : Int32} {a4 : Int32} (h : w_Tape_indexAmong_b16 T a1 K16 post σ a2 a3 a4) : gW X w (lim0 w) 6 (QI X w post) σ 16 [(0, .ref (wAd w 20)), (1, .ref (z.2.1 a1)), (2, .int a2), (3, .int a3), (4, .int a4)] [] := by
  unfold w_Tape_indexAmong_b16 at h
  refine r_iload C 4 rfl (dk_at dk_Tape_indexAmong_0 11 rfl) ?_
  refine r_aload_n C 1 rfl (dk_at dk_Tape_indexAmong_0 12 rfl) ?_
  refine r_svI C (hL.2.2 _ _ C.z) a1 hs1 cj_Tape_39 rfl [] (m_J0_length_8abf5 hL hs1 h) (rmK_ok rfl rfl) rfl rfl (Nat.le_of_ble_eq_true rfl) (dk_at dk_Tape_indexAmong_0 13 rfl) (fun r10 σ11 h => ?_)
  refine r_icmp_gt C 137 rfl (dk_at dk_Tape_indexAmong_0 14 rfl) (fun c12 => ?_) (fun c12 => ?_)
  · replace h := h.1 c12
    refine r_iconst C (-1) (dk_at dk_Tape_indexAmong_1 32 rfl) ?_
    exact r_iret C h (dk_at dk_Tape_indexAmong_1 33 rfl)
  · replace h := h.2 c12
    refine r_iload C 4 rfl (dk_at dk_Tape_indexAmong_0 15 rfl) ?_
    refine r_aload_n C 1 rfl (dk_at dk_Tape_indexAmong_0 16 rfl) ?_
    refine r_svI C (hL.2.2 _ _ C.z) a1 hs1 cj_Tape_39 rfl [] (m_J0_length_8abf5 hL hs1 h) (rmK_ok rfl rfl) rfl rfl (Nat.le_of_ble_eq_true rfl) (dk_at dk_Tape_indexAmong_0 17 rfl) (fun r13 σ14 h => ?_)
    refine r_icmp_eq C 45 rfl (dk_at dk_Tape_indexAmong_0 18 rfl) (fun c15 => ?_) (fun c15 => ?_)
    · replace h := h.1 c15
      refine r_lv [0, 1, 2, 3, 4] rfl ?_
      exact t_Tape_indexAmong_j45 C hL hs1 k16 h
    · replace h := h.2 c15
      refine r_aload_n C 1 rfl (dk_at dk_Tape_indexAmong_0 19 rfl) ?_
      refine r_iload C 4 rfl (dk_at dk_Tape_indexAmong_0 20 rfl) ?_
      refine r_svI C (hL.2.2 _ _ C.z) a1 hs1 cj_Tape_45 rfl [.int a4] (m_J0_charAt_5068e hL hs1 h) (rmK_ok rfl rfl) rfl rfl (Nat.le_of_ble_eq_true rfl) (dk_at dk_Tape_indexAmong_0 21 rfl) (fun r16 σ17 h => ?_)
      refine r_bipush C 32 (dk_at dk_Tape_indexAmong_0 22 rfl) ?_
      refine r_icmp_ne C 49 rfl (dk_at dk_Tape_indexAmong_0 23 rfl) (fun c18 => ?_) (fun c18 => ?_)
      · replace h := h.1 c18
        refine r_iconst C 0 (dk_at dk_Tape_indexAmong_0 26 rfl) ?_
        refine r_lv [0, 1, 2, 3, 4] rfl ?_
        exact t_Tape_indexAmong_j50 C hL hs1 k16 h
      · replace h := h.2 c18
        refine r_lv [0, 1, 2, 3, 4] rfl ?_
        exact t_Tape_indexAmong_j45 C hL hs1 k16 h
set_option maxRecDepth 20000 in
theorem t_Tape_indexAmong_l16 {X : CT} {w : WO} (C : CF X w (lim0 w) 6 cX7_indexAmong RX7 (some .int) (.code yX7_indexAmong cX7_indexAmong 6 (some .int)) (rmK 4 85)) {T : TXT} {z : EXa} (hL : LyX w T z) {a1 : Nat} (hs1 : a1 < 10) {post : Int32 → DD → Prop} {σ : DD} {a2 : Int32} {a3 : Int32} {a4 : Int32} (h : w_Tape_indexAmong_l16 T a1 post σ a2 a3 a4) : gW X w (lim0 w) 6 (QI X w post) σ 16 [(0, .ref (wAd w 20)), (1, .ref (z.2.1 a1)), (2, .int a2), (3, .int a3), (4, .int a4)] [] :=
  LoopW (G := fun x : DD × Int32 × Int32 × Int32 => gW X w (lim0 w) 6 (QI X w post) x.1 16 [(0, .ref (wAd w 20)), (1, .ref (z.2.1 a1)), (2, .int x.2.1), (3, .int x.2.2.1), (4, .int x.2.2.2)] []) (fun K x hK hF => t_Tape_indexAmong_b16 C hL hs1 (fun σ a2 a3 a4 q => hK (σ, a2, a3, a4) q) hF) h
set_option maxRecDepth 20000 in
theorem m_Tape_indexAmong {l : Launch} {w : WO} {T : TXT} {z : EXa} (hL : LyX w T z) {a1 : Nat} (hs1 : a1 < 10) {σ : DD} {post : Int32 → DD → Prop} (h : w_Tape_indexAmong T a1 σ post) : MI l w yX7_indexAmong cX7_indexAmong 6 .int (rmK 4 85) σ [.ref (wAd w 20), .ref (z.2.1 a1)] post :=
  met_head (rt := (some .int)) (by decide) rfl (fun X hX C => by
  subst hX
  unfold w_Tape_indexAmong at h
  show gW X w (lim0 w) 6 (QI X w post) σ 0 [(0, .ref (wAd w 20)), (1, .ref (z.2.1 a1))] []
  refine r_aload_n C 0 rfl (dk_at dk_Tape_indexAmong_0 0 rfl) ?_
  refine r_getI C fl_Tape_28 20 (hL.1 20 _ rfl) rfl (dk_at dk_Tape_indexAmong_0 1 rfl) ?_
  refine r_if_eq C 9 rfl (dk_at dk_Tape_indexAmong_0 2 rfl) (fun c19 => ?_) (fun c19 => ?_)
  · replace h := h.1 c19
    refine r_iconst C 0 (dk_at dk_Tape_indexAmong_0 5 rfl) ?_
    refine r_istore_n C [(2, .int 0), (0, .ref (wAd w 20)), (1, .ref (z.2.1 a1))] rfl rfl (dk_at dk_Tape_indexAmong_0 6 rfl) ?_
    refine r_iconst C 0 (dk_at dk_Tape_indexAmong_0 7 rfl) ?_
    refine r_istore_n C [(3, .int 0), (2, .int 0), (0, .ref (wAd w 20)), (1, .ref (z.2.1 a1))] rfl rfl (dk_at dk_Tape_indexAmong_0 8 rfl) ?_
    refine r_iconst C 0 (dk_at dk_Tape_indexAmong_0 9 rfl) ?_
    refine r_istore C [(4, .int 0), (3, .int 0), (2, .int 0), (0, .ref (wAd w 20)), (1, .ref (z.2.1 a1))] rfl rfl (dk_at dk_Tape_indexAmong_0 10 rfl) ?_
    refine r_lv [3, 4, 2, 1, 0] rfl ?_
    exact t_Tape_indexAmong_l16 C hL hs1 h
  · replace h := h.2 c19
    refine r_iconst C (-1) (dk_at dk_Tape_indexAmong_0 3 rfl) ?_
    exact r_iret C h (dk_at dk_Tape_indexAmong_0 4 rfl)
  )
set_option maxRecDepth 20000 in
theorem t_Tape_sortOf_j14 {X : CT} {w : WO} (C : CF X w (lim0 w) 1 cX7_sortOf RX7 (some .int) (.code yX7_sortOf cX7_sortOf 1 (some .int)) (rmK 0 0)) {T : TXT} {z : EXa} (hL : LyX w T z) {post : Int32 → DD → Prop} {a0 : Int32} {σ : DD} (h : w_Tape_sortOf_j14 T post σ a0) : gW X w (lim0 w) 1 (QI X w post) σ 14 [(0, .int a0)] [] := by
  unfold w_Tape_sortOf_j14 at h
  refine r_iload_n C 0 rfl (dk_at dk_Tape_sortOf_0 8 rfl) ?_
  refine r_bipush C 48 (dk_at dk_Tape_sortOf_0 9 rfl) ?_
  refine r_icmp_lt C 30 rfl (dk_at dk_Tape_sortOf_0 10 rfl) (fun c1 => ?_) (fun c1 => ?_)
  · replace h := h.1 c1
    refine r_iconst C 2 (dk_at dk_Tape_sortOf_0 16 rfl) ?_
    exact r_iret C h (dk_at dk_Tape_sortOf_0 17 rfl)
  · replace h := h.2 c1
    refine r_iload_n C 0 rfl (dk_at dk_Tape_sortOf_0 11 rfl) ?_
    refine r_bipush C 57 (dk_at dk_Tape_sortOf_0 12 rfl) ?_
    refine r_icmp_gt C 30 rfl (dk_at dk_Tape_sortOf_0 13 rfl) (fun c2 => ?_) (fun c2 => ?_)
    · replace h := h.1 c2
      refine r_iconst C 2 (dk_at dk_Tape_sortOf_0 16 rfl) ?_
      exact r_iret C h (dk_at dk_Tape_sortOf_0 17 rfl)
    · replace h := h.2 c2
      refine r_iconst C 1 (dk_at dk_Tape_sortOf_0 14 rfl) ?_
      refine r_goto C 31 rfl (dk_at dk_Tape_sortOf_0 15 rfl) ?_
      exact r_iret C h (dk_at dk_Tape_sortOf_0 17 rfl)
set_option maxRecDepth 20000 in
theorem m_Tape_sortOf {l : Launch} {w : WO} {T : TXT} {z : EXa} (hL : LyX w T z) {σ : DD} {a0 : Int32} {post : Int32 → DD → Prop} (h : w_Tape_sortOf T σ a0 post) : MI l w yX7_sortOf cX7_sortOf 1 .int (rmK 0 0) σ [.int a0] post :=
  met_head (rt := (some .int)) (by decide) rfl (fun X hX C => by
  subst hX
  unfold w_Tape_sortOf at h
  show gW X w (lim0 w) 1 (QI X w post) σ 0 [(0, .int a0)] []
  refine r_iload_n C 0 rfl (dk_at dk_Tape_sortOf_0 0 rfl) ?_
  refine r_bipush C 97 (dk_at dk_Tape_sortOf_0 1 rfl) ?_
  refine r_icmp_lt C 14 rfl (dk_at dk_Tape_sortOf_0 2 rfl) (fun c3 => ?_) (fun c3 => ?_)
  · replace h := h.1 c3
    refine r_lv [0] rfl ?_
    exact t_Tape_sortOf_j14 C hL h
  · replace h := h.2 c3
    refine r_iload_n C 0 rfl (dk_at dk_Tape_sortOf_0 3 rfl) ?_
    refine r_bipush C 122 (dk_at dk_Tape_sortOf_0 4 rfl) ?_
    refine r_icmp_gt C 14 rfl (dk_at dk_Tape_sortOf_0 5 rfl) (fun c4 => ?_) (fun c4 => ?_)
    · replace h := h.1 c4
      refine r_lv [0] rfl ?_
      exact t_Tape_sortOf_j14 C hL h
    · replace h := h.2 c4
      refine r_iconst C 0 (dk_at dk_Tape_sortOf_0 6 rfl) ?_
      exact r_iret C h (dk_at dk_Tape_sortOf_0 7 rfl)
  )
set_option maxRecDepth 20000 in
theorem t_Tape_advance_b97 {X : CT} {w : WO} (C : CF X w (lim0 w) 1 cX7_advance RX7 none (.code yX7_advance cX7_advance 1 none) (rmK 1 20)) {T : TXT} {z : EXa} (hL : LyX w T z) {K97 : DD → Prop} {post : DD → Prop} (k97 : ∀ (σ : DD), K97 σ → gW X w (lim0 w) 1 (QV X w post) σ 97 [(0, .ref (wAd w 20))] []) {σ : DD} (h : w_Tape_advance_b97 T K97 post σ) : gW X w (lim0 w) 1 (QV X w post) σ 97 [(0, .ref (wAd w 20))] [] := by
  unfold w_Tape_advance_b97 at h
  refine r_aload_n C 0 rfl (dk_at dk_Tape_advance_1 10 rfl) ?_
  refine r_getI C fl_Tape_28 20 (hL.1 20 _ rfl) rfl (dk_at dk_Tape_advance_1 11 rfl) ?_
  refine r_iconst C 2 (dk_at dk_Tape_advance_1 12 rfl) ?_
  refine r_icmp_eq C 148 rfl (dk_at dk_Tape_advance_1 13 rfl) (fun c1 => ?_) (fun c1 => ?_)
  · replace h := h.1 c1
    exact r_vret C h (dk_at dk_Tape_advance_1 35 rfl)
  · replace h := h.2 c1
    refine r_aload_n C 0 rfl (dk_at dk_Tape_advance_1 14 rfl) ?_
    refine r_getI C fl_Tape_19 20 (hL.1 20 _ rfl) rfl (dk_at dk_Tape_advance_1 15 rfl) ?_
    refine r_aload_n C 0 rfl (dk_at dk_Tape_advance_1 16 rfl) ?_
    refine r_getI C fl_Tape_15 20 (hL.1 20 _ rfl) rfl (dk_at dk_Tape_advance_1 17 rfl) ?_
    refine r_icmp_ge C 148 rfl (dk_at dk_Tape_advance_1 18 rfl) (fun c2 => ?_) (fun c2 => ?_)
    · replace h := h.1 c2
      exact r_vret C h (dk_at dk_Tape_advance_1 35 rfl)
    · replace h := h.2 c2
      refine r_aload_n C 0 rfl (dk_at dk_Tape_advance_1 19 rfl) ?_
      refine r_getR C fl_Tape_11 20 (hL.1 20 _ rfl) rfl (dk_at dk_Tape_advance_1 20 rfl) ?_
      refine r_aload_n C 0 rfl (dk_at dk_Tape_advance_1 21 rfl) ?_
      refine r_getI C fl_Tape_19 20 (hL.1 20 _ rfl) rfl (dk_at dk_Tape_advance_1 22 rfl) ?_
      obtain ⟨q3, h⟩ := h
      refine r_iald C 21 (hL.1 21 _ rfl) q3 (dk_at dk_Tape_advance_1 23 rfl) ?_
      refine r_csI C cs_Tape_31 [.int (gI σ 21 (gI σ 20 3).toNatClampNeg)] (m_Tape_sortOf hL h) (rmK_ok rfl rfl) rfl rfl (Nat.le_of_ble_eq_true rfl) (dk_at dk_Tape_advance_1 24 rfl) (fun r4 σ5 h => ?_)
      refine r_aload_n C 0 rfl (dk_at dk_Tape_advance_1 25 rfl) ?_
      refine r_getI C fl_Tape_28 20 (hL.1 20 _ rfl) rfl (dk_at dk_Tape_advance_1 26 rfl) ?_
      refine r_icmp_ne C 148 rfl (dk_at dk_Tape_advance_1 27 rfl) (fun c6 => ?_) (fun c6 => ?_)
      · replace h := h.1 c6
        exact r_vret C h (dk_at dk_Tape_advance_1 35 rfl)
      · replace h := h.2 c6
        refine r_aload_n C 0 rfl (dk_at dk_Tape_advance_1 28 rfl) ?_
        refine r_dup C rfl (dk_at dk_Tape_advance_1 29 rfl) ?_
        refine r_getI C fl_Tape_19 20 (hL.1 20 _ rfl) rfl (dk_at dk_Tape_advance_1 30 rfl) ?_
        refine r_iconst C 1 (dk_at dk_Tape_advance_1 31 rfl) ?_
        refine r_iadd C (dk_at dk_Tape_advance_1 32 rfl) ?_
        refine r_putI C fl_Tape_19 20 (hL.1 20 _ rfl) rfl (dk_at dk_Tape_advance_1 33 rfl) (r_sg (fun σ7 e8 => ?_))
        replace h := h σ7 e8
        refine r_goto C 97 rfl (dk_at dk_Tape_advance_1 34 rfl) ?_
        refine r_lv [0] rfl ?_
        exact k97 _  h
set_option maxRecDepth 20000 in
theorem t_Tape_advance_l97 {X : CT} {w : WO} (C : CF X w (lim0 w) 1 cX7_advance RX7 none (.code yX7_advance cX7_advance 1 none) (rmK 1 20)) {T : TXT} {z : EXa} (hL : LyX w T z) {post : DD → Prop} {σ : DD} (h : w_Tape_advance_l97 T post σ) : gW X w (lim0 w) 1 (QV X w post) σ 97 [(0, .ref (wAd w 20))] [] :=
  LoopW (G := fun x : DD => gW X w (lim0 w) 1 (QV X w post) x 97 [(0, .ref (wAd w 20))] []) (fun K x hK hF => t_Tape_advance_b97 C hL (fun σ q => hK (σ) q) hF) h
set_option maxRecDepth 20000 in
theorem t_Tape_advance_j46 {X : CT} {w : WO} (C : CF X w (lim0 w) 1 cX7_advance RX7 none (.code yX7_advance cX7_advance 1 none) (rmK 1 20)) {T : TXT} {z : EXa} (hL : LyX w T z) {post : DD → Prop} {σ : DD} (h : w_Tape_advance_j46 T post σ) : gW X w (lim0 w) 1 (QV X w post) σ 46 [(0, .ref (wAd w 20))] [] := by
  unfold w_Tape_advance_j46 at h
  refine r_aload_n C 0 rfl (dk_at dk_Tape_advance_0 23 rfl) ?_
  refine r_aload_n C 0 rfl (dk_at dk_Tape_advance_0 24 rfl) ?_
  refine r_getI C fl_Tape_25 20 (hL.1 20 _ rfl) rfl (dk_at dk_Tape_advance_0 25 rfl) ?_
  refine r_putI C fl_Tape_19 20 (hL.1 20 _ rfl) rfl (dk_at dk_Tape_advance_0 26 rfl) (r_sg (fun σ9 e10 => ?_))
  replace h := h σ9 e10
  refine r_aload_n C 0 rfl (dk_at dk_Tape_advance_0 27 rfl) ?_
  refine r_getI C fl_Tape_25 20 (hL.1 20 _ rfl) rfl (dk_at dk_Tape_advance_0 28 rfl) ?_
  refine r_aload_n C 0 rfl (dk_at dk_Tape_advance_0 29 rfl) ?_
  refine r_getI C fl_Tape_15 20 (hL.1 20 _ rfl) rfl (dk_at dk_Tape_advance_0 30 rfl) ?_
  refine r_icmp_lt C 71 rfl (dk_at dk_Tape_advance_0 31 rfl) (fun c11 => ?_) (fun c11 => ?_)
  · replace h := h.1 c11
    refine r_aload_n C 0 rfl (dk_at dk_Tape_advance_0 36 rfl) ?_
    refine r_aload_n C 0 rfl (dk_at dk_Tape_advance_0 37 rfl) ?_
    refine r_getR C fl_Tape_11 20 (hL.1 20 _ rfl) rfl (dk_at dk_Tape_advance_0 38 rfl) ?_
    refine r_aload_n C 0 rfl (dk_at dk_Tape_advance_0 39 rfl) ?_
    refine r_getI C fl_Tape_25 20 (hL.1 20 _ rfl) rfl (dk_at dk_Tape_advance_1 0 rfl) ?_
    obtain ⟨q12, h⟩ := h
    refine r_iald C 21 (hL.1 21 _ rfl) q12 (dk_at dk_Tape_advance_1 1 rfl) ?_
    refine r_csI C cs_Tape_31 [.int (gI σ9 21 (gI σ9 20 2).toNatClampNeg)] (m_Tape_sortOf hL h) (rmK_ok rfl rfl) rfl rfl (Nat.le_of_ble_eq_true rfl) (dk_at dk_Tape_advance_1 2 rfl) (fun r13 σ14 h => ?_)
    refine r_putI C fl_Tape_28 20 (hL.1 20 _ rfl) rfl (dk_at dk_Tape_advance_1 3 rfl) (r_sg (fun σ15 e16 => ?_))
    replace h := h σ15 e16
    refine r_aload_n C 0 rfl (dk_at dk_Tape_advance_1 4 rfl) ?_
    refine r_dup C rfl (dk_at dk_Tape_advance_1 5 rfl) ?_
    refine r_getI C fl_Tape_19 20 (hL.1 20 _ rfl) rfl (dk_at dk_Tape_advance_1 6 rfl) ?_
    refine r_iconst C 1 (dk_at dk_Tape_advance_1 7 rfl) ?_
    refine r_iadd C (dk_at dk_Tape_advance_1 8 rfl) ?_
    refine r_putI C fl_Tape_19 20 (hL.1 20 _ rfl) rfl (dk_at dk_Tape_advance_1 9 rfl) (r_sg (fun σ17 e18 => ?_))
    replace h := h σ17 e18
    refine r_lv [0] rfl ?_
    exact t_Tape_advance_l97 C hL h
  · replace h := h.2 c11
    refine r_aload_n C 0 rfl (dk_at dk_Tape_advance_0 32 rfl) ?_
    refine r_iconst C 3 (dk_at dk_Tape_advance_0 33 rfl) ?_
    refine r_putI C fl_Tape_28 20 (hL.1 20 _ rfl) rfl (dk_at dk_Tape_advance_0 34 rfl) (r_sg (fun σ19 e20 => ?_))
    replace h := h σ19 e20
    exact r_vret C h (dk_at dk_Tape_advance_0 35 rfl)
set_option maxRecDepth 20000 in
theorem t_Tape_advance_b8 {X : CT} {w : WO} (C : CF X w (lim0 w) 1 cX7_advance RX7 none (.code yX7_advance cX7_advance 1 none) (rmK 1 20)) {T : TXT} {z : EXa} (hL : LyX w T z) {K8 : DD → Prop} {post : DD → Prop} (k8 : ∀ (σ : DD), K8 σ → gW X w (lim0 w) 1 (QV X w post) σ 8 [(0, .ref (wAd w 20))] []) {σ : DD} (h : w_Tape_advance_b8 T K8 post σ) : gW X w (lim0 w) 1 (QV X w post) σ 8 [(0, .ref (wAd w 20))] [] := by
  unfold w_Tape_advance_b8 at h
  refine r_aload_n C 0 rfl (dk_at dk_Tape_advance_0 4 rfl) ?_
  refine r_getI C fl_Tape_25 20 (hL.1 20 _ rfl) rfl (dk_at dk_Tape_advance_0 5 rfl) ?_
  refine r_aload_n C 0 rfl (dk_at dk_Tape_advance_0 6 rfl) ?_
  refine r_getI C fl_Tape_15 20 (hL.1 20 _ rfl) rfl (dk_at dk_Tape_advance_0 7 rfl) ?_
  refine r_icmp_ge C 46 rfl (dk_at dk_Tape_advance_0 8 rfl) (fun c21 => ?_) (fun c21 => ?_)
  · replace h := h.1 c21
    refine r_lv [0] rfl ?_
    exact t_Tape_advance_j46 C hL h
  · replace h := h.2 c21
    refine r_aload_n C 0 rfl (dk_at dk_Tape_advance_0 9 rfl) ?_
    refine r_getR C fl_Tape_11 20 (hL.1 20 _ rfl) rfl (dk_at dk_Tape_advance_0 10 rfl) ?_
    refine r_aload_n C 0 rfl (dk_at dk_Tape_advance_0 11 rfl) ?_
    refine r_getI C fl_Tape_25 20 (hL.1 20 _ rfl) rfl (dk_at dk_Tape_advance_0 12 rfl) ?_
    obtain ⟨q22, h⟩ := h
    refine r_iald C 21 (hL.1 21 _ rfl) q22 (dk_at dk_Tape_advance_0 13 rfl) ?_
    refine r_bipush C 32 (dk_at dk_Tape_advance_0 14 rfl) ?_
    refine r_icmp_ne C 46 rfl (dk_at dk_Tape_advance_0 15 rfl) (fun c23 => ?_) (fun c23 => ?_)
    · replace h := h.1 c23
      refine r_lv [0] rfl ?_
      exact t_Tape_advance_j46 C hL h
    · replace h := h.2 c23
      refine r_aload_n C 0 rfl (dk_at dk_Tape_advance_0 16 rfl) ?_
      refine r_dup C rfl (dk_at dk_Tape_advance_0 17 rfl) ?_
      refine r_getI C fl_Tape_25 20 (hL.1 20 _ rfl) rfl (dk_at dk_Tape_advance_0 18 rfl) ?_
      refine r_iconst C 1 (dk_at dk_Tape_advance_0 19 rfl) ?_
      refine r_iadd C (dk_at dk_Tape_advance_0 20 rfl) ?_
      refine r_putI C fl_Tape_25 20 (hL.1 20 _ rfl) rfl (dk_at dk_Tape_advance_0 21 rfl) (r_sg (fun σ24 e25 => ?_))
      replace h := h σ24 e25
      refine r_goto C 8 rfl (dk_at dk_Tape_advance_0 22 rfl) ?_
      refine r_lv [0] rfl ?_
      exact k8 _  h
set_option maxRecDepth 20000 in
theorem t_Tape_advance_l8 {X : CT} {w : WO} (C : CF X w (lim0 w) 1 cX7_advance RX7 none (.code yX7_advance cX7_advance 1 none) (rmK 1 20)) {T : TXT} {z : EXa} (hL : LyX w T z) {post : DD → Prop} {σ : DD} (h : w_Tape_advance_l8 T post σ) : gW X w (lim0 w) 1 (QV X w post) σ 8 [(0, .ref (wAd w 20))] [] :=
  LoopW (G := fun x : DD => gW X w (lim0 w) 1 (QV X w post) x 8 [(0, .ref (wAd w 20))] []) (fun K x hK hF => t_Tape_advance_b8 C hL (fun σ q => hK (σ) q) hF) h
set_option maxRecDepth 20000 in
theorem m_Tape_advance {l : Launch} {w : WO} {T : TXT} {z : EXa} (hL : LyX w T z) {σ : DD} {post : DD → Prop} (h : w_Tape_advance T σ post) : MV l w yX7_advance cX7_advance 1 (rmK 1 20) σ [.ref (wAd w 20)] post :=
  met_head (rt := none) (by decide) rfl (fun X hX C => by
  subst hX
  unfold w_Tape_advance at h
  show gW X w (lim0 w) 1 (QV X w post) σ 0 [(0, .ref (wAd w 20))] []
  refine r_aload_n C 0 rfl (dk_at dk_Tape_advance_0 0 rfl) ?_
  refine r_aload_n C 0 rfl (dk_at dk_Tape_advance_0 1 rfl) ?_
  refine r_getI C fl_Tape_19 20 (hL.1 20 _ rfl) rfl (dk_at dk_Tape_advance_0 2 rfl) ?_
  refine r_putI C fl_Tape_25 20 (hL.1 20 _ rfl) rfl (dk_at dk_Tape_advance_0 3 rfl) (r_sg (fun σ26 e27 => ?_))
  replace h := h σ26 e27
  refine r_lv [0] rfl ?_
  exact t_Tape_advance_l8 C hL h
  )
set_option maxRecDepth 20000 in
theorem m_Tape_isSign {l : Launch} {w : WO} {T : TXT} {z : EXa} (hL : LyX w T z) {σ : DD} {a1 : Int32} {post : Int32 → DD → Prop} (h : w_Tape_isSign T σ a1 post) : MI l w yX7_isSign cX7_isSign 2 .boolean (rmK 0 0) σ [.ref (wAd w 20), .int a1] post :=
  met_head (rt := (some .boolean)) (by decide) rfl (fun X hX C => by
  subst hX
  unfold w_Tape_isSign at h
  show gW X w (lim0 w) 2 (QI X w post) σ 0 [(0, .ref (wAd w 20)), (1, .int a1)] []
  refine r_aload_n C 0 rfl (dk_at dk_Tape_isSign_0 0 rfl) ?_
  refine r_getI C fl_Tape_28 20 (hL.1 20 _ rfl) rfl (dk_at dk_Tape_isSign_0 1 rfl) ?_
  refine r_iconst C 2 (dk_at dk_Tape_isSign_0 2 rfl) ?_
  refine r_icmp_ne C 25 rfl (dk_at dk_Tape_isSign_0 3 rfl) (fun c1 => ?_) (fun c1 => ?_)
  · replace h := h.1 c1
    refine r_iconst C 0 (dk_at dk_Tape_isSign_0 13 rfl) ?_
    exact r_zret C (Or.inl rfl) h (dk_at dk_Tape_isSign_0 14 rfl)
  · replace h := h.2 c1
    refine r_aload_n C 0 rfl (dk_at dk_Tape_isSign_0 4 rfl) ?_
    refine r_getR C fl_Tape_11 20 (hL.1 20 _ rfl) rfl (dk_at dk_Tape_isSign_0 5 rfl) ?_
    refine r_aload_n C 0 rfl (dk_at dk_Tape_isSign_0 6 rfl) ?_
    refine r_getI C fl_Tape_25 20 (hL.1 20 _ rfl) rfl (dk_at dk_Tape_isSign_0 7 rfl) ?_
    obtain ⟨q2, h⟩ := h
    refine r_iald C 21 (hL.1 21 _ rfl) q2 (dk_at dk_Tape_isSign_0 8 rfl) ?_
    refine r_iload_n C 1 rfl (dk_at dk_Tape_isSign_0 9 rfl) ?_
    refine r_icmp_ne C 25 rfl (dk_at dk_Tape_isSign_0 10 rfl) (fun c3 => ?_) (fun c3 => ?_)
    · replace h := h.1 c3
      refine r_iconst C 0 (dk_at dk_Tape_isSign_0 13 rfl) ?_
      exact r_zret C (Or.inl rfl) h (dk_at dk_Tape_isSign_0 14 rfl)
    · replace h := h.2 c3
      refine r_iconst C 1 (dk_at dk_Tape_isSign_0 11 rfl) ?_
      refine r_goto C 26 rfl (dk_at dk_Tape_isSign_0 12 rfl) ?_
      exact r_zret C (Or.inr rfl) h (dk_at dk_Tape_isSign_0 14 rfl)
  )
set_option maxRecDepth 20000 in
theorem m_Tape_isWord {l : Launch} {w : WO} {T : TXT} {z : EXa} (hL : LyX w T z) {a1 : Nat} (hs1 : a1 < 10) {σ : DD} {post : Int32 → DD → Prop} (h : w_Tape_isWord T a1 σ post) : MI l w yX7_isWord cX7_isWord 2 .boolean (rmK 5 110) σ [.ref (wAd w 20), .ref (z.2.1 a1)] post :=
  met_head (rt := (some .boolean)) (by decide) rfl (fun X hX C => by
  subst hX
  unfold w_Tape_isWord at h
  show gW X w (lim0 w) 2 (QI X w post) σ 0 [(0, .ref (wAd w 20)), (1, .ref (z.2.1 a1))] []
  refine r_aload_n C 0 rfl (dk_at dk_Tape_isWord_0 0 rfl) ?_
  refine r_aload_n C 1 rfl (dk_at dk_Tape_isWord_0 1 rfl) ?_
  refine r_cvI C cl_Tape_35 20 (hL.1 20 _ rfl) [.ref (z.2.1 a1)] (m_Tape_indexAmong hL hs1 h) (rmK_ok rfl rfl) rfl rfl (Nat.le_of_ble_eq_true rfl) (dk_at dk_Tape_isWord_0 2 rfl) (fun r1 σ2 h => ?_)
  refine r_if_ne C 12 rfl (dk_at dk_Tape_isWord_0 3 rfl) (fun c3 => ?_) (fun c3 => ?_)
  · replace h := h.1 c3
    refine r_iconst C 0 (dk_at dk_Tape_isWord_0 6 rfl) ?_
    exact r_zret C (Or.inl rfl) h (dk_at dk_Tape_isWord_0 7 rfl)
  · replace h := h.2 c3
    refine r_iconst C 1 (dk_at dk_Tape_isWord_0 4 rfl) ?_
    refine r_goto C 13 rfl (dk_at dk_Tape_isWord_0 5 rfl) ?_
    exact r_zret C (Or.inr rfl) h (dk_at dk_Tape_isWord_0 7 rfl)
  )
set_option maxRecDepth 20000 in
theorem m_Pars_step {l : Launch} {w : WO} {T : TXT} {z : EXa} (hL : LyX w T z) {σ : DD} {a1 : Int32} {a2 : Int32} {post : Int32 → DD → Prop} (h : w_Pars_step T σ a1 a2 post) : MI l w yX4_step cX4_step 3 .int (rmK 0 0) σ [.ref (wAd w 30), .int a1, .int a2] post :=
  met_head (rt := (some .int)) (by decide) rfl (fun X hX C => by
  subst hX
  unfold w_Pars_step at h
  show gW X w (lim0 w) 3 (QI X w post) σ 0 [(0, .ref (wAd w 30)), (1, .int a1), (2, .int a2)] []
  refine r_aload_n C 0 rfl (dk_at dk_Pars_step_0 0 rfl) ?_
  refine r_getI C fl_Pars_34 30 (hL.1 30 _ rfl) rfl (dk_at dk_Pars_step_0 1 rfl) ?_
  refine r_aload_n C 0 rfl (dk_at dk_Pars_step_0 2 rfl) ?_
  refine r_getR C fl_Pars_11 30 (hL.1 30 _ rfl) rfl (dk_at dk_Pars_step_0 3 rfl) ?_
  refine r_alenI C 32 (hL.1 32 _ rfl) (by decide) 400 (by decide) (dk_at dk_Pars_step_0 4 rfl) ?_
  refine r_icmp_ge C 36 rfl (dk_at dk_Pars_step_0 5 rfl) (fun c1 => ?_) (fun c1 => ?_)
  · replace h := h.1 c1
    refine r_aload_n C 0 rfl (dk_at dk_Pars_step_0 22 rfl) ?_
    refine r_getI C fl_Pars_34 30 (hL.1 30 _ rfl) rfl (dk_at dk_Pars_step_0 23 rfl) ?_
    refine r_iconst C 1 (dk_at dk_Pars_step_0 24 rfl) ?_
    refine r_isub C (dk_at dk_Pars_step_0 25 rfl) ?_
    exact r_iret C h (dk_at dk_Pars_step_0 26 rfl)
  · replace h := h.2 c1
    refine r_aload_n C 0 rfl (dk_at dk_Pars_step_0 6 rfl) ?_
    refine r_getR C fl_Pars_11 30 (hL.1 30 _ rfl) rfl (dk_at dk_Pars_step_0 7 rfl) ?_
    refine r_aload_n C 0 rfl (dk_at dk_Pars_step_0 8 rfl) ?_
    refine r_getI C fl_Pars_34 30 (hL.1 30 _ rfl) rfl (dk_at dk_Pars_step_0 9 rfl) ?_
    refine r_iload_n C 2 rfl (dk_at dk_Pars_step_0 10 rfl) ?_
    refine r_iconst C 4 (dk_at dk_Pars_step_0 11 rfl) ?_
    refine r_ishl C (dk_at dk_Pars_step_0 12 rfl) ?_
    refine r_iload_n C 1 rfl (dk_at dk_Pars_step_0 13 rfl) ?_
    refine r_ior C (dk_at dk_Pars_step_0 14 rfl) ?_
    obtain ⟨q4, h⟩ := h
    refine r_iast C 32 (hL.1 32 _ rfl) q4 (dk_at dk_Pars_step_0 15 rfl) (r_sg (fun σ2 e3 => ?_))
    replace h := h σ2 e3
    refine r_aload_n C 0 rfl (dk_at dk_Pars_step_0 16 rfl) ?_
    refine r_dup C rfl (dk_at dk_Pars_step_0 17 rfl) ?_
    refine r_getI C fl_Pars_34 30 (hL.1 30 _ rfl) rfl (dk_at dk_Pars_step_0 18 rfl) ?_
    refine r_iconst C 1 (dk_at dk_Pars_step_0 19 rfl) ?_
    refine r_iadd C (dk_at dk_Pars_step_0 20 rfl) ?_
    refine r_putI C fl_Pars_34 30 (hL.1 30 _ rfl) rfl (dk_at dk_Pars_step_0 21 rfl) (r_sg (fun σ5 e6 => ?_))
    replace h := h σ5 e6
    refine r_aload_n C 0 rfl (dk_at dk_Pars_step_0 22 rfl) ?_
    refine r_getI C fl_Pars_34 30 (hL.1 30 _ rfl) rfl (dk_at dk_Pars_step_0 23 rfl) ?_
    refine r_iconst C 1 (dk_at dk_Pars_step_0 24 rfl) ?_
    refine r_isub C (dk_at dk_Pars_step_0 25 rfl) ?_
    exact r_iret C h (dk_at dk_Pars_step_0 26 rfl)
  )
set_option maxRecDepth 20000 in
theorem m_Pars_land {l : Launch} {w : WO} {T : TXT} {z : EXa} (hL : LyX w T z) {σ : DD} {a1 : Int32} {post : DD → Prop} (h : w_Pars_land T σ a1 post) : MV l w yX4_land cX4_land 2 (rmK 0 0) σ [.ref (wAd w 30), .int a1] post :=
  met_head (rt := none) (by decide) rfl (fun X hX C => by
  subst hX
  unfold w_Pars_land at h
  show gW X w (lim0 w) 2 (QV X w post) σ 0 [(0, .ref (wAd w 30)), (1, .int a1)] []
  refine r_iload_n C 1 rfl (dk_at dk_Pars_land_0 0 rfl) ?_
  refine r_if_lt C 34 rfl (dk_at dk_Pars_land_0 1 rfl) (fun c1 => ?_) (fun c1 => ?_)
  · replace h := h.1 c1
    exact r_vret C h (dk_at dk_Pars_land_0 21 rfl)
  · replace h := h.2 c1
    refine r_iload_n C 1 rfl (dk_at dk_Pars_land_0 2 rfl) ?_
    refine r_aload_n C 0 rfl (dk_at dk_Pars_land_0 3 rfl) ?_
    refine r_getI C fl_Pars_34 30 (hL.1 30 _ rfl) rfl (dk_at dk_Pars_land_0 4 rfl) ?_
    refine r_icmp_ge C 34 rfl (dk_at dk_Pars_land_0 5 rfl) (fun c2 => ?_) (fun c2 => ?_)
    · replace h := h.1 c2
      exact r_vret C h (dk_at dk_Pars_land_0 21 rfl)
    · replace h := h.2 c2
      refine r_aload_n C 0 rfl (dk_at dk_Pars_land_0 6 rfl) ?_
      refine r_getR C fl_Pars_11 30 (hL.1 30 _ rfl) rfl (dk_at dk_Pars_land_0 7 rfl) ?_
      refine r_iload_n C 1 rfl (dk_at dk_Pars_land_0 8 rfl) ?_
      refine r_aload_n C 0 rfl (dk_at dk_Pars_land_0 9 rfl) ?_
      refine r_getI C fl_Pars_34 30 (hL.1 30 _ rfl) rfl (dk_at dk_Pars_land_0 10 rfl) ?_
      refine r_iconst C 4 (dk_at dk_Pars_land_0 11 rfl) ?_
      refine r_ishl C (dk_at dk_Pars_land_0 12 rfl) ?_
      refine r_aload_n C 0 rfl (dk_at dk_Pars_land_0 13 rfl) ?_
      refine r_getR C fl_Pars_11 30 (hL.1 30 _ rfl) rfl (dk_at dk_Pars_land_0 14 rfl) ?_
      refine r_iload_n C 1 rfl (dk_at dk_Pars_land_0 15 rfl) ?_
      obtain ⟨q3, h⟩ := h
      refine r_iald C 32 (hL.1 32 _ rfl) q3 (dk_at dk_Pars_land_0 16 rfl) ?_
      refine r_bipush C 15 (dk_at dk_Pars_land_0 17 rfl) ?_
      refine r_iand C (dk_at dk_Pars_land_0 18 rfl) ?_
      refine r_ior C (dk_at dk_Pars_land_0 19 rfl) ?_
      obtain ⟨q6, h⟩ := h
      refine r_iast C 32 (hL.1 32 _ rfl) q6 (dk_at dk_Pars_land_0 20 rfl) (r_sg (fun σ4 e5 => ?_))
      replace h := h σ4 e5
      exact r_vret C h (dk_at dk_Pars_land_0 21 rfl)
  )
set_option maxRecDepth 20000 in
theorem t_Tape_number_b17 {X : CT} {w : WO} (C : CF X w (lim0 w) 3 cX7_number RX7 (some .int) (.code yX7_number cX7_number 3 (some .int)) (rmK 1 23)) {T : TXT} {z : EXa} (hL : LyX w T z) {K17 : DD → Int32 → Int32 → Prop} {post : Int32 → DD → Prop} (k17 : ∀ (σ : DD) (a1 : Int32) (a2 : Int32), K17 σ a1 a2 → gW X w (lim0 w) 3 (QI X w post) σ 17 [(0, .ref (wAd w 20)), (1, .int a1), (2, .int a2)] []) {σ : DD} {a1 : Int32} {a2 : Int32} (h : w_Tape_number_b17 T K17 post σ a1 a2) : gW X w (lim0 w) 3 (QI X w post) σ 17 [(0, .ref (wAd w 20)), (1, .int a1), (2, .int a2)] [] := by
  unfold w_Tape_number_b17 at h
  refine r_iload_n C 2 rfl (dk_at dk_Tape_number_0 11 rfl) ?_
  refine r_aload_n C 0 rfl (dk_at dk_Tape_number_0 12 rfl) ?_
  refine r_getI C fl_Tape_19 20 (hL.1 20 _ rfl) rfl (dk_at dk_Tape_number_0 13 rfl) ?_
  refine r_icmp_ge C 52 rfl (dk_at dk_Tape_number_0 14 rfl) (fun c1 => ?_) (fun c1 => ?_)
  · replace h := h.1 c1
    refine r_iload_n C 1 rfl (dk_at dk_Tape_number_0 30 rfl) ?_
    exact r_iret C h (dk_at dk_Tape_number_0 31 rfl)
  · replace h := h.2 c1
    refine r_sipush C 9999 (dk_at dk_Tape_number_0 15 rfl) ?_
    refine r_iload_n C 1 rfl (dk_at dk_Tape_number_0 16 rfl) ?_
    refine r_bipush C 10 (dk_at dk_Tape_number_0 17 rfl) ?_
    refine r_imul C (dk_at dk_Tape_number_0 18 rfl) ?_
    refine r_aload_n C 0 rfl (dk_at dk_Tape_number_0 19 rfl) ?_
    refine r_getR C fl_Tape_11 20 (hL.1 20 _ rfl) rfl (dk_at dk_Tape_number_0 20 rfl) ?_
    refine r_iload_n C 2 rfl (dk_at dk_Tape_number_0 21 rfl) ?_
    obtain ⟨q2, h⟩ := h
    refine r_iald C 21 (hL.1 21 _ rfl) q2 (dk_at dk_Tape_number_0 22 rfl) ?_
    refine r_iadd C (dk_at dk_Tape_number_0 23 rfl) ?_
    refine r_bipush C 48 (dk_at dk_Tape_number_0 24 rfl) ?_
    refine r_isub C (dk_at dk_Tape_number_0 25 rfl) ?_
    refine r_mmin C tw_747 tw_748 tw_14 tw_749 (Nat.le_of_ble_eq_true rfl) (Nat.le_of_ble_eq_true rfl) (dk_at dk_Tape_number_0 26 rfl) ?_
    refine r_topi (fun v3 e4 => ?_)
    replace h := h v3 e4
    refine r_istore_n C [(1, .int v3), (0, .ref (wAd w 20)), (2, .int a2)] rfl rfl (dk_at dk_Tape_number_0 27 rfl) ?_
    refine r_iinc C 2 rfl rfl [(2, .int (a2 + 1)), (1, .int v3), (0, .ref (wAd w 20))] rfl rfl (dk_at dk_Tape_number_0 28 rfl) ?_
    refine r_goto C 17 rfl (dk_at dk_Tape_number_0 29 rfl) ?_
    refine r_lv [2, 1, 0] rfl ?_
    exact k17 _ _ _ h
set_option maxRecDepth 20000 in
theorem t_Tape_number_l17 {X : CT} {w : WO} (C : CF X w (lim0 w) 3 cX7_number RX7 (some .int) (.code yX7_number cX7_number 3 (some .int)) (rmK 1 23)) {T : TXT} {z : EXa} (hL : LyX w T z) {post : Int32 → DD → Prop} {σ : DD} {a1 : Int32} {a2 : Int32} (h : w_Tape_number_l17 T post σ a1 a2) : gW X w (lim0 w) 3 (QI X w post) σ 17 [(0, .ref (wAd w 20)), (1, .int a1), (2, .int a2)] [] :=
  LoopW (G := fun x : DD × Int32 × Int32 => gW X w (lim0 w) 3 (QI X w post) x.1 17 [(0, .ref (wAd w 20)), (1, .int x.2.1), (2, .int x.2.2)] []) (fun K x hK hF => t_Tape_number_b17 C hL (fun σ a1 a2 q => hK (σ, a1, a2) q) hF) h
set_option maxRecDepth 20000 in
theorem m_Tape_number {l : Launch} {w : WO} {T : TXT} {z : EXa} (hL : LyX w T z) {σ : DD} {post : Int32 → DD → Prop} (h : w_Tape_number T σ post) : MI l w yX7_number cX7_number 3 .int (rmK 1 23) σ [.ref (wAd w 20)] post :=
  met_head (rt := (some .int)) (by decide) rfl (fun X hX C => by
  subst hX
  unfold w_Tape_number at h
  show gW X w (lim0 w) 3 (QI X w post) σ 0 [(0, .ref (wAd w 20))] []
  refine r_aload_n C 0 rfl (dk_at dk_Tape_number_0 0 rfl) ?_
  refine r_getI C fl_Tape_28 20 (hL.1 20 _ rfl) rfl (dk_at dk_Tape_number_0 1 rfl) ?_
  refine r_iconst C 1 (dk_at dk_Tape_number_0 2 rfl) ?_
  refine r_icmp_eq C 10 rfl (dk_at dk_Tape_number_0 3 rfl) (fun c5 => ?_) (fun c5 => ?_)
  · replace h := h.1 c5
    refine r_iconst C 0 (dk_at dk_Tape_number_0 6 rfl) ?_
    refine r_istore_n C [(1, .int 0), (0, .ref (wAd w 20))] rfl rfl (dk_at dk_Tape_number_0 7 rfl) ?_
    refine r_aload_n C 1 rfl (dk_at dk_Tape_number_0 8 rfl) ?_
    refine r_getI C fl_Tape_25 20 (hL.1 20 _ rfl) rfl (dk_at dk_Tape_number_0 9 rfl) ?_
    refine r_topi (fun v6 e7 => ?_)
    replace h := h v6 e7
    refine r_istore_n C [(2, .int v6), (1, .int 0), (0, .ref (wAd w 20))] rfl rfl (dk_at dk_Tape_number_0 10 rfl) ?_
    refine r_lv [2, 1, 0] rfl ?_
    exact t_Tape_number_l17 C hL h
  · replace h := h.2 c5
    refine r_iconst C (-1) (dk_at dk_Tape_number_0 4 rfl) ?_
    exact r_iret C h (dk_at dk_Tape_number_0 5 rfl)
  )
set_option maxRecDepth 20000 in
theorem m_Pars_wordStep {l : Launch} {w : WO} {T : TXT} {z : EXa} (hL : LyX w T z) {σ : DD} {a1 : Int32} {post : Int32 → DD → Prop} (h : w_Pars_wordStep T σ a1 post) : MI l w yX4_wordStep cX4_wordStep 2 .boolean (rmK 1 22) σ [.ref (wAd w 30), .int a1] post :=
  met_head (rt := (some .boolean)) (by decide) rfl (fun X hX C => by
  subst hX
  unfold w_Pars_wordStep at h
  show gW X w (lim0 w) 2 (QI X w post) σ 0 [(0, .ref (wAd w 30)), (1, .int a1)] []
  refine r_aload_n C 0 rfl (dk_at dk_Pars_wordStep_0 0 rfl) ?_
  refine r_dup C rfl (dk_at dk_Pars_wordStep_0 1 rfl) ?_
  refine r_getI C fl_Pars_43 30 (hL.1 30 _ rfl) rfl (dk_at dk_Pars_wordStep_0 2 rfl) ?_
  refine r_iconst C 1 (dk_at dk_Pars_wordStep_0 3 rfl) ?_
  refine r_iload_n C 1 rfl (dk_at dk_Pars_wordStep_0 4 rfl) ?_
  refine r_ishl C (dk_at dk_Pars_wordStep_0 5 rfl) ?_
  refine r_ior C (dk_at dk_Pars_wordStep_0 6 rfl) ?_
  refine r_putI C fl_Pars_43 30 (hL.1 30 _ rfl) rfl (dk_at dk_Pars_wordStep_0 7 rfl) (r_sg (fun σ1 e2 => ?_))
  replace h := h σ1 e2
  refine r_aload_n C 0 rfl (dk_at dk_Pars_wordStep_0 8 rfl) ?_
  refine r_iconst C 1 (dk_at dk_Pars_wordStep_0 9 rfl) ?_
  refine r_iload_n C 1 rfl (dk_at dk_Pars_wordStep_0 10 rfl) ?_
  refine r_cvI C cl_Pars_124 30 (hL.1 30 _ rfl) [.int 1, .int a1] (m_Pars_step hL h) (rmK_ok rfl rfl) rfl rfl (Nat.le_of_ble_eq_true rfl) (dk_at dk_Pars_wordStep_0 11 rfl) (fun r3 σ4 h => ?_)
  refine r_pop C rfl (dk_at dk_Pars_wordStep_0 12 rfl) ?_
  refine r_iconst C 1 (dk_at dk_Pars_wordStep_0 13 rfl) ?_
  exact r_zret C (Or.inr rfl) h (dk_at dk_Pars_wordStep_0 14 rfl)
  )
set_option maxRecDepth 20000 in
theorem t_Pars_numberedWord_j29 {X : CT} {w : WO} (C : CF X w (lim0 w) 4 cX4_numberedWord RX4 (some .boolean) (.code yX4_numberedWord cX4_numberedWord 4 (some .boolean)) (rmK 2 45)) {T : TXT} {z : EXa} (hL : LyX w T z) {post : Int32 → DD → Prop} {σ : DD} (h : w_Pars_numberedWord_j29 T post σ) : gW X w (lim0 w) 4 (QI X w post) σ 29 [(0, .ref (wAd w 30))] [] := by
  unfold w_Pars_numberedWord_j29 at h
  refine r_aload_n C 0 rfl (dk_at dk_Pars_numberedWord_0 16 rfl) ?_
  refine r_cvI C cl_Pars_63 30 (hL.1 30 _ rfl) [] (m_Pars_halt hL h) (rmK_ok rfl rfl) rfl rfl (Nat.le_of_ble_eq_true rfl) (dk_at dk_Pars_numberedWord_0 17 rfl) (fun r1 σ2 h => ?_)
  exact r_zret C h.1 h.2 (dk_at dk_Pars_numberedWord_0 18 rfl)
set_option maxRecDepth 20000 in
theorem t_Pars_numberedWord_j19 {X : CT} {w : WO} (C : CF X w (lim0 w) 4 cX4_numberedWord RX4 (some .boolean) (.code yX4_numberedWord cX4_numberedWord 4 (some .boolean)) (rmK 2 45)) {T : TXT} {z : EXa} (hL : LyX w T z) {post : Int32 → DD → Prop} {a1 : Int32} {a2 : Int32} {t0 : Int32} {σ : DD} (h : w_Pars_numberedWord_j19 T post σ a1 a2 t0) : gW X w (lim0 w) 4 (QI X w post) σ 19 [(0, .ref (wAd w 30)), (1, .int a1), (2, .int a2)] [.int t0] := by
  unfold w_Pars_numberedWord_j19 at h
  refine r_istore_n C [(3, .int t0), (0, .ref (wAd w 30)), (1, .int a1), (2, .int a2)] rfl rfl (dk_at dk_Pars_numberedWord_0 10 rfl) ?_
  refine r_iload_n C 3 rfl (dk_at dk_Pars_numberedWord_0 11 rfl) ?_
  refine r_if_lt C 29 rfl (dk_at dk_Pars_numberedWord_0 12 rfl) (fun c3 => ?_) (fun c3 => ?_)
  · replace h := h.1 c3
    refine r_lv [1] rfl ?_
    exact t_Pars_numberedWord_j29 C hL h
  · replace h := h.2 c3
    refine r_iload_n C 3 rfl (dk_at dk_Pars_numberedWord_0 13 rfl) ?_
    refine r_iload_n C 0 rfl (dk_at dk_Pars_numberedWord_0 14 rfl) ?_
    refine r_icmp_lt C 34 rfl (dk_at dk_Pars_numberedWord_0 15 rfl) (fun c4 => ?_) (fun c4 => ?_)
    · replace h := h.1 c4
      refine r_aload_n C 1 rfl (dk_at dk_Pars_numberedWord_0 19 rfl) ?_
      refine r_getR C fl_Pars_26 30 (hL.1 30 _ rfl) rfl (dk_at dk_Pars_numberedWord_0 20 rfl) ?_
      refine r_cvV C cl_Pars_57 20 (hL.1 20 _ rfl) [] (m_Tape_advance hL h) (rmK_ok rfl rfl) rfl rfl (Nat.le_of_ble_eq_true rfl) (dk_at dk_Pars_numberedWord_0 21 rfl) (fun σ6 h => ?_)
      refine r_aload_n C 1 rfl (dk_at dk_Pars_numberedWord_0 22 rfl) ?_
      refine r_iload_n C 2 rfl (dk_at dk_Pars_numberedWord_0 23 rfl) ?_
      refine r_iconst C 5 (dk_at dk_Pars_numberedWord_0 24 rfl) ?_
      refine r_icmp_ne C 54 rfl (dk_at dk_Pars_numberedWord_0 25 rfl) (fun c7 => ?_) (fun c7 => ?_)
      · replace h := h.1 c7
        refine r_iconst C 4 (dk_at dk_Pars_numberedWord_0 30 rfl) ?_
        refine r_iload_n C 3 rfl (dk_at dk_Pars_numberedWord_0 31 rfl) ?_
        refine r_iadd C (dk_at dk_Pars_numberedWord_0 32 rfl) ?_
        refine r_cvI C cl_Pars_159 30 (hL.1 30 _ rfl) [.int (4 + a2)] (m_Pars_wordStep hL h) (rmK_ok rfl rfl) rfl rfl (Nat.le_of_ble_eq_true rfl) (dk_at dk_Pars_numberedWord_0 33 rfl) (fun r8 σ9 h => ?_)
        exact r_zret C h.1 h.2 (dk_at dk_Pars_numberedWord_0 34 rfl)
      · replace h := h.2 c7
        refine r_bipush C 12 (dk_at dk_Pars_numberedWord_0 26 rfl) ?_
        refine r_iload_n C 3 rfl (dk_at dk_Pars_numberedWord_0 27 rfl) ?_
        refine r_iadd C (dk_at dk_Pars_numberedWord_0 28 rfl) ?_
        refine r_goto C 57 rfl (dk_at dk_Pars_numberedWord_0 29 rfl) ?_
        refine r_cvI C cl_Pars_159 30 (hL.1 30 _ rfl) [.int (12 + a2)] (m_Pars_wordStep hL h) (rmK_ok rfl rfl) rfl rfl (Nat.le_of_ble_eq_true rfl) (dk_at dk_Pars_numberedWord_0 33 rfl) (fun r10 σ11 h => ?_)
        exact r_zret C h.1 h.2 (dk_at dk_Pars_numberedWord_0 34 rfl)
    · replace h := h.2 c4
      refine r_lv [1] rfl ?_
      exact t_Pars_numberedWord_j29 C hL h
set_option maxRecDepth 20000 in
theorem m_Pars_numberedWord {l : Launch} {w : WO} {T : TXT} {z : EXa} (hL : LyX w T z) {σ : DD} {a1 : Int32} {post : Int32 → DD → Prop} (h : w_Pars_numberedWord T σ a1 post) : MI l w yX4_numberedWord cX4_numberedWord 4 .boolean (rmK 2 45) σ [.ref (wAd w 30), .int a1] post :=
  met_head (rt := (some .boolean)) (by decide) rfl (fun X hX C => by
  subst hX
  unfold w_Pars_numberedWord at h
  show gW X w (lim0 w) 4 (QI X w post) σ 0 [(0, .ref (wAd w 30)), (1, .int a1)] []
  refine r_aload_n C 0 rfl (dk_at dk_Pars_numberedWord_0 0 rfl) ?_
  refine r_getR C fl_Pars_26 30 (hL.1 30 _ rfl) rfl (dk_at dk_Pars_numberedWord_0 1 rfl) ?_
  refine r_cvI C cl_Pars_115 20 (hL.1 20 _ rfl) [] (m_Tape_number hL h) (rmK_ok rfl rfl) rfl rfl (Nat.le_of_ble_eq_true rfl) (dk_at dk_Pars_numberedWord_0 2 rfl) (fun r12 σ13 h => ?_)
  refine r_istore_n C [(2, .int r12), (0, .ref (wAd w 30)), (1, .int a1)] rfl rfl (dk_at dk_Pars_numberedWord_0 3 rfl) ?_
  refine r_iload_n C 2 rfl (dk_at dk_Pars_numberedWord_0 4 rfl) ?_
  refine r_iconst C 5 (dk_at dk_Pars_numberedWord_0 5 rfl) ?_
  refine r_icmp_ne C 17 rfl (dk_at dk_Pars_numberedWord_0 6 rfl) (fun c14 => ?_) (fun c14 => ?_)
  · replace h := h.1 c14
    refine r_bipush C 8 (dk_at dk_Pars_numberedWord_0 9 rfl) ?_
    refine r_lv [1, 2, 0] rfl ?_
    exact t_Pars_numberedWord_j19 C hL h
  · replace h := h.2 c14
    refine r_iconst C 4 (dk_at dk_Pars_numberedWord_0 7 rfl) ?_
    refine r_goto C 19 rfl (dk_at dk_Pars_numberedWord_0 8 rfl) ?_
    refine r_lv [1, 2, 0] rfl ?_
    exact t_Pars_numberedWord_j19 C hL h
  )
set_option maxRecDepth 20000 in
theorem m_Pars_productSign {l : Launch} {w : WO} {T : TXT} {z : EXa} (hL : LyX w T z) {σ : DD} {post : Int32 → DD → Prop} (h : w_Pars_productSign T σ post) : MI l w yX4_productSign cX4_productSign 1 .int (rmK 1 21) σ [.ref (wAd w 30)] post :=
  met_head (rt := (some .int)) (by decide) rfl (fun X hX C => by
  subst hX
  unfold w_Pars_productSign at h
  show gW X w (lim0 w) 1 (QI X w post) σ 0 [(0, .ref (wAd w 30))] []
  refine r_aload_n C 0 rfl (dk_at dk_Pars_productSign_0 0 rfl) ?_
  refine r_getR C fl_Pars_26 30 (hL.1 30 _ rfl) rfl (dk_at dk_Pars_productSign_0 1 rfl) ?_
  refine r_bipush C 42 (dk_at dk_Pars_productSign_0 2 rfl) ?_
  refine r_cvI C cl_Pars_53 20 (hL.1 20 _ rfl) [.int 42] (m_Tape_isSign hL h) (rmK_ok rfl rfl) rfl rfl (Nat.le_of_ble_eq_true rfl) (dk_at dk_Pars_productSign_0 3 rfl) (fun r1 σ2 h => ?_)
  refine r_if_eq C 15 rfl (dk_at dk_Pars_productSign_0 4 rfl) (fun c3 => ?_) (fun c3 => ?_)
  · replace h := h.1 c3
    refine r_aload_n C 0 rfl (dk_at dk_Pars_productSign_0 7 rfl) ?_
    refine r_getR C fl_Pars_26 30 (hL.1 30 _ rfl) rfl (dk_at dk_Pars_productSign_0 8 rfl) ?_
    refine r_bipush C 47 (dk_at dk_Pars_productSign_0 9 rfl) ?_
    refine r_cvI C cl_Pars_53 20 (hL.1 20 _ rfl) [.int 47] (m_Tape_isSign hL h) (rmK_ok rfl rfl) rfl rfl (Nat.le_of_ble_eq_true rfl) (dk_at dk_Pars_productSign_0 10 rfl) (fun r4 σ5 h => ?_)
    refine r_if_eq C 30 rfl (dk_at dk_Pars_productSign_0 11 rfl) (fun c6 => ?_) (fun c6 => ?_)
    · replace h := h.1 c6
      refine r_aload_n C 0 rfl (dk_at dk_Pars_productSign_0 14 rfl) ?_
      refine r_getR C fl_Pars_26 30 (hL.1 30 _ rfl) rfl (dk_at dk_Pars_productSign_0 15 rfl) ?_
      refine r_bipush C 37 (dk_at dk_Pars_productSign_0 16 rfl) ?_
      refine r_cvI C cl_Pars_53 20 (hL.1 20 _ rfl) [.int 37] (m_Tape_isSign hL h) (rmK_ok rfl rfl) rfl rfl (Nat.le_of_ble_eq_true rfl) (dk_at dk_Pars_productSign_0 17 rfl) (fun r7 σ8 h => ?_)
      refine r_if_eq C 47 rfl (dk_at dk_Pars_productSign_0 18 rfl) (fun c9 => ?_) (fun c9 => ?_)
      · replace h := h.1 c9
        refine r_iconst C (-1) (dk_at dk_Pars_productSign_0 21 rfl) ?_
        exact r_iret C h (dk_at dk_Pars_productSign_0 22 rfl)
      · replace h := h.2 c9
        refine r_bipush C 9 (dk_at dk_Pars_productSign_0 19 rfl) ?_
        refine r_goto C 48 rfl (dk_at dk_Pars_productSign_0 20 rfl) ?_
        exact r_iret C h (dk_at dk_Pars_productSign_0 22 rfl)
    · replace h := h.2 c6
      refine r_bipush C 8 (dk_at dk_Pars_productSign_0 12 rfl) ?_
      exact r_iret C h (dk_at dk_Pars_productSign_0 13 rfl)
  · replace h := h.2 c3
    refine r_bipush C 7 (dk_at dk_Pars_productSign_0 5 rfl) ?_
    exact r_iret C h (dk_at dk_Pars_productSign_0 6 rfl)
  )
set_option maxRecDepth 20000 in
theorem t_Pars_both_b8 {o_plain : DD → Int32 → (Int32 → DD → Prop) → Prop} {f0 q0 f_plain q_plain : Nat} {X : CT} {w : WO} (C : CF X w (lim0 w) 5 cX4_both RX4 (some .boolean) (.code yX4_both cX4_both 5 (some .boolean)) (rmK f0 q0)) {T : TXT} {z : EXa} (hL : LyX w T z) (hr0 : 6 ≤ f0 ∧ 131 ≤ q0) (hr_plain : f_plain + 1 ≤ f0 ∧ 8 + (4 + 11) + q_plain ≤ q0) (ho_plain : ∀ (σ : DD) (a1 : Int32) (post : Int32 → DD → Prop), o_plain σ a1 post → MI X.l w yX4_plain cX4_plain 4 .boolean (rmK f_plain q_plain) σ [.ref (wAd w 30), .int a1] post) {a1 : Int32} {K8 : DD → Int32 → Int32 → Prop} {post : Int32 → DD → Prop} (k8 : ∀ (σ : DD) (a2 : Int32) (a3 : Int32), K8 σ a2 a3 → gW X w (lim0 w) 5 (QI X w post) σ 8 [(0, .ref (wAd w 30)), (1, .int a1), (2, .int a2), (3, .int a3)] []) {σ : DD} {a2 : Int32} {a3 : Int32} (h : w_Pars_both_b8 T o_plain a1 K8 post σ a2 a3) : gW X w (lim0 w) 5 (QI X w post) σ 8 [(0, .ref (wAd w 30)), (1, .int a1), (2, .int a2), (3, .int a3)] [] := by
  unfold w_Pars_both_b8 at h
  refine r_iload_n C 3 rfl (dk_at dk_Pars_both_0 6 rfl) ?_
  refine r_sipush C 400 (dk_at dk_Pars_both_0 7 rfl) ?_
  refine r_icmp_ge C 64 rfl (dk_at dk_Pars_both_0 8 rfl) (fun c1 => ?_) (fun c1 => ?_)
  · replace h := h.1 c1
    refine r_iload_n C 2 rfl (dk_at dk_Pars_both_0 33 rfl) ?_
    exact r_zret C h.1 h.2 (dk_at dk_Pars_both_0 34 rfl)
  · replace h := h.2 c1
    refine r_iload_n C 2 rfl (dk_at dk_Pars_both_0 9 rfl) ?_
    refine r_if_eq C 64 rfl (dk_at dk_Pars_both_0 10 rfl) (fun c2 => ?_) (fun c2 => ?_)
    · replace h := h.1 c2
      refine r_iload_n C 2 rfl (dk_at dk_Pars_both_0 33 rfl) ?_
      exact r_zret C h.1 h.2 (dk_at dk_Pars_both_0 34 rfl)
    · replace h := h.2 c2
      refine r_aload_n C 0 rfl (dk_at dk_Pars_both_0 11 rfl) ?_
      refine r_getR C fl_Pars_26 30 (hL.1 30 _ rfl) rfl (dk_at dk_Pars_both_0 12 rfl) ?_
      refine r_ldcS C (hL.2.2 _ _ C.z) rfl 2 (by decide) rfl (dk_at dk_Pars_both_0 13 rfl) ?_
      refine r_cvI C cl_Pars_87 20 (hL.1 20 _ rfl) [.ref (z.2.1 2)] (m_Tape_isWord hL (by decide) h) (rmK_ok2 (f := f0) (q := q0) (f' := 5) (q' := 110) (by omega) (by omega)) rfl rfl (Nat.le_of_ble_eq_true rfl) (dk_at dk_Pars_both_0 14 rfl) (fun r3 σ4 h => ?_)
      refine r_if_eq C 64 rfl (dk_at dk_Pars_both_0 15 rfl) (fun c5 => ?_) (fun c5 => ?_)
      · replace h := h.1 c5
        refine r_iload_n C 2 rfl (dk_at dk_Pars_both_0 33 rfl) ?_
        exact r_zret C h.1 h.2 (dk_at dk_Pars_both_0 34 rfl)
      · replace h := h.2 c5
        refine r_aload_n C 0 rfl (dk_at dk_Pars_both_0 16 rfl) ?_
        refine r_iconst C 3 (dk_at dk_Pars_both_0 17 rfl) ?_
        refine r_iconst C 0 (dk_at dk_Pars_both_0 18 rfl) ?_
        refine r_cvI C cl_Pars_124 30 (hL.1 30 _ rfl) [.int 3, .int 0] (m_Pars_step hL h) (rmK_ok2 (f := f0) (q := q0) (f' := 0) (q' := 0) (by omega) (by omega)) rfl rfl (Nat.le_of_ble_eq_true rfl) (dk_at dk_Pars_both_0 19 rfl) (fun r6 σ7 h => ?_)
        refine r_istore C [(4, .int r6), (0, .ref (wAd w 30)), (1, .int a1), (2, .int a2), (3, .int a3)] rfl rfl (dk_at dk_Pars_both_0 20 rfl) ?_
        refine r_aload_n C 1 rfl (dk_at dk_Pars_both_0 21 rfl) ?_
        refine r_getR C fl_Pars_26 30 (hL.1 30 _ rfl) rfl (dk_at dk_Pars_both_0 22 rfl) ?_
        refine r_cvV C cl_Pars_57 20 (hL.1 20 _ rfl) [] (m_Tape_advance hL h) (rmK_ok2 (f := f0) (q := q0) (f' := 1) (q' := 20) (by omega) (by omega)) rfl rfl (Nat.le_of_ble_eq_true rfl) (dk_at dk_Pars_both_0 23 rfl) (fun σ9 h => ?_)
        refine r_aload_n C 1 rfl (dk_at dk_Pars_both_0 24 rfl) ?_
        refine r_iload_n C 2 rfl (dk_at dk_Pars_both_0 25 rfl) ?_
        refine r_cvI C cl_Pars_132 30 (hL.1 30 _ rfl) [.int a1] (ho_plain _ _ _ h) (rmK_ok2 hr_plain.1 hr_plain.2) rfl rfl (Nat.le_of_ble_eq_true rfl) (dk_at dk_Pars_both_0 26 rfl) (fun r10 σ11 h => ?_)
        refine r_istore_n C [(2, .int r10), (4, .int r6), (0, .ref (wAd w 30)), (1, .int a1), (3, .int a3)] rfl rfl (dk_at dk_Pars_both_0 27 rfl) ?_
        refine r_aload_n C 2 rfl (dk_at dk_Pars_both_0 28 rfl) ?_
        refine r_iload C 1 rfl (dk_at dk_Pars_both_0 29 rfl) ?_
        refine r_cvV C cl_Pars_128 30 (hL.1 30 _ rfl) [.int r6] (m_Pars_land hL h) (rmK_ok2 (f := f0) (q := q0) (f' := 0) (q' := 0) (by omega) (by omega)) rfl rfl (Nat.le_of_ble_eq_true rfl) (dk_at dk_Pars_both_0 30 rfl) (fun σ13 h => ?_)
        refine r_iinc C 4 rfl rfl [(3, .int (a3 + 1)), (2, .int r10), (4, .int r6), (0, .ref (wAd w 30)), (1, .int a1)] rfl rfl (dk_at dk_Pars_both_0 31 rfl) ?_
        refine r_goto C 8 rfl (dk_at dk_Pars_both_0 32 rfl) ?_
        refine r_lv [3, 4, 1, 0] rfl ?_
        exact k8 _ _ _ h
set_option maxRecDepth 20000 in
theorem t_Pars_both_l8 {o_plain : DD → Int32 → (Int32 → DD → Prop) → Prop} {f0 q0 f_plain q_plain : Nat} {X : CT} {w : WO} (C : CF X w (lim0 w) 5 cX4_both RX4 (some .boolean) (.code yX4_both cX4_both 5 (some .boolean)) (rmK f0 q0)) {T : TXT} {z : EXa} (hL : LyX w T z) (hr0 : 6 ≤ f0 ∧ 131 ≤ q0) (hr_plain : f_plain + 1 ≤ f0 ∧ 8 + (4 + 11) + q_plain ≤ q0) (ho_plain : ∀ (σ : DD) (a1 : Int32) (post : Int32 → DD → Prop), o_plain σ a1 post → MI X.l w yX4_plain cX4_plain 4 .boolean (rmK f_plain q_plain) σ [.ref (wAd w 30), .int a1] post) {a1 : Int32} {post : Int32 → DD → Prop} {σ : DD} {a2 : Int32} {a3 : Int32} (h : w_Pars_both_l8 T o_plain post σ a1 a2 a3) : gW X w (lim0 w) 5 (QI X w post) σ 8 [(0, .ref (wAd w 30)), (1, .int a1), (2, .int a2), (3, .int a3)] [] :=
  LoopW (G := fun x : DD × Int32 × Int32 => gW X w (lim0 w) 5 (QI X w post) x.1 8 [(0, .ref (wAd w 30)), (1, .int a1), (2, .int x.2.1), (3, .int x.2.2)] []) (fun K x hK hF => t_Pars_both_b8 C hL hr0 hr_plain ho_plain (fun σ a2 a3 q => hK (σ, a2, a3) q) hF) h
set_option maxRecDepth 20000 in
theorem m_Pars_both_o {l : Launch} {w : WO} {T : TXT} {z : EXa} (hL : LyX w T z) {o_plain : DD → Int32 → (Int32 → DD → Prop) → Prop} {f0 q0 f_plain q_plain : Nat} (hr0 : 6 ≤ f0 ∧ 131 ≤ q0) (hr_plain : f_plain + 1 ≤ f0 ∧ 8 + (4 + 11) + q_plain ≤ q0) (ho_plain : ∀ (σ : DD) (a1 : Int32) (post : Int32 → DD → Prop), o_plain σ a1 post → MI l w yX4_plain cX4_plain 4 .boolean (rmK f_plain q_plain) σ [.ref (wAd w 30), .int a1] post) {σ : DD} {a1 : Int32} {post : Int32 → DD → Prop} (h : w_Pars_both_o T o_plain σ a1 post) : MI l w yX4_both cX4_both 5 .boolean (rmK f0 q0) σ [.ref (wAd w 30), .int a1] post :=
  met_head (rt := (some .boolean)) (by decide) rfl (fun X hX C => by
  subst hX
  unfold w_Pars_both_o at h
  show gW X w (lim0 w) 5 (QI X w post) σ 0 [(0, .ref (wAd w 30)), (1, .int a1)] []
  refine r_aload_n C 0 rfl (dk_at dk_Pars_both_0 0 rfl) ?_
  refine r_iload_n C 1 rfl (dk_at dk_Pars_both_0 1 rfl) ?_
  refine r_cvI C cl_Pars_132 30 (hL.1 30 _ rfl) [.int a1] (ho_plain _ _ _ h) (rmK_ok2 hr_plain.1 hr_plain.2) rfl rfl (Nat.le_of_ble_eq_true rfl) (dk_at dk_Pars_both_0 2 rfl) (fun r14 σ15 h => ?_)
  refine r_istore_n C [(2, .int r14), (0, .ref (wAd w 30)), (1, .int a1)] rfl rfl (dk_at dk_Pars_both_0 3 rfl) ?_
  refine r_iconst C 0 (dk_at dk_Pars_both_0 4 rfl) ?_
  refine r_istore_n C [(3, .int 0), (2, .int r14), (0, .ref (wAd w 30)), (1, .int a1)] rfl rfl (dk_at dk_Pars_both_0 5 rfl) ?_
  refine r_lv [2, 3, 1, 0] rfl ?_
  exact t_Pars_both_l8 C hL hr0 hr_plain ho_plain h
  )
set_option maxRecDepth 20000 in
theorem t_Pars_bracketed_j62 {o_sum : DD → Int32 → (Int32 → DD → Prop) → Prop} {o_test : DD → Int32 → (Int32 → DD → Prop) → Prop} {f0 q0 f_sum q_sum f_test q_test : Nat} {X : CT} {w : WO} (C : CF X w (lim0 w) 3 cX4_bracketed RX4 (some .boolean) (.code yX4_bracketed cX4_bracketed 3 (some .boolean)) (rmK f0 q0)) {T : TXT} {z : EXa} (hL : LyX w T z) (hr0 : 2 ≤ f0 ∧ 40 ≤ q0) (hr_sum : f_sum + 1 ≤ f0 ∧ 8 + (5 + 11) + q_sum ≤ q0) (hr_test : f_test + 1 ≤ f0 ∧ 8 + (5 + 11) + q_test ≤ q0) (ho_sum : ∀ (σ : DD) (a1 : Int32) (post : Int32 → DD → Prop), o_sum σ a1 post → MI X.l w yX4_sum cX4_sum 5 .boolean (rmK f_sum q_sum) σ [.ref (wAd w 30), .int a1] post) (ho_test : ∀ (σ : DD) (a1 : Int32) (post : Int32 → DD → Prop), o_test σ a1 post → MI X.l w yX4_test cX4_test 5 .boolean (rmK f_test q_test) σ [.ref (wAd w 30), .int a1] post) {post : Int32 → DD → Prop} {t1 : Int32} {σ : DD} (h : w_Pars_bracketed_j62 T o_sum o_test post σ t1) : gW X w (lim0 w) 3 (QI X w post) σ 62 [(0, .ref (wAd w 30))] [.int t1, .ref (wAd w 20)] := by
  unfold w_Pars_bracketed_j62 at h
  refine r_cvI C cl_Pars_53 20 (hL.1 20 _ rfl) [.int t1] (m_Tape_isSign hL h) (rmK_ok2 (f := f0) (q := q0) (f' := 0) (q' := 0) (by omega) (by omega)) rfl rfl (Nat.le_of_ble_eq_true rfl) (dk_at dk_Pars_bracketed_0 33 rfl) (fun r1 σ2 h => ?_)
  refine r_if_ne C 73 rfl (dk_at dk_Pars_bracketed_0 34 rfl) (fun c3 => ?_) (fun c3 => ?_)
  · replace h := h.1 c3
    refine r_aload_n C 0 rfl (dk_at dk_Pars_bracketed_0 38 rfl) ?_
    refine r_getR C fl_Pars_26 30 (hL.1 30 _ rfl) rfl (dk_at dk_Pars_bracketed_0 39 rfl) ?_
    refine r_cvV C cl_Pars_57 20 (hL.1 20 _ rfl) [] (m_Tape_advance hL h) (rmK_ok2 (f := f0) (q := q0) (f' := 1) (q' := 20) (by omega) (by omega)) rfl rfl (Nat.le_of_ble_eq_true rfl) (dk_at dk_Pars_bracketed_1 0 rfl) (fun σ5 h => ?_)
    refine r_iconst C 1 (dk_at dk_Pars_bracketed_1 1 rfl) ?_
    exact r_zret C (Or.inr rfl) h (dk_at dk_Pars_bracketed_1 2 rfl)
  · replace h := h.2 c3
    refine r_aload_n C 0 rfl (dk_at dk_Pars_bracketed_0 35 rfl) ?_
    refine r_cvI C cl_Pars_63 30 (hL.1 30 _ rfl) [] (m_Pars_halt hL h) (rmK_ok2 (f := f0) (q := q0) (f' := 0) (q' := 0) (by omega) (by omega)) rfl rfl (Nat.le_of_ble_eq_true rfl) (dk_at dk_Pars_bracketed_0 36 rfl) (fun r6 σ7 h => ?_)
    exact r_zret C h.1 h.2 (dk_at dk_Pars_bracketed_0 37 rfl)
set_option maxRecDepth 20000 in
theorem t_Pars_bracketed_j47 {o_sum : DD → Int32 → (Int32 → DD → Prop) → Prop} {o_test : DD → Int32 → (Int32 → DD → Prop) → Prop} {f0 q0 f_sum q_sum f_test q_test : Nat} {X : CT} {w : WO} (C : CF X w (lim0 w) 3 cX4_bracketed RX4 (some .boolean) (.code yX4_bracketed cX4_bracketed 3 (some .boolean)) (rmK f0 q0)) {T : TXT} {z : EXa} (hL : LyX w T z) (hr0 : 2 ≤ f0 ∧ 40 ≤ q0) (hr_sum : f_sum + 1 ≤ f0 ∧ 8 + (5 + 11) + q_sum ≤ q0) (hr_test : f_test + 1 ≤ f0 ∧ 8 + (5 + 11) + q_test ≤ q0) (ho_sum : ∀ (σ : DD) (a1 : Int32) (post : Int32 → DD → Prop), o_sum σ a1 post → MI X.l w yX4_sum cX4_sum 5 .boolean (rmK f_sum q_sum) σ [.ref (wAd w 30), .int a1] post) (ho_test : ∀ (σ : DD) (a1 : Int32) (post : Int32 → DD → Prop), o_test σ a1 post → MI X.l w yX4_test cX4_test 5 .boolean (rmK f_test q_test) σ [.ref (wAd w 30), .int a1] post) {post : Int32 → DD → Prop} {a2 : Int32} {σ : DD} (h : w_Pars_bracketed_j47 T o_sum o_test post σ a2) : gW X w (lim0 w) 3 (QI X w post) σ 47 [(0, .ref (wAd w 30)), (2, .int a2)] [] := by
  unfold w_Pars_bracketed_j47 at h
  refine r_aload_n C 0 rfl (dk_at dk_Pars_bracketed_0 26 rfl) ?_
  refine r_getR C fl_Pars_26 30 (hL.1 30 _ rfl) rfl (dk_at dk_Pars_bracketed_0 27 rfl) ?_
  refine r_iload_n C 1 rfl (dk_at dk_Pars_bracketed_0 28 rfl) ?_
  refine r_if_eq C 60 rfl (dk_at dk_Pars_bracketed_0 29 rfl) (fun c8 => ?_) (fun c8 => ?_)
  · replace h := h.1 c8
    refine r_bipush C 93 (dk_at dk_Pars_bracketed_0 32 rfl) ?_
    refine r_lv [0] rfl ?_
    exact t_Pars_bracketed_j62 C hL hr0 hr_sum hr_test ho_sum ho_test h
  · replace h := h.2 c8
    refine r_bipush C 41 (dk_at dk_Pars_bracketed_0 30 rfl) ?_
    refine r_goto C 62 rfl (dk_at dk_Pars_bracketed_0 31 rfl) ?_
    refine r_lv [0] rfl ?_
    exact t_Pars_bracketed_j62 C hL hr0 hr_sum hr_test ho_sum ho_test h
set_option maxRecDepth 20000 in
theorem m_Pars_bracketed_o {l : Launch} {w : WO} {T : TXT} {z : EXa} (hL : LyX w T z) {o_sum : DD → Int32 → (Int32 → DD → Prop) → Prop} {o_test : DD → Int32 → (Int32 → DD → Prop) → Prop} {f0 q0 f_sum q_sum f_test q_test : Nat} (hr0 : 2 ≤ f0 ∧ 40 ≤ q0) (hr_sum : f_sum + 1 ≤ f0 ∧ 8 + (5 + 11) + q_sum ≤ q0) (hr_test : f_test + 1 ≤ f0 ∧ 8 + (5 + 11) + q_test ≤ q0) (ho_sum : ∀ (σ : DD) (a1 : Int32) (post : Int32 → DD → Prop), o_sum σ a1 post → MI l w yX4_sum cX4_sum 5 .boolean (rmK f_sum q_sum) σ [.ref (wAd w 30), .int a1] post) (ho_test : ∀ (σ : DD) (a1 : Int32) (post : Int32 → DD → Prop), o_test σ a1 post → MI l w yX4_test cX4_test 5 .boolean (rmK f_test q_test) σ [.ref (wAd w 30), .int a1] post) {σ : DD} {a1 : Int32} {a2 : Int32} {post : Int32 → DD → Prop} (h : w_Pars_bracketed_o T o_sum o_test σ a1 a2 post) : MI l w yX4_bracketed cX4_bracketed 3 .boolean (rmK f0 q0) σ [.ref (wAd w 30), .int a1, .int a2] post :=
  met_head (rt := (some .boolean)) (by decide) rfl (fun X hX C => by
  subst hX
  unfold w_Pars_bracketed_o at h
  show gW X w (lim0 w) 3 (QI X w post) σ 0 [(0, .ref (wAd w 30)), (1, .int a1), (2, .int a2)] []
  refine r_iload_n C 1 rfl (dk_at dk_Pars_bracketed_0 0 rfl) ?_
  refine r_bipush C 8 (dk_at dk_Pars_bracketed_0 1 rfl) ?_
  refine r_icmp_lt C 11 rfl (dk_at dk_Pars_bracketed_0 2 rfl) (fun c9 => ?_) (fun c9 => ?_)
  · replace h := h.1 c9
    refine r_aload_n C 0 rfl (dk_at dk_Pars_bracketed_0 6 rfl) ?_
    refine r_getR C fl_Pars_26 30 (hL.1 30 _ rfl) rfl (dk_at dk_Pars_bracketed_0 7 rfl) ?_
    refine r_cvV C cl_Pars_57 20 (hL.1 20 _ rfl) [] (m_Tape_advance hL h) (rmK_ok2 (f := f0) (q := q0) (f' := 1) (q' := 20) (by omega) (by omega)) rfl rfl (Nat.le_of_ble_eq_true rfl) (dk_at dk_Pars_bracketed_0 8 rfl) (fun σ11 h => ?_)
    refine r_iload_n C 2 rfl (dk_at dk_Pars_bracketed_0 9 rfl) ?_
    refine r_if_eq C 35 rfl (dk_at dk_Pars_bracketed_0 10 rfl) (fun c12 => ?_) (fun c12 => ?_)
    · replace h := h.1 c12
      refine r_aload_n C 0 rfl (dk_at dk_Pars_bracketed_0 18 rfl) ?_
      refine r_iload_n C 1 rfl (dk_at dk_Pars_bracketed_0 19 rfl) ?_
      refine r_iconst C 1 (dk_at dk_Pars_bracketed_0 20 rfl) ?_
      refine r_iadd C (dk_at dk_Pars_bracketed_0 21 rfl) ?_
      refine r_cvI C cl_Pars_100 30 (hL.1 30 _ rfl) [.int (a1 + 1)] (ho_sum _ _ _ h) (rmK_ok2 hr_sum.1 hr_sum.2) rfl rfl (Nat.le_of_ble_eq_true rfl) (dk_at dk_Pars_bracketed_0 22 rfl) (fun r13 σ14 h => ?_)
      refine r_if_ne C 47 rfl (dk_at dk_Pars_bracketed_0 23 rfl) (fun c15 => ?_) (fun c15 => ?_)
      · replace h := h.1 c15
        refine r_lv [0, 2] rfl ?_
        exact t_Pars_bracketed_j47 C hL hr0 hr_sum hr_test ho_sum ho_test h
      · replace h := h.2 c15
        refine r_iconst C 0 (dk_at dk_Pars_bracketed_0 24 rfl) ?_
        exact r_zret C (Or.inl rfl) h (dk_at dk_Pars_bracketed_0 25 rfl)
    · replace h := h.2 c12
      refine r_aload_n C 0 rfl (dk_at dk_Pars_bracketed_0 11 rfl) ?_
      refine r_iload_n C 1 rfl (dk_at dk_Pars_bracketed_0 12 rfl) ?_
      refine r_iconst C 1 (dk_at dk_Pars_bracketed_0 13 rfl) ?_
      refine r_iadd C (dk_at dk_Pars_bracketed_0 14 rfl) ?_
      refine r_cvI C cl_Pars_91 30 (hL.1 30 _ rfl) [.int (a1 + 1)] (ho_test _ _ _ h) (rmK_ok2 hr_test.1 hr_test.2) rfl rfl (Nat.le_of_ble_eq_true rfl) (dk_at dk_Pars_bracketed_0 15 rfl) (fun r16 σ17 h => ?_)
      refine r_if_eq C 45 rfl (dk_at dk_Pars_bracketed_0 16 rfl) (fun c18 => ?_) (fun c18 => ?_)
      · replace h := h.1 c18
        refine r_iconst C 0 (dk_at dk_Pars_bracketed_0 24 rfl) ?_
        exact r_zret C (Or.inl rfl) h (dk_at dk_Pars_bracketed_0 25 rfl)
      · replace h := h.2 c18
        refine r_goto C 47 rfl (dk_at dk_Pars_bracketed_0 17 rfl) ?_
        refine r_lv [0, 2] rfl ?_
        exact t_Pars_bracketed_j47 C hL hr0 hr_sum hr_test ho_sum ho_test h
  · replace h := h.2 c9
    refine r_aload_n C 0 rfl (dk_at dk_Pars_bracketed_0 3 rfl) ?_
    refine r_cvI C cl_Pars_63 30 (hL.1 30 _ rfl) [] (m_Pars_halt hL h) (rmK_ok2 (f := f0) (q := q0) (f' := 0) (q' := 0) (by omega) (by omega)) rfl rfl (Nat.le_of_ble_eq_true rfl) (dk_at dk_Pars_bracketed_0 4 rfl) (fun r19 σ20 h => ?_)
    exact r_zret C h.1 h.2 (dk_at dk_Pars_bracketed_0 5 rfl)
  )
set_option maxRecDepth 20000 in
theorem t_Pars_comparison_j70 {o_sum : DD → Int32 → (Int32 → DD → Prop) → Prop} {f0 q0 f_sum q_sum : Nat} {X : CT} {w : WO} (C : CF X w (lim0 w) 4 cX4_comparison RX4 (some .boolean) (.code yX4_comparison cX4_comparison 4 (some .boolean)) (rmK f0 q0)) {T : TXT} {z : EXa} (hL : LyX w T z) (hr0 : 2 ≤ f0 ∧ 40 ≤ q0) (hr_sum : f_sum + 1 ≤ f0 ∧ 8 + (5 + 11) + q_sum ≤ q0) (ho_sum : ∀ (σ : DD) (a1 : Int32) (post : Int32 → DD → Prop), o_sum σ a1 post → MI X.l w yX4_sum cX4_sum 5 .boolean (rmK f_sum q_sum) σ [.ref (wAd w 30), .int a1] post) {post : Int32 → DD → Prop} {a1 : Int32} {a2 : Int32} {σ : DD} (h : w_Pars_comparison_j70 T o_sum post σ a1 a2) : gW X w (lim0 w) 4 (QI X w post) σ 70 [(0, .ref (wAd w 30)), (1, .int a1), (2, .int a2)] [] := by
  unfold w_Pars_comparison_j70 at h
  refine r_aload_n C 0 rfl (dk_at dk_Pars_comparison_0 33 rfl) ?_
  refine r_getR C fl_Pars_26 30 (hL.1 30 _ rfl) rfl (dk_at dk_Pars_comparison_0 34 rfl) ?_
  refine r_cvV C cl_Pars_57 20 (hL.1 20 _ rfl) [] (m_Tape_advance hL h) (rmK_ok2 (f := f0) (q := q0) (f' := 1) (q' := 20) (by omega) (by omega)) rfl rfl (Nat.le_of_ble_eq_true rfl) (dk_at dk_Pars_comparison_0 35 rfl) (fun σ2 h => ?_)
  refine r_aload_n C 0 rfl (dk_at dk_Pars_comparison_0 36 rfl) ?_
  refine r_iload_n C 1 rfl (dk_at dk_Pars_comparison_0 37 rfl) ?_
  refine r_cvI C cl_Pars_100 30 (hL.1 30 _ rfl) [.int a1] (ho_sum _ _ _ h) (rmK_ok2 hr_sum.1 hr_sum.2) rfl rfl (Nat.le_of_ble_eq_true rfl) (dk_at dk_Pars_comparison_0 38 rfl) (fun r3 σ4 h => ?_)
  refine r_istore_n C [(3, .int r3), (0, .ref (wAd w 30)), (1, .int a1), (2, .int a2)] rfl rfl (dk_at dk_Pars_comparison_0 39 rfl) ?_
  refine r_aload_n C 1 rfl (dk_at dk_Pars_comparison_1 0 rfl) ?_
  refine r_iload_n C 3 rfl (dk_at dk_Pars_comparison_1 1 rfl) ?_
  refine r_iconst C 0 (dk_at dk_Pars_comparison_1 2 rfl) ?_
  refine r_cvI C cl_Pars_124 30 (hL.1 30 _ rfl) [.int a2, .int 0] (m_Pars_step hL h) (rmK_ok2 (f := f0) (q := q0) (f' := 0) (q' := 0) (by omega) (by omega)) rfl rfl (Nat.le_of_ble_eq_true rfl) (dk_at dk_Pars_comparison_1 3 rfl) (fun r5 σ6 h => ?_)
  refine r_pop C rfl (dk_at dk_Pars_comparison_1 4 rfl) ?_
  refine r_iload_n C 0 rfl (dk_at dk_Pars_comparison_1 5 rfl) ?_
  exact r_zret C h.1 h.2 (dk_at dk_Pars_comparison_1 6 rfl)
set_option maxRecDepth 20000 in
theorem t_Pars_comparison_j46 {o_sum : DD → Int32 → (Int32 → DD → Prop) → Prop} {f0 q0 f_sum q_sum : Nat} {X : CT} {w : WO} (C : CF X w (lim0 w) 4 cX4_comparison RX4 (some .boolean) (.code yX4_comparison cX4_comparison 4 (some .boolean)) (rmK f0 q0)) {T : TXT} {z : EXa} (hL : LyX w T z) (hr0 : 2 ≤ f0 ∧ 40 ≤ q0) (hr_sum : f_sum + 1 ≤ f0 ∧ 8 + (5 + 11) + q_sum ≤ q0) (ho_sum : ∀ (σ : DD) (a1 : Int32) (post : Int32 → DD → Prop), o_sum σ a1 post → MI X.l w yX4_sum cX4_sum 5 .boolean (rmK f_sum q_sum) σ [.ref (wAd w 30), .int a1] post) {post : Int32 → DD → Prop} {a1 : Int32} {t0 : Int32} {σ : DD} (h : w_Pars_comparison_j46 T o_sum post σ a1 t0) : gW X w (lim0 w) 4 (QI X w post) σ 46 [(0, .ref (wAd w 30)), (1, .int a1)] [.int t0] := by
  unfold w_Pars_comparison_j46 at h
  refine r_istore_n C [(2, .int t0), (0, .ref (wAd w 30)), (1, .int a1)] rfl rfl (dk_at dk_Pars_comparison_0 21 rfl) ?_
  refine r_iload_n C 0 rfl (dk_at dk_Pars_comparison_0 22 rfl) ?_
  refine r_bipush C 12 (dk_at dk_Pars_comparison_0 23 rfl) ?_
  refine r_icmp_ne C 70 rfl (dk_at dk_Pars_comparison_0 24 rfl) (fun c7 => ?_) (fun c7 => ?_)
  · replace h := h.1 c7
    refine r_lv [1, 2, 0] rfl ?_
    exact t_Pars_comparison_j70 C hL hr0 hr_sum ho_sum h
  · replace h := h.2 c7
    refine r_aload_n C 1 rfl (dk_at dk_Pars_comparison_0 25 rfl) ?_
    refine r_getR C fl_Pars_26 30 (hL.1 30 _ rfl) rfl (dk_at dk_Pars_comparison_0 26 rfl) ?_
    refine r_bipush C 61 (dk_at dk_Pars_comparison_0 27 rfl) ?_
    refine r_cvI C cl_Pars_53 20 (hL.1 20 _ rfl) [.int 61] (m_Tape_isSign hL h) (rmK_ok2 (f := f0) (q := q0) (f' := 0) (q' := 0) (by omega) (by omega)) rfl rfl (Nat.le_of_ble_eq_true rfl) (dk_at dk_Pars_comparison_0 28 rfl) (fun r8 σ9 h => ?_)
    refine r_if_ne C 70 rfl (dk_at dk_Pars_comparison_0 29 rfl) (fun c10 => ?_) (fun c10 => ?_)
    · replace h := h.1 c10
      refine r_lv [1, 2, 0] rfl ?_
      exact t_Pars_comparison_j70 C hL hr0 hr_sum ho_sum h
    · replace h := h.2 c10
      refine r_aload_n C 1 rfl (dk_at dk_Pars_comparison_0 30 rfl) ?_
      refine r_cvI C cl_Pars_63 30 (hL.1 30 _ rfl) [] (m_Pars_halt hL h) (rmK_ok2 (f := f0) (q := q0) (f' := 0) (q' := 0) (by omega) (by omega)) rfl rfl (Nat.le_of_ble_eq_true rfl) (dk_at dk_Pars_comparison_0 31 rfl) (fun r11 σ12 h => ?_)
      exact r_zret C h.1 h.2 (dk_at dk_Pars_comparison_0 32 rfl)
set_option maxRecDepth 20000 in
theorem m_Pars_comparison_o {l : Launch} {w : WO} {T : TXT} {z : EXa} (hL : LyX w T z) {o_sum : DD → Int32 → (Int32 → DD → Prop) → Prop} {f0 q0 f_sum q_sum : Nat} (hr0 : 2 ≤ f0 ∧ 40 ≤ q0) (hr_sum : f_sum + 1 ≤ f0 ∧ 8 + (5 + 11) + q_sum ≤ q0) (ho_sum : ∀ (σ : DD) (a1 : Int32) (post : Int32 → DD → Prop), o_sum σ a1 post → MI l w yX4_sum cX4_sum 5 .boolean (rmK f_sum q_sum) σ [.ref (wAd w 30), .int a1] post) {σ : DD} {a1 : Int32} {post : Int32 → DD → Prop} (h : w_Pars_comparison_o T o_sum σ a1 post) : MI l w yX4_comparison cX4_comparison 4 .boolean (rmK f0 q0) σ [.ref (wAd w 30), .int a1] post :=
  met_head (rt := (some .boolean)) (by decide) rfl (fun X hX C => by
  subst hX
  unfold w_Pars_comparison_o at h
  show gW X w (lim0 w) 4 (QI X w post) σ 0 [(0, .ref (wAd w 30)), (1, .int a1)] []
  refine r_aload_n C 0 rfl (dk_at dk_Pars_comparison_0 0 rfl) ?_
  refine r_iload_n C 1 rfl (dk_at dk_Pars_comparison_0 1 rfl) ?_
  refine r_cvI C cl_Pars_100 30 (hL.1 30 _ rfl) [.int a1] (ho_sum _ _ _ h) (rmK_ok2 hr_sum.1 hr_sum.2) rfl rfl (Nat.le_of_ble_eq_true rfl) (dk_at dk_Pars_comparison_0 2 rfl) (fun r13 σ14 h => ?_)
  refine r_if_ne C 10 rfl (dk_at dk_Pars_comparison_0 3 rfl) (fun c15 => ?_) (fun c15 => ?_)
  · replace h := h.1 c15
    refine r_aload_n C 0 rfl (dk_at dk_Pars_comparison_0 6 rfl) ?_
    refine r_getR C fl_Pars_26 30 (hL.1 30 _ rfl) rfl (dk_at dk_Pars_comparison_0 7 rfl) ?_
    refine r_bipush C 60 (dk_at dk_Pars_comparison_0 8 rfl) ?_
    refine r_cvI C cl_Pars_53 20 (hL.1 20 _ rfl) [.int 60] (m_Tape_isSign hL h) (rmK_ok2 (f := f0) (q := q0) (f' := 0) (q' := 0) (by omega) (by omega)) rfl rfl (Nat.le_of_ble_eq_true rfl) (dk_at dk_Pars_comparison_0 9 rfl) (fun r16 σ17 h => ?_)
    refine r_if_eq C 27 rfl (dk_at dk_Pars_comparison_0 10 rfl) (fun c18 => ?_) (fun c18 => ?_)
    · replace h := h.1 c18
      refine r_aload_n C 0 rfl (dk_at dk_Pars_comparison_0 13 rfl) ?_
      refine r_getR C fl_Pars_26 30 (hL.1 30 _ rfl) rfl (dk_at dk_Pars_comparison_0 14 rfl) ?_
      refine r_bipush C 62 (dk_at dk_Pars_comparison_0 15 rfl) ?_
      refine r_cvI C cl_Pars_53 20 (hL.1 20 _ rfl) [.int 62] (m_Tape_isSign hL h) (rmK_ok2 (f := f0) (q := q0) (f' := 0) (q' := 0) (by omega) (by omega)) rfl rfl (Nat.le_of_ble_eq_true rfl) (dk_at dk_Pars_comparison_0 16 rfl) (fun r19 σ20 h => ?_)
      refine r_if_eq C 44 rfl (dk_at dk_Pars_comparison_0 17 rfl) (fun c21 => ?_) (fun c21 => ?_)
      · replace h := h.1 c21
        refine r_bipush C 12 (dk_at dk_Pars_comparison_0 20 rfl) ?_
        refine r_lv [0, 1] rfl ?_
        exact t_Pars_comparison_j46 C hL hr0 hr_sum ho_sum h
      · replace h := h.2 c21
        refine r_bipush C 11 (dk_at dk_Pars_comparison_0 18 rfl) ?_
        refine r_goto C 46 rfl (dk_at dk_Pars_comparison_0 19 rfl) ?_
        refine r_lv [0, 1] rfl ?_
        exact t_Pars_comparison_j46 C hL hr0 hr_sum ho_sum h
    · replace h := h.2 c18
      refine r_bipush C 10 (dk_at dk_Pars_comparison_0 11 rfl) ?_
      refine r_goto C 46 rfl (dk_at dk_Pars_comparison_0 12 rfl) ?_
      refine r_lv [0, 1] rfl ?_
      exact t_Pars_comparison_j46 C hL hr0 hr_sum ho_sum h
  · replace h := h.2 c15
    refine r_iconst C 0 (dk_at dk_Pars_comparison_0 4 rfl) ?_
    exact r_zret C (Or.inl rfl) h (dk_at dk_Pars_comparison_0 5 rfl)
  )
set_option maxRecDepth 20000 in
theorem t_Pars_part_j75 {o_bracketed : DD → Int32 → Int32 → (Int32 → DD → Prop) → Prop} {f0 q0 f_bracketed q_bracketed : Nat} {X : CT} {w : WO} (C : CF X w (lim0 w) 4 cX4_part RX4 (some .boolean) (.code yX4_part cX4_part 4 (some .boolean)) (rmK f0 q0)) {T : TXT} {z : EXa} (hL : LyX w T z) (hr0 : 5 ≤ f0 ∧ 110 ≤ q0) (hr_bracketed : f_bracketed + 1 ≤ f0 ∧ 8 + (3 + 11) + q_bracketed ≤ q0) (ho_bracketed : ∀ (σ : DD) (a1 : Int32) (a2 : Int32) (post : Int32 → DD → Prop), o_bracketed σ a1 a2 post → MI X.l w yX4_bracketed cX4_bracketed 3 .boolean (rmK f_bracketed q_bracketed) σ [.ref (wAd w 30), .int a1, .int a2] post) {post : Int32 → DD → Prop} {σ : DD} (h : w_Pars_part_j75 T o_bracketed post σ) : gW X w (lim0 w) 4 (QI X w post) σ 75 [(0, .ref (wAd w 30))] [] := by
  unfold w_Pars_part_j75 at h
  refine r_aload_n C 0 rfl (dk_at dk_Pars_part_0 37 rfl) ?_
  refine r_cvI C cl_Pars_63 30 (hL.1 30 _ rfl) [] (m_Pars_halt hL h) (rmK_ok2 (f := f0) (q := q0) (f' := 0) (q' := 0) (by omega) (by omega)) rfl rfl (Nat.le_of_ble_eq_true rfl) (dk_at dk_Pars_part_0 38 rfl) (fun r1 σ2 h => ?_)
  exact r_zret C h.1 h.2 (dk_at dk_Pars_part_0 39 rfl)
set_option maxRecDepth 20000 in
theorem t_Pars_part_j123 {o_bracketed : DD → Int32 → Int32 → (Int32 → DD → Prop) → Prop} {f0 q0 f_bracketed q_bracketed : Nat} {X : CT} {w : WO} (C : CF X w (lim0 w) 4 cX4_part RX4 (some .boolean) (.code yX4_part cX4_part 4 (some .boolean)) (rmK f0 q0)) {T : TXT} {z : EXa} (hL : LyX w T z) (hr0 : 5 ≤ f0 ∧ 110 ≤ q0) (hr_bracketed : f_bracketed + 1 ≤ f0 ∧ 8 + (3 + 11) + q_bracketed ≤ q0) (ho_bracketed : ∀ (σ : DD) (a1 : Int32) (a2 : Int32) (post : Int32 → DD → Prop), o_bracketed σ a1 a2 post → MI X.l w yX4_bracketed cX4_bracketed 3 .boolean (rmK f_bracketed q_bracketed) σ [.ref (wAd w 30), .int a1, .int a2] post) {post : Int32 → DD → Prop} {a2 : Int32} {σ : DD} (h : w_Pars_part_j123 T o_bracketed post σ a2) : gW X w (lim0 w) 4 (QI X w post) σ 123 [(0, .ref (wAd w 30)), (2, .int a2)] [] := by
  unfold w_Pars_part_j123 at h
  refine r_aload_n C 0 rfl (dk_at dk_Pars_part_1 25 rfl) ?_
  refine r_iload_n C 1 rfl (dk_at dk_Pars_part_1 26 rfl) ?_
  refine r_cvI C cl_Pars_159 30 (hL.1 30 _ rfl) [.int a2] (m_Pars_wordStep hL h) (rmK_ok2 (f := f0) (q := q0) (f' := 1) (q' := 22) (by omega) (by omega)) rfl rfl (Nat.le_of_ble_eq_true rfl) (dk_at dk_Pars_part_1 27 rfl) (fun r3 σ4 h => ?_)
  refine r_goto C 136 rfl (dk_at dk_Pars_part_1 28 rfl) ?_
  exact r_zret C h.1 h.2 (dk_at dk_Pars_part_1 32 rfl)
set_option maxRecDepth 20000 in
theorem t_Pars_part_j80 {o_bracketed : DD → Int32 → Int32 → (Int32 → DD → Prop) → Prop} {f0 q0 f_bracketed q_bracketed : Nat} {X : CT} {w : WO} (C : CF X w (lim0 w) 4 cX4_part RX4 (some .boolean) (.code yX4_part cX4_part 4 (some .boolean)) (rmK f0 q0)) {T : TXT} {z : EXa} (hL : LyX w T z) (hr0 : 5 ≤ f0 ∧ 110 ≤ q0) (hr_bracketed : f_bracketed + 1 ≤ f0 ∧ 8 + (3 + 11) + q_bracketed ≤ q0) (ho_bracketed : ∀ (σ : DD) (a1 : Int32) (a2 : Int32) (post : Int32 → DD → Prop), o_bracketed σ a1 a2 post → MI X.l w yX4_bracketed cX4_bracketed 3 .boolean (rmK f_bracketed q_bracketed) σ [.ref (wAd w 30), .int a1, .int a2] post) {post : Int32 → DD → Prop} {a2 : Int32} {a3 : Int32} {σ : DD} (h : w_Pars_part_j80 T o_bracketed post σ a2 a3) : gW X w (lim0 w) 4 (QI X w post) σ 80 [(0, .ref (wAd w 30)), (2, .int a2), (3, .int a3)] [] := by
  unfold w_Pars_part_j80 at h
  refine r_aload_n C 0 rfl (dk_at dk_Pars_part_1 0 rfl) ?_
  refine r_dup C rfl (dk_at dk_Pars_part_1 1 rfl) ?_
  refine r_getI C fl_Pars_40 30 (hL.1 30 _ rfl) rfl (dk_at dk_Pars_part_1 2 rfl) ?_
  refine r_iconst C 1 (dk_at dk_Pars_part_1 3 rfl) ?_
  refine r_iadd C (dk_at dk_Pars_part_1 4 rfl) ?_
  refine r_putI C fl_Pars_40 30 (hL.1 30 _ rfl) rfl (dk_at dk_Pars_part_1 5 rfl) (r_sg (fun σ5 e6 => ?_))
  replace h := h σ5 e6
  refine r_aload_n C 0 rfl (dk_at dk_Pars_part_1 6 rfl) ?_
  refine r_getR C fl_Pars_26 30 (hL.1 30 _ rfl) rfl (dk_at dk_Pars_part_1 7 rfl) ?_
  refine r_cvV C cl_Pars_57 20 (hL.1 20 _ rfl) [] (m_Tape_advance hL h) (rmK_ok2 (f := f0) (q := q0) (f' := 1) (q' := 20) (by omega) (by omega)) rfl rfl (Nat.le_of_ble_eq_true rfl) (dk_at dk_Pars_part_1 8 rfl) (fun σ8 h => ?_)
  refine r_iload_n C 1 rfl (dk_at dk_Pars_part_1 9 rfl) ?_
  refine r_iconst C (-1) (dk_at dk_Pars_part_1 10 rfl) ?_
  refine r_icmp_ne C 111 rfl (dk_at dk_Pars_part_1 11 rfl) (fun c9 => ?_) (fun c9 => ?_)
  · replace h := h.1 c9
    refine r_aload_n C 0 rfl (dk_at dk_Pars_part_1 19 rfl) ?_
    refine r_getI C fl_Pars_30 30 (hL.1 30 _ rfl) rfl (dk_at dk_Pars_part_1 20 rfl) ?_
    refine r_if_ne C 123 rfl (dk_at dk_Pars_part_1 21 rfl) (fun c10 => ?_) (fun c10 => ?_)
    · replace h := h.1 c10
      refine r_lv [0, 1] rfl ?_
      exact t_Pars_part_j123 C hL hr0 hr_bracketed ho_bracketed h
    · replace h := h.2 c10
      refine r_iload_n C 1 rfl (dk_at dk_Pars_part_1 22 rfl) ?_
      refine r_iconst C 4 (dk_at dk_Pars_part_1 23 rfl) ?_
      refine r_icmp_ge C 131 rfl (dk_at dk_Pars_part_1 24 rfl) (fun c11 => ?_) (fun c11 => ?_)
      · replace h := h.1 c11
        refine r_aload_n C 0 rfl (dk_at dk_Pars_part_1 29 rfl) ?_
        refine r_iload_n C 1 rfl (dk_at dk_Pars_part_1 30 rfl) ?_
        refine r_cvI C cl_Pars_162 30 (hL.1 30 _ rfl) [.int a2] (m_Pars_numberedWord hL h) (rmK_ok2 (f := f0) (q := q0) (f' := 2) (q' := 45) (by omega) (by omega)) rfl rfl (Nat.le_of_ble_eq_true rfl) (dk_at dk_Pars_part_1 31 rfl) (fun r12 σ13 h => ?_)
        exact r_zret C h.1 h.2 (dk_at dk_Pars_part_1 32 rfl)
      · replace h := h.2 c11
        refine r_lv [0, 1] rfl ?_
        exact t_Pars_part_j123 C hL hr0 hr_bracketed ho_bracketed h
  · replace h := h.2 c9
    refine r_aload_n C 0 rfl (dk_at dk_Pars_part_1 12 rfl) ?_
    refine r_iconst C 0 (dk_at dk_Pars_part_1 13 rfl) ?_
    refine r_iload_n C 2 rfl (dk_at dk_Pars_part_1 14 rfl) ?_
    refine r_cvI C cl_Pars_124 30 (hL.1 30 _ rfl) [.int 0, .int a3] (m_Pars_step hL h) (rmK_ok2 (f := f0) (q := q0) (f' := 0) (q' := 0) (by omega) (by omega)) rfl rfl (Nat.le_of_ble_eq_true rfl) (dk_at dk_Pars_part_1 15 rfl) (fun r14 σ15 h => ?_)
    refine r_pop C rfl (dk_at dk_Pars_part_1 16 rfl) ?_
    refine r_iconst C 1 (dk_at dk_Pars_part_1 17 rfl) ?_
    exact r_zret C (Or.inr rfl) h (dk_at dk_Pars_part_1 18 rfl)
set_option maxRecDepth 20000 in
theorem t_Pars_part_j37 {o_bracketed : DD → Int32 → Int32 → (Int32 → DD → Prop) → Prop} {f0 q0 f_bracketed q_bracketed : Nat} {X : CT} {w : WO} (C : CF X w (lim0 w) 4 cX4_part RX4 (some .boolean) (.code yX4_part cX4_part 4 (some .boolean)) (rmK f0 q0)) {T : TXT} {z : EXa} (hL : LyX w T z) (hr0 : 5 ≤ f0 ∧ 110 ≤ q0) (hr_bracketed : f_bracketed + 1 ≤ f0 ∧ 8 + (3 + 11) + q_bracketed ≤ q0) (ho_bracketed : ∀ (σ : DD) (a1 : Int32) (a2 : Int32) (post : Int32 → DD → Prop), o_bracketed σ a1 a2 post → MI X.l w yX4_bracketed cX4_bracketed 3 .boolean (rmK f_bracketed q_bracketed) σ [.ref (wAd w 30), .int a1, .int a2] post) {post : Int32 → DD → Prop} {t1 : Nat} {σ : DD} (h : w_Pars_part_j37 T o_bracketed post σ t1) : gW X w (lim0 w) 4 (QI X w post) σ 37 [(0, .ref (wAd w 30))] [.ref (z.2.1 t1), .ref (wAd w 20)] := by
  unfold w_Pars_part_j37 at h
  obtain ⟨q16, h⟩ := h
  refine r_cvI C cl_Pars_96 20 (hL.1 20 _ rfl) [.ref (z.2.1 t1)] (m_Tape_indexAmong hL q16 h) (rmK_ok2 (f := f0) (q := q0) (f' := 4) (q' := 85) (by omega) (by omega)) rfl rfl (Nat.le_of_ble_eq_true rfl) (dk_at dk_Pars_part_0 18 rfl) (fun r17 σ18 h => ?_)
  refine r_istore_n C [(2, .int r17), (0, .ref (wAd w 30))] rfl rfl (dk_at dk_Pars_part_0 19 rfl) ?_
  refine r_aload_n C 1 rfl (dk_at dk_Pars_part_0 20 rfl) ?_
  refine r_getR C fl_Pars_26 30 (hL.1 30 _ rfl) rfl (dk_at dk_Pars_part_0 21 rfl) ?_
  refine r_cvI C cl_Pars_115 20 (hL.1 20 _ rfl) [] (m_Tape_number hL h) (rmK_ok2 (f := f0) (q := q0) (f' := 1) (q' := 23) (by omega) (by omega)) rfl rfl (Nat.le_of_ble_eq_true rfl) (dk_at dk_Pars_part_0 22 rfl) (fun r19 σ20 h => ?_)
  refine r_istore_n C [(3, .int r19), (2, .int r17), (0, .ref (wAd w 30))] rfl rfl (dk_at dk_Pars_part_0 23 rfl) ?_
  refine r_aload_n C 2 rfl (dk_at dk_Pars_part_0 24 rfl) ?_
  refine r_getI C fl_Pars_40 30 (hL.1 30 _ rfl) rfl (dk_at dk_Pars_part_0 25 rfl) ?_
  refine r_bipush C 50 (dk_at dk_Pars_part_0 26 rfl) ?_
  refine r_icmp_ge C 75 rfl (dk_at dk_Pars_part_0 27 rfl) (fun c21 => ?_) (fun c21 => ?_)
  · replace h := h.1 c21
    refine r_lv [2] rfl ?_
    exact t_Pars_part_j75 C hL hr0 hr_bracketed ho_bracketed h
  · replace h := h.2 c21
    refine r_iload_n C 0 rfl (dk_at dk_Pars_part_0 28 rfl) ?_
    refine r_sipush C 1000 (dk_at dk_Pars_part_0 29 rfl) ?_
    refine r_icmp_gt C 75 rfl (dk_at dk_Pars_part_0 30 rfl) (fun c22 => ?_) (fun c22 => ?_)
    · replace h := h.1 c22
      refine r_lv [2] rfl ?_
      exact t_Pars_part_j75 C hL hr0 hr_bracketed ho_bracketed h
    · replace h := h.2 c22
      refine r_iload_n C 1 rfl (dk_at dk_Pars_part_0 31 rfl) ?_
      refine r_iconst C (-1) (dk_at dk_Pars_part_0 32 rfl) ?_
      refine r_icmp_ne C 80 rfl (dk_at dk_Pars_part_0 33 rfl) (fun c23 => ?_) (fun c23 => ?_)
      · replace h := h.1 c23
        refine r_lv [2, 1, 0] rfl ?_
        exact t_Pars_part_j80 C hL hr0 hr_bracketed ho_bracketed h
      · replace h := h.2 c23
        refine r_iload_n C 0 rfl (dk_at dk_Pars_part_0 34 rfl) ?_
        refine r_iconst C (-1) (dk_at dk_Pars_part_0 35 rfl) ?_
        refine r_icmp_ne C 80 rfl (dk_at dk_Pars_part_0 36 rfl) (fun c24 => ?_) (fun c24 => ?_)
        · replace h := h.1 c24
          refine r_lv [2, 1, 0] rfl ?_
          exact t_Pars_part_j80 C hL hr0 hr_bracketed ho_bracketed h
        · replace h := h.2 c24
          refine r_lv [2] rfl ?_
          exact t_Pars_part_j75 C hL hr0 hr_bracketed ho_bracketed h
set_option maxRecDepth 20000 in
theorem m_Pars_part_o {l : Launch} {w : WO} {T : TXT} {z : EXa} (hL : LyX w T z) {o_bracketed : DD → Int32 → Int32 → (Int32 → DD → Prop) → Prop} {f0 q0 f_bracketed q_bracketed : Nat} (hr0 : 5 ≤ f0 ∧ 110 ≤ q0) (hr_bracketed : f_bracketed + 1 ≤ f0 ∧ 8 + (3 + 11) + q_bracketed ≤ q0) (ho_bracketed : ∀ (σ : DD) (a1 : Int32) (a2 : Int32) (post : Int32 → DD → Prop), o_bracketed σ a1 a2 post → MI l w yX4_bracketed cX4_bracketed 3 .boolean (rmK f_bracketed q_bracketed) σ [.ref (wAd w 30), .int a1, .int a2] post) {σ : DD} {a1 : Int32} {post : Int32 → DD → Prop} (h : w_Pars_part_o T o_bracketed σ a1 post) : MI l w yX4_part cX4_part 4 .boolean (rmK f0 q0) σ [.ref (wAd w 30), .int a1] post :=
  met_head (rt := (some .boolean)) (by decide) rfl (fun X hX C => by
  subst hX
  unfold w_Pars_part_o at h
  show gW X w (lim0 w) 4 (QI X w post) σ 0 [(0, .ref (wAd w 30)), (1, .int a1)] []
  refine r_aload_n C 0 rfl (dk_at dk_Pars_part_0 0 rfl) ?_
  refine r_getR C fl_Pars_26 30 (hL.1 30 _ rfl) rfl (dk_at dk_Pars_part_0 1 rfl) ?_
  refine r_bipush C 91 (dk_at dk_Pars_part_0 2 rfl) ?_
  refine r_cvI C cl_Pars_53 20 (hL.1 20 _ rfl) [.int 91] (m_Tape_isSign hL h) (rmK_ok2 (f := f0) (q := q0) (f' := 0) (q' := 0) (by omega) (by omega)) rfl rfl (Nat.le_of_ble_eq_true rfl) (dk_at dk_Pars_part_0 3 rfl) (fun r25 σ26 h => ?_)
  refine r_if_eq C 19 rfl (dk_at dk_Pars_part_0 4 rfl) (fun c27 => ?_) (fun c27 => ?_)
  · replace h := h.1 c27
    refine r_aload_n C 0 rfl (dk_at dk_Pars_part_0 10 rfl) ?_
    refine r_getR C fl_Pars_26 30 (hL.1 30 _ rfl) rfl (dk_at dk_Pars_part_0 11 rfl) ?_
    refine r_aload_n C 0 rfl (dk_at dk_Pars_part_0 12 rfl) ?_
    refine r_getI C fl_Pars_30 30 (hL.1 30 _ rfl) rfl (dk_at dk_Pars_part_0 13 rfl) ?_
    refine r_if_eq C 35 rfl (dk_at dk_Pars_part_0 14 rfl) (fun c28 => ?_) (fun c28 => ?_)
    · replace h := h.1 c28
      refine r_ldcS C (hL.2.2 _ _ C.z) rfl 5 (by decide) rfl (dk_at dk_Pars_part_0 17 rfl) ?_
      refine r_lv [0] rfl ?_
      exact t_Pars_part_j37 C hL hr0 hr_bracketed ho_bracketed h
    · replace h := h.2 c28
      refine r_ldcS C (hL.2.2 _ _ C.z) rfl 4 (by decide) rfl (dk_at dk_Pars_part_0 15 rfl) ?_
      refine r_goto C 37 rfl (dk_at dk_Pars_part_0 16 rfl) ?_
      refine r_lv [0] rfl ?_
      exact t_Pars_part_j37 C hL hr0 hr_bracketed ho_bracketed h
  · replace h := h.2 c27
    refine r_aload_n C 0 rfl (dk_at dk_Pars_part_0 5 rfl) ?_
    refine r_iload_n C 1 rfl (dk_at dk_Pars_part_0 6 rfl) ?_
    refine r_iconst C 0 (dk_at dk_Pars_part_0 7 rfl) ?_
    refine r_cvI C cl_Pars_139 30 (hL.1 30 _ rfl) [.int a1, .int 0] (ho_bracketed _ _ _ _ h) (rmK_ok2 hr_bracketed.1 hr_bracketed.2) rfl rfl (Nat.le_of_ble_eq_true rfl) (dk_at dk_Pars_part_0 8 rfl) (fun r29 σ30 h => ?_)
    exact r_zret C h.1 h.2 (dk_at dk_Pars_part_0 9 rfl)
  )
set_option maxRecDepth 20000 in
theorem t_Pars_plain_j32 {o_bracketed : DD → Int32 → Int32 → (Int32 → DD → Prop) → Prop} {o_comparison : DD → Int32 → (Int32 → DD → Prop) → Prop} {f0 q0 f_bracketed q_bracketed f_comparison q_comparison : Nat} {X : CT} {w : WO} (C : CF X w (lim0 w) 4 cX4_plain RX4 (some .boolean) (.code yX4_plain cX4_plain 4 (some .boolean)) (rmK f0 q0)) {T : TXT} {z : EXa} (hL : LyX w T z) (hr0 : 6 ≤ f0 ∧ 131 ≤ q0) (hr_bracketed : f_bracketed + 1 ≤ f0 ∧ 8 + (3 + 11) + q_bracketed ≤ q0) (hr_comparison : f_comparison + 1 ≤ f0 ∧ 8 + (4 + 11) + q_comparison ≤ q0) (ho_bracketed : ∀ (σ : DD) (a1 : Int32) (a2 : Int32) (post : Int32 → DD → Prop), o_bracketed σ a1 a2 post → MI X.l w yX4_bracketed cX4_bracketed 3 .boolean (rmK f_bracketed q_bracketed) σ [.ref (wAd w 30), .int a1, .int a2] post) (ho_comparison : ∀ (σ : DD) (a1 : Int32) (post : Int32 → DD → Prop), o_comparison σ a1 post → MI X.l w yX4_comparison cX4_comparison 4 .boolean (rmK f_comparison q_comparison) σ [.ref (wAd w 30), .int a1] post) {K4 : DD → Int32 → Int32 → Prop} {post : Int32 → DD → Prop} {a1 : Int32} {a3 : Int32} {t0 : Int32} (k4 : ∀ (σ : DD) (a2 : Int32) (a3 : Int32), K4 σ a2 a3 → gW X w (lim0 w) 4 (QI X w post) σ 4 [(0, .ref (wAd w 30)), (1, .int a1), (2, .int a2), (3, .int a3)] []) {σ : DD} (h : w_Pars_plain_j32 T o_bracketed o_comparison K4 post σ a1 a3 t0) : gW X w (lim0 w) 4 (QI X w post) σ 32 [(0, .ref (wAd w 30)), (1, .int a1), (3, .int a3)] [.int t0] := by
  unfold w_Pars_plain_j32 at h
  refine r_istore_n C [(2, .int t0), (0, .ref (wAd w 30)), (1, .int a1), (3, .int a3)] rfl rfl (dk_at dk_Pars_plain_0 17 rfl) ?_
  refine r_aload_n C 1 rfl (dk_at dk_Pars_plain_0 18 rfl) ?_
  refine r_getR C fl_Pars_26 30 (hL.1 30 _ rfl) rfl (dk_at dk_Pars_plain_0 19 rfl) ?_
  refine r_cvV C cl_Pars_57 20 (hL.1 20 _ rfl) [] (m_Tape_advance hL h) (rmK_ok2 (f := f0) (q := q0) (f' := 1) (q' := 20) (by omega) (by omega)) rfl rfl (Nat.le_of_ble_eq_true rfl) (dk_at dk_Pars_plain_0 20 rfl) (fun σ2 h => ?_)
  refine r_iinc C 3 rfl rfl [(3, .int (a3 + 1)), (2, .int t0), (0, .ref (wAd w 30)), (1, .int a1)] rfl rfl (dk_at dk_Pars_plain_0 21 rfl) ?_
  refine r_goto C 4 rfl (dk_at dk_Pars_plain_0 22 rfl) ?_
  refine r_lv [2, 3, 1, 0] rfl ?_
  exact k4 _ _ _ h
set_option maxRecDepth 20000 in
theorem t_Pars_plain_j72 {o_bracketed : DD → Int32 → Int32 → (Int32 → DD → Prop) → Prop} {o_comparison : DD → Int32 → (Int32 → DD → Prop) → Prop} {f0 q0 f_bracketed q_bracketed f_comparison q_comparison : Nat} {X : CT} {w : WO} (C : CF X w (lim0 w) 4 cX4_plain RX4 (some .boolean) (.code yX4_plain cX4_plain 4 (some .boolean)) (rmK f0 q0)) {T : TXT} {z : EXa} (hL : LyX w T z) (hr0 : 6 ≤ f0 ∧ 131 ≤ q0) (hr_bracketed : f_bracketed + 1 ≤ f0 ∧ 8 + (3 + 11) + q_bracketed ≤ q0) (hr_comparison : f_comparison + 1 ≤ f0 ∧ 8 + (4 + 11) + q_comparison ≤ q0) (ho_bracketed : ∀ (σ : DD) (a1 : Int32) (a2 : Int32) (post : Int32 → DD → Prop), o_bracketed σ a1 a2 post → MI X.l w yX4_bracketed cX4_bracketed 3 .boolean (rmK f_bracketed q_bracketed) σ [.ref (wAd w 30), .int a1, .int a2] post) (ho_comparison : ∀ (σ : DD) (a1 : Int32) (post : Int32 → DD → Prop), o_comparison σ a1 post → MI X.l w yX4_comparison cX4_comparison 4 .boolean (rmK f_comparison q_comparison) σ [.ref (wAd w 30), .int a1] post) {post : Int32 → DD → Prop} {a2 : Int32} {t0 : Int32} {σ : DD} (h : w_Pars_plain_j72 T o_bracketed o_comparison post σ a2 t0) : gW X w (lim0 w) 4 (QI X w post) σ 72 [(0, .ref (wAd w 30)), (2, .int a2)] [.int t0] := by
  unfold w_Pars_plain_j72 at h
  refine r_istore_n C [(3, .int t0), (0, .ref (wAd w 30)), (2, .int a2)] rfl rfl (dk_at dk_Pars_plain_0 36 rfl) ?_
  refine r_iload_n C 0 rfl (dk_at dk_Pars_plain_0 37 rfl) ?_
  refine r_if_eq C 88 rfl (dk_at dk_Pars_plain_0 38 rfl) (fun c3 => ?_) (fun c3 => ?_)
  · replace h := h.1 c3
    refine r_iload_n C 0 rfl (dk_at dk_Pars_plain_1 6 rfl) ?_
    exact r_zret C h.1 h.2 (dk_at dk_Pars_plain_1 7 rfl)
  · replace h := h.2 c3
    refine r_iload_n C 2 rfl (dk_at dk_Pars_plain_0 39 rfl) ?_
    refine r_if_eq C 88 rfl (dk_at dk_Pars_plain_1 0 rfl) (fun c4 => ?_) (fun c4 => ?_)
    · replace h := h.1 c4
      refine r_iload_n C 0 rfl (dk_at dk_Pars_plain_1 6 rfl) ?_
      exact r_zret C h.1 h.2 (dk_at dk_Pars_plain_1 7 rfl)
    · replace h := h.2 c4
      refine r_aload_n C 1 rfl (dk_at dk_Pars_plain_1 1 rfl) ?_
      refine r_iconst C 2 (dk_at dk_Pars_plain_1 2 rfl) ?_
      refine r_iconst C 0 (dk_at dk_Pars_plain_1 3 rfl) ?_
      refine r_cvI C cl_Pars_124 30 (hL.1 30 _ rfl) [.int 2, .int 0] (m_Pars_step hL h) (rmK_ok2 (f := f0) (q := q0) (f' := 0) (q' := 0) (by omega) (by omega)) rfl rfl (Nat.le_of_ble_eq_true rfl) (dk_at dk_Pars_plain_1 4 rfl) (fun r5 σ6 h => ?_)
      refine r_pop C rfl (dk_at dk_Pars_plain_1 5 rfl) ?_
      refine r_iload_n C 0 rfl (dk_at dk_Pars_plain_1 6 rfl) ?_
      exact r_zret C h.1 h.2 (dk_at dk_Pars_plain_1 7 rfl)
set_option maxRecDepth 20000 in
theorem t_Pars_plain_j46 {o_bracketed : DD → Int32 → Int32 → (Int32 → DD → Prop) → Prop} {o_comparison : DD → Int32 → (Int32 → DD → Prop) → Prop} {f0 q0 f_bracketed q_bracketed f_comparison q_comparison : Nat} {X : CT} {w : WO} (C : CF X w (lim0 w) 4 cX4_plain RX4 (some .boolean) (.code yX4_plain cX4_plain 4 (some .boolean)) (rmK f0 q0)) {T : TXT} {z : EXa} (hL : LyX w T z) (hr0 : 6 ≤ f0 ∧ 131 ≤ q0) (hr_bracketed : f_bracketed + 1 ≤ f0 ∧ 8 + (3 + 11) + q_bracketed ≤ q0) (hr_comparison : f_comparison + 1 ≤ f0 ∧ 8 + (4 + 11) + q_comparison ≤ q0) (ho_bracketed : ∀ (σ : DD) (a1 : Int32) (a2 : Int32) (post : Int32 → DD → Prop), o_bracketed σ a1 a2 post → MI X.l w yX4_bracketed cX4_bracketed 3 .boolean (rmK f_bracketed q_bracketed) σ [.ref (wAd w 30), .int a1, .int a2] post) (ho_comparison : ∀ (σ : DD) (a1 : Int32) (post : Int32 → DD → Prop), o_comparison σ a1 post → MI X.l w yX4_comparison cX4_comparison 4 .boolean (rmK f_comparison q_comparison) σ [.ref (wAd w 30), .int a1] post) {post : Int32 → DD → Prop} {a1 : Int32} {a2 : Int32} {σ : DD} (h : w_Pars_plain_j46 T o_bracketed o_comparison post σ a1 a2) : gW X w (lim0 w) 4 (QI X w post) σ 46 [(0, .ref (wAd w 30)), (1, .int a1), (2, .int a2)] [] := by
  unfold w_Pars_plain_j46 at h
  refine r_aload_n C 0 rfl (dk_at dk_Pars_plain_0 23 rfl) ?_
  refine r_getR C fl_Pars_26 30 (hL.1 30 _ rfl) rfl (dk_at dk_Pars_plain_0 24 rfl) ?_
  refine r_bipush C 40 (dk_at dk_Pars_plain_0 25 rfl) ?_
  refine r_cvI C cl_Pars_53 20 (hL.1 20 _ rfl) [.int 40] (m_Tape_isSign hL h) (rmK_ok2 (f := f0) (q := q0) (f' := 0) (q' := 0) (by omega) (by omega)) rfl rfl (Nat.le_of_ble_eq_true rfl) (dk_at dk_Pars_plain_0 26 rfl) (fun r7 σ8 h => ?_)
  refine r_if_eq C 67 rfl (dk_at dk_Pars_plain_0 27 rfl) (fun c9 => ?_) (fun c9 => ?_)
  · replace h := h.1 c9
    refine r_aload_n C 0 rfl (dk_at dk_Pars_plain_0 33 rfl) ?_
    refine r_iload_n C 1 rfl (dk_at dk_Pars_plain_0 34 rfl) ?_
    refine r_cvI C cl_Pars_143 30 (hL.1 30 _ rfl) [.int a1] (ho_comparison _ _ _ h) (rmK_ok2 hr_comparison.1 hr_comparison.2) rfl rfl (Nat.le_of_ble_eq_true rfl) (dk_at dk_Pars_plain_0 35 rfl) (fun r10 σ11 h => ?_)
    refine r_lv [0, 2] rfl ?_
    exact t_Pars_plain_j72 C hL hr0 hr_bracketed hr_comparison ho_bracketed ho_comparison h
  · replace h := h.2 c9
    refine r_aload_n C 0 rfl (dk_at dk_Pars_plain_0 28 rfl) ?_
    refine r_iload_n C 1 rfl (dk_at dk_Pars_plain_0 29 rfl) ?_
    refine r_iconst C 1 (dk_at dk_Pars_plain_0 30 rfl) ?_
    refine r_cvI C cl_Pars_139 30 (hL.1 30 _ rfl) [.int a1, .int 1] (ho_bracketed _ _ _ _ h) (rmK_ok2 hr_bracketed.1 hr_bracketed.2) rfl rfl (Nat.le_of_ble_eq_true rfl) (dk_at dk_Pars_plain_0 31 rfl) (fun r12 σ13 h => ?_)
    refine r_goto C 72 rfl (dk_at dk_Pars_plain_0 32 rfl) ?_
    refine r_lv [0, 2] rfl ?_
    exact t_Pars_plain_j72 C hL hr0 hr_bracketed hr_comparison ho_bracketed ho_comparison h
set_option maxRecDepth 20000 in
theorem t_Pars_plain_b4 {o_bracketed : DD → Int32 → Int32 → (Int32 → DD → Prop) → Prop} {o_comparison : DD → Int32 → (Int32 → DD → Prop) → Prop} {f0 q0 f_bracketed q_bracketed f_comparison q_comparison : Nat} {X : CT} {w : WO} (C : CF X w (lim0 w) 4 cX4_plain RX4 (some .boolean) (.code yX4_plain cX4_plain 4 (some .boolean)) (rmK f0 q0)) {T : TXT} {z : EXa} (hL : LyX w T z) (hr0 : 6 ≤ f0 ∧ 131 ≤ q0) (hr_bracketed : f_bracketed + 1 ≤ f0 ∧ 8 + (3 + 11) + q_bracketed ≤ q0) (hr_comparison : f_comparison + 1 ≤ f0 ∧ 8 + (4 + 11) + q_comparison ≤ q0) (ho_bracketed : ∀ (σ : DD) (a1 : Int32) (a2 : Int32) (post : Int32 → DD → Prop), o_bracketed σ a1 a2 post → MI X.l w yX4_bracketed cX4_bracketed 3 .boolean (rmK f_bracketed q_bracketed) σ [.ref (wAd w 30), .int a1, .int a2] post) (ho_comparison : ∀ (σ : DD) (a1 : Int32) (post : Int32 → DD → Prop), o_comparison σ a1 post → MI X.l w yX4_comparison cX4_comparison 4 .boolean (rmK f_comparison q_comparison) σ [.ref (wAd w 30), .int a1] post) {a1 : Int32} {K4 : DD → Int32 → Int32 → Prop} {post : Int32 → DD → Prop} (k4 : ∀ (σ : DD) (a2 : Int32) (a3 : Int32), K4 σ a2 a3 → gW X w (lim0 w) 4 (QI X w post) σ 4 [(0, .ref (wAd w 30)), (1, .int a1), (2, .int a2), (3, .int a3)] []) {σ : DD} {a2 : Int32} {a3 : Int32} (h : w_Pars_plain_b4 T o_bracketed o_comparison a1 K4 post σ a2 a3) : gW X w (lim0 w) 4 (QI X w post) σ 4 [(0, .ref (wAd w 30)), (1, .int a1), (2, .int a2), (3, .int a3)] [] := by
  unfold w_Pars_plain_b4 at h
  refine r_iload_n C 3 rfl (dk_at dk_Pars_plain_0 4 rfl) ?_
  refine r_sipush C 400 (dk_at dk_Pars_plain_0 5 rfl) ?_
  refine r_icmp_ge C 46 rfl (dk_at dk_Pars_plain_0 6 rfl) (fun c14 => ?_) (fun c14 => ?_)
  · replace h := h.1 c14
    refine r_lv [0, 1, 2] rfl ?_
    exact t_Pars_plain_j46 C hL hr0 hr_bracketed hr_comparison ho_bracketed ho_comparison h
  · replace h := h.2 c14
    refine r_aload_n C 0 rfl (dk_at dk_Pars_plain_0 7 rfl) ?_
    refine r_getR C fl_Pars_26 30 (hL.1 30 _ rfl) rfl (dk_at dk_Pars_plain_0 8 rfl) ?_
    refine r_ldcS C (hL.2.2 _ _ C.z) rfl 1 (by decide) rfl (dk_at dk_Pars_plain_0 9 rfl) ?_
    refine r_cvI C cl_Pars_87 20 (hL.1 20 _ rfl) [.ref (z.2.1 1)] (m_Tape_isWord hL (by decide) h) (rmK_ok2 (f := f0) (q := q0) (f' := 5) (q' := 110) (by omega) (by omega)) rfl rfl (Nat.le_of_ble_eq_true rfl) (dk_at dk_Pars_plain_0 10 rfl) (fun r15 σ16 h => ?_)
    refine r_if_eq C 46 rfl (dk_at dk_Pars_plain_0 11 rfl) (fun c17 => ?_) (fun c17 => ?_)
    · replace h := h.1 c17
      refine r_lv [0, 1, 2] rfl ?_
      exact t_Pars_plain_j46 C hL hr0 hr_bracketed hr_comparison ho_bracketed ho_comparison h
    · replace h := h.2 c17
      refine r_iload_n C 2 rfl (dk_at dk_Pars_plain_0 12 rfl) ?_
      refine r_if_ne C 31 rfl (dk_at dk_Pars_plain_0 13 rfl) (fun c18 => ?_) (fun c18 => ?_)
      · replace h := h.1 c18
        refine r_iconst C 0 (dk_at dk_Pars_plain_0 16 rfl) ?_
        refine r_lv [0, 1, 3] rfl ?_
        exact t_Pars_plain_j32 C hL hr0 hr_bracketed hr_comparison ho_bracketed ho_comparison k4 h
      · replace h := h.2 c18
        refine r_iconst C 1 (dk_at dk_Pars_plain_0 14 rfl) ?_
        refine r_goto C 32 rfl (dk_at dk_Pars_plain_0 15 rfl) ?_
        refine r_lv [0, 1, 3] rfl ?_
        exact t_Pars_plain_j32 C hL hr0 hr_bracketed hr_comparison ho_bracketed ho_comparison k4 h
set_option maxRecDepth 20000 in
theorem t_Pars_plain_l4 {o_bracketed : DD → Int32 → Int32 → (Int32 → DD → Prop) → Prop} {o_comparison : DD → Int32 → (Int32 → DD → Prop) → Prop} {f0 q0 f_bracketed q_bracketed f_comparison q_comparison : Nat} {X : CT} {w : WO} (C : CF X w (lim0 w) 4 cX4_plain RX4 (some .boolean) (.code yX4_plain cX4_plain 4 (some .boolean)) (rmK f0 q0)) {T : TXT} {z : EXa} (hL : LyX w T z) (hr0 : 6 ≤ f0 ∧ 131 ≤ q0) (hr_bracketed : f_bracketed + 1 ≤ f0 ∧ 8 + (3 + 11) + q_bracketed ≤ q0) (hr_comparison : f_comparison + 1 ≤ f0 ∧ 8 + (4 + 11) + q_comparison ≤ q0) (ho_bracketed : ∀ (σ : DD) (a1 : Int32) (a2 : Int32) (post : Int32 → DD → Prop), o_bracketed σ a1 a2 post → MI X.l w yX4_bracketed cX4_bracketed 3 .boolean (rmK f_bracketed q_bracketed) σ [.ref (wAd w 30), .int a1, .int a2] post) (ho_comparison : ∀ (σ : DD) (a1 : Int32) (post : Int32 → DD → Prop), o_comparison σ a1 post → MI X.l w yX4_comparison cX4_comparison 4 .boolean (rmK f_comparison q_comparison) σ [.ref (wAd w 30), .int a1] post) {a1 : Int32} {post : Int32 → DD → Prop} {σ : DD} {a2 : Int32} {a3 : Int32} (h : w_Pars_plain_l4 T o_bracketed o_comparison post σ a1 a2 a3) : gW X w (lim0 w) 4 (QI X w post) σ 4 [(0, .ref (wAd w 30)), (1, .int a1), (2, .int a2), (3, .int a3)] [] :=
  LoopW (G := fun x : DD × Int32 × Int32 => gW X w (lim0 w) 4 (QI X w post) x.1 4 [(0, .ref (wAd w 30)), (1, .int a1), (2, .int x.2.1), (3, .int x.2.2)] []) (fun K x hK hF => t_Pars_plain_b4 C hL hr0 hr_bracketed hr_comparison ho_bracketed ho_comparison (fun σ a2 a3 q => hK (σ, a2, a3) q) hF) h
set_option maxRecDepth 20000 in
theorem m_Pars_plain_o {l : Launch} {w : WO} {T : TXT} {z : EXa} (hL : LyX w T z) {o_bracketed : DD → Int32 → Int32 → (Int32 → DD → Prop) → Prop} {o_comparison : DD → Int32 → (Int32 → DD → Prop) → Prop} {f0 q0 f_bracketed q_bracketed f_comparison q_comparison : Nat} (hr0 : 6 ≤ f0 ∧ 131 ≤ q0) (hr_bracketed : f_bracketed + 1 ≤ f0 ∧ 8 + (3 + 11) + q_bracketed ≤ q0) (hr_comparison : f_comparison + 1 ≤ f0 ∧ 8 + (4 + 11) + q_comparison ≤ q0) (ho_bracketed : ∀ (σ : DD) (a1 : Int32) (a2 : Int32) (post : Int32 → DD → Prop), o_bracketed σ a1 a2 post → MI l w yX4_bracketed cX4_bracketed 3 .boolean (rmK f_bracketed q_bracketed) σ [.ref (wAd w 30), .int a1, .int a2] post) (ho_comparison : ∀ (σ : DD) (a1 : Int32) (post : Int32 → DD → Prop), o_comparison σ a1 post → MI l w yX4_comparison cX4_comparison 4 .boolean (rmK f_comparison q_comparison) σ [.ref (wAd w 30), .int a1] post) {σ : DD} {a1 : Int32} {post : Int32 → DD → Prop} (h : w_Pars_plain_o T o_bracketed o_comparison σ a1 post) : MI l w yX4_plain cX4_plain 4 .boolean (rmK f0 q0) σ [.ref (wAd w 30), .int a1] post :=
  met_head (rt := (some .boolean)) (by decide) rfl (fun X hX C => by
  subst hX
  unfold w_Pars_plain_o at h
  show gW X w (lim0 w) 4 (QI X w post) σ 0 [(0, .ref (wAd w 30)), (1, .int a1)] []
  refine r_iconst C 0 (dk_at dk_Pars_plain_0 0 rfl) ?_
  refine r_istore_n C [(2, .int 0), (0, .ref (wAd w 30)), (1, .int a1)] rfl rfl (dk_at dk_Pars_plain_0 1 rfl) ?_
  refine r_iconst C 0 (dk_at dk_Pars_plain_0 2 rfl) ?_
  refine r_istore_n C [(3, .int 0), (2, .int 0), (0, .ref (wAd w 30)), (1, .int a1)] rfl rfl (dk_at dk_Pars_plain_0 3 rfl) ?_
  refine r_lv [2, 3, 1, 0] rfl ?_
  exact t_Pars_plain_l4 C hL hr0 hr_bracketed hr_comparison ho_bracketed ho_comparison h
  )
set_option maxRecDepth 20000 in
theorem t_Pars_product_b8 {o_part : DD → Int32 → (Int32 → DD → Prop) → Prop} {f0 q0 f_part q_part : Nat} {X : CT} {w : WO} (C : CF X w (lim0 w) 5 cX4_product RX4 (some .boolean) (.code yX4_product cX4_product 5 (some .boolean)) (rmK f0 q0)) {T : TXT} {z : EXa} (hL : LyX w T z) (hr0 : 2 ≤ f0 ∧ 41 ≤ q0) (hr_part : f_part + 1 ≤ f0 ∧ 8 + (4 + 11) + q_part ≤ q0) (ho_part : ∀ (σ : DD) (a1 : Int32) (post : Int32 → DD → Prop), o_part σ a1 post → MI X.l w yX4_part cX4_part 4 .boolean (rmK f_part q_part) σ [.ref (wAd w 30), .int a1] post) {a1 : Int32} {K8 : DD → Int32 → Int32 → Prop} {post : Int32 → DD → Prop} (k8 : ∀ (σ : DD) (a2 : Int32) (a3 : Int32), K8 σ a2 a3 → gW X w (lim0 w) 5 (QI X w post) σ 8 [(0, .ref (wAd w 30)), (1, .int a1), (2, .int a2), (3, .int a3)] []) {σ : DD} {a2 : Int32} {a3 : Int32} (h : w_Pars_product_b8 T o_part a1 K8 post σ a2 a3) : gW X w (lim0 w) 5 (QI X w post) σ 8 [(0, .ref (wAd w 30)), (1, .int a1), (2, .int a2), (3, .int a3)] [] := by
  unfold w_Pars_product_b8 at h
  refine r_iload_n C 3 rfl (dk_at dk_Pars_product_0 6 rfl) ?_
  refine r_sipush C 400 (dk_at dk_Pars_product_0 7 rfl) ?_
  refine r_icmp_ge C 60 rfl (dk_at dk_Pars_product_0 8 rfl) (fun c1 => ?_) (fun c1 => ?_)
  · replace h := h.1 c1
    refine r_iload_n C 2 rfl (dk_at dk_Pars_product_0 33 rfl) ?_
    exact r_zret C h.1 h.2 (dk_at dk_Pars_product_0 34 rfl)
  · replace h := h.2 c1
    refine r_iload_n C 2 rfl (dk_at dk_Pars_product_0 9 rfl) ?_
    refine r_if_eq C 60 rfl (dk_at dk_Pars_product_0 10 rfl) (fun c2 => ?_) (fun c2 => ?_)
    · replace h := h.1 c2
      refine r_iload_n C 2 rfl (dk_at dk_Pars_product_0 33 rfl) ?_
      exact r_zret C h.1 h.2 (dk_at dk_Pars_product_0 34 rfl)
    · replace h := h.2 c2
      refine r_aload_n C 0 rfl (dk_at dk_Pars_product_0 11 rfl) ?_
      refine r_cvI C cl_Pars_152 30 (hL.1 30 _ rfl) [] (m_Pars_productSign hL h) (rmK_ok2 (f := f0) (q := q0) (f' := 1) (q' := 21) (by omega) (by omega)) rfl rfl (Nat.le_of_ble_eq_true rfl) (dk_at dk_Pars_product_0 12 rfl) (fun r3 σ4 h => ?_)
      refine r_istore C [(4, .int r3), (0, .ref (wAd w 30)), (1, .int a1), (2, .int a2), (3, .int a3)] rfl rfl (dk_at dk_Pars_product_0 13 rfl) ?_
      refine r_iload C 0 rfl (dk_at dk_Pars_product_0 14 rfl) ?_
      refine r_iconst C (-1) (dk_at dk_Pars_product_0 15 rfl) ?_
      refine r_icmp_ne C 33 rfl (dk_at dk_Pars_product_0 16 rfl) (fun c5 => ?_) (fun c5 => ?_)
      · replace h := h.1 c5
        refine r_aload_n C 1 rfl (dk_at dk_Pars_product_0 19 rfl) ?_
        refine r_getR C fl_Pars_26 30 (hL.1 30 _ rfl) rfl (dk_at dk_Pars_product_0 20 rfl) ?_
        refine r_cvV C cl_Pars_57 20 (hL.1 20 _ rfl) [] (m_Tape_advance hL h) (rmK_ok2 (f := f0) (q := q0) (f' := 1) (q' := 20) (by omega) (by omega)) rfl rfl (Nat.le_of_ble_eq_true rfl) (dk_at dk_Pars_product_0 21 rfl) (fun σ7 h => ?_)
        refine r_aload_n C 1 rfl (dk_at dk_Pars_product_0 22 rfl) ?_
        refine r_iload_n C 2 rfl (dk_at dk_Pars_product_0 23 rfl) ?_
        refine r_cvI C cl_Pars_149 30 (hL.1 30 _ rfl) [.int a1] (ho_part _ _ _ h) (rmK_ok2 hr_part.1 hr_part.2) rfl rfl (Nat.le_of_ble_eq_true rfl) (dk_at dk_Pars_product_0 24 rfl) (fun r8 σ9 h => ?_)
        refine r_istore_n C [(2, .int r8), (4, .int r3), (0, .ref (wAd w 30)), (1, .int a1), (3, .int a3)] rfl rfl (dk_at dk_Pars_product_0 25 rfl) ?_
        refine r_aload_n C 2 rfl (dk_at dk_Pars_product_0 26 rfl) ?_
        refine r_iload C 1 rfl (dk_at dk_Pars_product_0 27 rfl) ?_
        refine r_iconst C 0 (dk_at dk_Pars_product_0 28 rfl) ?_
        refine r_cvI C cl_Pars_124 30 (hL.1 30 _ rfl) [.int r3, .int 0] (m_Pars_step hL h) (rmK_ok2 (f := f0) (q := q0) (f' := 0) (q' := 0) (by omega) (by omega)) rfl rfl (Nat.le_of_ble_eq_true rfl) (dk_at dk_Pars_product_0 29 rfl) (fun r10 σ11 h => ?_)
        refine r_pop C rfl (dk_at dk_Pars_product_0 30 rfl) ?_
        refine r_iinc C 4 rfl rfl [(3, .int (a3 + 1)), (2, .int r8), (4, .int r3), (0, .ref (wAd w 30)), (1, .int a1)] rfl rfl (dk_at dk_Pars_product_0 31 rfl) ?_
        refine r_goto C 8 rfl (dk_at dk_Pars_product_0 32 rfl) ?_
        refine r_lv [3, 4, 1, 0] rfl ?_
        exact k8 _ _ _ h
      · replace h := h.2 c5
        refine r_iconst C 1 (dk_at dk_Pars_product_0 17 rfl) ?_
        exact r_zret C (Or.inr rfl) h (dk_at dk_Pars_product_0 18 rfl)
set_option maxRecDepth 20000 in
theorem t_Pars_product_l8 {o_part : DD → Int32 → (Int32 → DD → Prop) → Prop} {f0 q0 f_part q_part : Nat} {X : CT} {w : WO} (C : CF X w (lim0 w) 5 cX4_product RX4 (some .boolean) (.code yX4_product cX4_product 5 (some .boolean)) (rmK f0 q0)) {T : TXT} {z : EXa} (hL : LyX w T z) (hr0 : 2 ≤ f0 ∧ 41 ≤ q0) (hr_part : f_part + 1 ≤ f0 ∧ 8 + (4 + 11) + q_part ≤ q0) (ho_part : ∀ (σ : DD) (a1 : Int32) (post : Int32 → DD → Prop), o_part σ a1 post → MI X.l w yX4_part cX4_part 4 .boolean (rmK f_part q_part) σ [.ref (wAd w 30), .int a1] post) {a1 : Int32} {post : Int32 → DD → Prop} {σ : DD} {a2 : Int32} {a3 : Int32} (h : w_Pars_product_l8 T o_part post σ a1 a2 a3) : gW X w (lim0 w) 5 (QI X w post) σ 8 [(0, .ref (wAd w 30)), (1, .int a1), (2, .int a2), (3, .int a3)] [] :=
  LoopW (G := fun x : DD × Int32 × Int32 => gW X w (lim0 w) 5 (QI X w post) x.1 8 [(0, .ref (wAd w 30)), (1, .int a1), (2, .int x.2.1), (3, .int x.2.2)] []) (fun K x hK hF => t_Pars_product_b8 C hL hr0 hr_part ho_part (fun σ a2 a3 q => hK (σ, a2, a3) q) hF) h
set_option maxRecDepth 20000 in
theorem m_Pars_product_o {l : Launch} {w : WO} {T : TXT} {z : EXa} (hL : LyX w T z) {o_part : DD → Int32 → (Int32 → DD → Prop) → Prop} {f0 q0 f_part q_part : Nat} (hr0 : 2 ≤ f0 ∧ 41 ≤ q0) (hr_part : f_part + 1 ≤ f0 ∧ 8 + (4 + 11) + q_part ≤ q0) (ho_part : ∀ (σ : DD) (a1 : Int32) (post : Int32 → DD → Prop), o_part σ a1 post → MI l w yX4_part cX4_part 4 .boolean (rmK f_part q_part) σ [.ref (wAd w 30), .int a1] post) {σ : DD} {a1 : Int32} {post : Int32 → DD → Prop} (h : w_Pars_product_o T o_part σ a1 post) : MI l w yX4_product cX4_product 5 .boolean (rmK f0 q0) σ [.ref (wAd w 30), .int a1] post :=
  met_head (rt := (some .boolean)) (by decide) rfl (fun X hX C => by
  subst hX
  unfold w_Pars_product_o at h
  show gW X w (lim0 w) 5 (QI X w post) σ 0 [(0, .ref (wAd w 30)), (1, .int a1)] []
  refine r_aload_n C 0 rfl (dk_at dk_Pars_product_0 0 rfl) ?_
  refine r_iload_n C 1 rfl (dk_at dk_Pars_product_0 1 rfl) ?_
  refine r_cvI C cl_Pars_149 30 (hL.1 30 _ rfl) [.int a1] (ho_part _ _ _ h) (rmK_ok2 hr_part.1 hr_part.2) rfl rfl (Nat.le_of_ble_eq_true rfl) (dk_at dk_Pars_product_0 2 rfl) (fun r12 σ13 h => ?_)
  refine r_istore_n C [(2, .int r12), (0, .ref (wAd w 30)), (1, .int a1)] rfl rfl (dk_at dk_Pars_product_0 3 rfl) ?_
  refine r_iconst C 0 (dk_at dk_Pars_product_0 4 rfl) ?_
  refine r_istore_n C [(3, .int 0), (2, .int r12), (0, .ref (wAd w 30)), (1, .int a1)] rfl rfl (dk_at dk_Pars_product_0 5 rfl) ?_
  refine r_lv [2, 3, 1, 0] rfl ?_
  exact t_Pars_product_l8 C hL hr0 hr_part ho_part h
  )
set_option maxRecDepth 20000 in
theorem t_Pars_sum_j60 {o_product : DD → Int32 → (Int32 → DD → Prop) → Prop} {f0 q0 f_product q_product : Nat} {X : CT} {w : WO} (C : CF X w (lim0 w) 5 cX4_sum RX4 (some .boolean) (.code yX4_sum cX4_sum 5 (some .boolean)) (rmK f0 q0)) {T : TXT} {z : EXa} (hL : LyX w T z) (hr0 : 2 ≤ f0 ∧ 40 ≤ q0) (hr_product : f_product + 1 ≤ f0 ∧ 8 + (5 + 11) + q_product ≤ q0) (ho_product : ∀ (σ : DD) (a1 : Int32) (post : Int32 → DD → Prop), o_product σ a1 post → MI X.l w yX4_product cX4_product 5 .boolean (rmK f_product q_product) σ [.ref (wAd w 30), .int a1] post) {K8 : DD → Int32 → Int32 → Prop} {post : Int32 → DD → Prop} {a1 : Int32} {a3 : Int32} {a4 : Int32} (k8 : ∀ (σ : DD) (a2 : Int32) (a3 : Int32), K8 σ a2 a3 → gW X w (lim0 w) 5 (QI X w post) σ 8 [(0, .ref (wAd w 30)), (1, .int a1), (2, .int a2), (3, .int a3)] []) {σ : DD} (h : w_Pars_sum_j60 T o_product K8 post σ a1 a3 a4) : gW X w (lim0 w) 5 (QI X w post) σ 60 [(0, .ref (wAd w 30)), (1, .int a1), (3, .int a3), (4, .int a4)] [] := by
  unfold w_Pars_sum_j60 at h
  refine r_aload_n C 0 rfl (dk_at dk_Pars_sum_0 30 rfl) ?_
  refine r_getR C fl_Pars_26 30 (hL.1 30 _ rfl) rfl (dk_at dk_Pars_sum_0 31 rfl) ?_
  refine r_cvV C cl_Pars_57 20 (hL.1 20 _ rfl) [] (m_Tape_advance hL h) (rmK_ok2 (f := f0) (q := q0) (f' := 1) (q' := 20) (by omega) (by omega)) rfl rfl (Nat.le_of_ble_eq_true rfl) (dk_at dk_Pars_sum_0 32 rfl) (fun σ2 h => ?_)
  refine r_aload_n C 0 rfl (dk_at dk_Pars_sum_0 33 rfl) ?_
  refine r_iload_n C 1 rfl (dk_at dk_Pars_sum_0 34 rfl) ?_
  refine r_cvI C cl_Pars_146 30 (hL.1 30 _ rfl) [.int a1] (ho_product _ _ _ h) (rmK_ok2 hr_product.1 hr_product.2) rfl rfl (Nat.le_of_ble_eq_true rfl) (dk_at dk_Pars_sum_0 35 rfl) (fun r3 σ4 h => ?_)
  refine r_istore_n C [(2, .int r3), (0, .ref (wAd w 30)), (1, .int a1), (3, .int a3), (4, .int a4)] rfl rfl (dk_at dk_Pars_sum_0 36 rfl) ?_
  refine r_aload_n C 1 rfl (dk_at dk_Pars_sum_0 37 rfl) ?_
  refine r_iload C 4 rfl (dk_at dk_Pars_sum_0 38 rfl) ?_
  refine r_iconst C 0 (dk_at dk_Pars_sum_0 39 rfl) ?_
  refine r_cvI C cl_Pars_124 30 (hL.1 30 _ rfl) [.int a4, .int 0] (m_Pars_step hL h) (rmK_ok2 (f := f0) (q := q0) (f' := 0) (q' := 0) (by omega) (by omega)) rfl rfl (Nat.le_of_ble_eq_true rfl) (dk_at dk_Pars_sum_1 0 rfl) (fun r5 σ6 h => ?_)
  refine r_pop C rfl (dk_at dk_Pars_sum_1 1 rfl) ?_
  refine r_iinc C 3 rfl rfl [(3, .int (a3 + 1)), (2, .int r3), (0, .ref (wAd w 30)), (1, .int a1), (4, .int a4)] rfl rfl (dk_at dk_Pars_sum_1 2 rfl) ?_
  refine r_goto C 8 rfl (dk_at dk_Pars_sum_1 3 rfl) ?_
  refine r_lv [2, 3, 1, 0] rfl ?_
  exact k8 _ _ _ h
set_option maxRecDepth 20000 in
theorem t_Pars_sum_j37 {o_product : DD → Int32 → (Int32 → DD → Prop) → Prop} {f0 q0 f_product q_product : Nat} {X : CT} {w : WO} (C : CF X w (lim0 w) 5 cX4_sum RX4 (some .boolean) (.code yX4_sum cX4_sum 5 (some .boolean)) (rmK f0 q0)) {T : TXT} {z : EXa} (hL : LyX w T z) (hr0 : 2 ≤ f0 ∧ 40 ≤ q0) (hr_product : f_product + 1 ≤ f0 ∧ 8 + (5 + 11) + q_product ≤ q0) (ho_product : ∀ (σ : DD) (a1 : Int32) (post : Int32 → DD → Prop), o_product σ a1 post → MI X.l w yX4_product cX4_product 5 .boolean (rmK f_product q_product) σ [.ref (wAd w 30), .int a1] post) {K8 : DD → Int32 → Int32 → Prop} {post : Int32 → DD → Prop} {a1 : Int32} {a3 : Int32} {t0 : Int32} (k8 : ∀ (σ : DD) (a2 : Int32) (a3 : Int32), K8 σ a2 a3 → gW X w (lim0 w) 5 (QI X w post) σ 8 [(0, .ref (wAd w 30)), (1, .int a1), (2, .int a2), (3, .int a3)] []) {σ : DD} (h : w_Pars_sum_j37 T o_product K8 post σ a1 a3 t0) : gW X w (lim0 w) 5 (QI X w post) σ 37 [(0, .ref (wAd w 30)), (1, .int a1), (3, .int a3)] [.int t0] := by
  unfold w_Pars_sum_j37 at h
  refine r_istore C [(4, .int t0), (0, .ref (wAd w 30)), (1, .int a1), (3, .int a3)] rfl rfl (dk_at dk_Pars_sum_0 19 rfl) ?_
  refine r_iload C 0 rfl (dk_at dk_Pars_sum_0 20 rfl) ?_
  refine r_bipush C 6 (dk_at dk_Pars_sum_0 21 rfl) ?_
  refine r_icmp_ne C 60 rfl (dk_at dk_Pars_sum_0 22 rfl) (fun c7 => ?_) (fun c7 => ?_)
  · replace h := h.1 c7
    refine r_lv [1, 2, 3, 0] rfl ?_
    exact t_Pars_sum_j60 C hL hr0 hr_product ho_product k8 h
  · replace h := h.2 c7
    refine r_aload_n C 1 rfl (dk_at dk_Pars_sum_0 23 rfl) ?_
    refine r_getR C fl_Pars_26 30 (hL.1 30 _ rfl) rfl (dk_at dk_Pars_sum_0 24 rfl) ?_
    refine r_bipush C 45 (dk_at dk_Pars_sum_0 25 rfl) ?_
    refine r_cvI C cl_Pars_53 20 (hL.1 20 _ rfl) [.int 45] (m_Tape_isSign hL h) (rmK_ok2 (f := f0) (q := q0) (f' := 0) (q' := 0) (by omega) (by omega)) rfl rfl (Nat.le_of_ble_eq_true rfl) (dk_at dk_Pars_sum_0 26 rfl) (fun r8 σ9 h => ?_)
    refine r_if_ne C 60 rfl (dk_at dk_Pars_sum_0 27 rfl) (fun c10 => ?_) (fun c10 => ?_)
    · replace h := h.1 c10
      refine r_lv [1, 2, 3, 0] rfl ?_
      exact t_Pars_sum_j60 C hL hr0 hr_product ho_product k8 h
    · replace h := h.2 c10
      refine r_iconst C 1 (dk_at dk_Pars_sum_0 28 rfl) ?_
      exact r_zret C (Or.inr rfl) h (dk_at dk_Pars_sum_0 29 rfl)
set_option maxRecDepth 20000 in
theorem t_Pars_sum_b8 {o_product : DD → Int32 → (Int32 → DD → Prop) → Prop} {f0 q0 f_product q_product : Nat} {X : CT} {w : WO} (C : CF X w (lim0 w) 5 cX4_sum RX4 (some .boolean) (.code yX4_sum cX4_sum 5 (some .boolean)) (rmK f0 q0)) {T : TXT} {z : EXa} (hL : LyX w T z) (hr0 : 2 ≤ f0 ∧ 40 ≤ q0) (hr_product : f_product + 1 ≤ f0 ∧ 8 + (5 + 11) + q_product ≤ q0) (ho_product : ∀ (σ : DD) (a1 : Int32) (post : Int32 → DD → Prop), o_product σ a1 post → MI X.l w yX4_product cX4_product 5 .boolean (rmK f_product q_product) σ [.ref (wAd w 30), .int a1] post) {a1 : Int32} {K8 : DD → Int32 → Int32 → Prop} {post : Int32 → DD → Prop} (k8 : ∀ (σ : DD) (a2 : Int32) (a3 : Int32), K8 σ a2 a3 → gW X w (lim0 w) 5 (QI X w post) σ 8 [(0, .ref (wAd w 30)), (1, .int a1), (2, .int a2), (3, .int a3)] []) {σ : DD} {a2 : Int32} {a3 : Int32} (h : w_Pars_sum_b8 T o_product a1 K8 post σ a2 a3) : gW X w (lim0 w) 5 (QI X w post) σ 8 [(0, .ref (wAd w 30)), (1, .int a1), (2, .int a2), (3, .int a3)] [] := by
  unfold w_Pars_sum_b8 at h
  refine r_iload_n C 3 rfl (dk_at dk_Pars_sum_0 6 rfl) ?_
  refine r_sipush C 400 (dk_at dk_Pars_sum_0 7 rfl) ?_
  refine r_icmp_ge C 87 rfl (dk_at dk_Pars_sum_0 8 rfl) (fun c11 => ?_) (fun c11 => ?_)
  · replace h := h.1 c11
    refine r_iload_n C 2 rfl (dk_at dk_Pars_sum_1 4 rfl) ?_
    exact r_zret C h.1 h.2 (dk_at dk_Pars_sum_1 5 rfl)
  · replace h := h.2 c11
    refine r_iload_n C 2 rfl (dk_at dk_Pars_sum_0 9 rfl) ?_
    refine r_if_eq C 87 rfl (dk_at dk_Pars_sum_0 10 rfl) (fun c12 => ?_) (fun c12 => ?_)
    · replace h := h.1 c12
      refine r_iload_n C 2 rfl (dk_at dk_Pars_sum_1 4 rfl) ?_
      exact r_zret C h.1 h.2 (dk_at dk_Pars_sum_1 5 rfl)
    · replace h := h.2 c12
      refine r_aload_n C 0 rfl (dk_at dk_Pars_sum_0 11 rfl) ?_
      refine r_getR C fl_Pars_26 30 (hL.1 30 _ rfl) rfl (dk_at dk_Pars_sum_0 12 rfl) ?_
      refine r_bipush C 43 (dk_at dk_Pars_sum_0 13 rfl) ?_
      refine r_cvI C cl_Pars_53 20 (hL.1 20 _ rfl) [.int 43] (m_Tape_isSign hL h) (rmK_ok2 (f := f0) (q := q0) (f' := 0) (q' := 0) (by omega) (by omega)) rfl rfl (Nat.le_of_ble_eq_true rfl) (dk_at dk_Pars_sum_0 14 rfl) (fun r13 σ14 h => ?_)
      refine r_if_eq C 35 rfl (dk_at dk_Pars_sum_0 15 rfl) (fun c15 => ?_) (fun c15 => ?_)
      · replace h := h.1 c15
        refine r_bipush C 6 (dk_at dk_Pars_sum_0 18 rfl) ?_
        refine r_lv [0, 1, 3] rfl ?_
        exact t_Pars_sum_j37 C hL hr0 hr_product ho_product k8 h
      · replace h := h.2 c15
        refine r_iconst C 5 (dk_at dk_Pars_sum_0 16 rfl) ?_
        refine r_goto C 37 rfl (dk_at dk_Pars_sum_0 17 rfl) ?_
        refine r_lv [0, 1, 3] rfl ?_
        exact t_Pars_sum_j37 C hL hr0 hr_product ho_product k8 h
set_option maxRecDepth 20000 in
theorem t_Pars_sum_l8 {o_product : DD → Int32 → (Int32 → DD → Prop) → Prop} {f0 q0 f_product q_product : Nat} {X : CT} {w : WO} (C : CF X w (lim0 w) 5 cX4_sum RX4 (some .boolean) (.code yX4_sum cX4_sum 5 (some .boolean)) (rmK f0 q0)) {T : TXT} {z : EXa} (hL : LyX w T z) (hr0 : 2 ≤ f0 ∧ 40 ≤ q0) (hr_product : f_product + 1 ≤ f0 ∧ 8 + (5 + 11) + q_product ≤ q0) (ho_product : ∀ (σ : DD) (a1 : Int32) (post : Int32 → DD → Prop), o_product σ a1 post → MI X.l w yX4_product cX4_product 5 .boolean (rmK f_product q_product) σ [.ref (wAd w 30), .int a1] post) {a1 : Int32} {post : Int32 → DD → Prop} {σ : DD} {a2 : Int32} {a3 : Int32} (h : w_Pars_sum_l8 T o_product post σ a1 a2 a3) : gW X w (lim0 w) 5 (QI X w post) σ 8 [(0, .ref (wAd w 30)), (1, .int a1), (2, .int a2), (3, .int a3)] [] :=
  LoopW (G := fun x : DD × Int32 × Int32 => gW X w (lim0 w) 5 (QI X w post) x.1 8 [(0, .ref (wAd w 30)), (1, .int a1), (2, .int x.2.1), (3, .int x.2.2)] []) (fun K x hK hF => t_Pars_sum_b8 C hL hr0 hr_product ho_product (fun σ a2 a3 q => hK (σ, a2, a3) q) hF) h
set_option maxRecDepth 20000 in
theorem m_Pars_sum_o {l : Launch} {w : WO} {T : TXT} {z : EXa} (hL : LyX w T z) {o_product : DD → Int32 → (Int32 → DD → Prop) → Prop} {f0 q0 f_product q_product : Nat} (hr0 : 2 ≤ f0 ∧ 40 ≤ q0) (hr_product : f_product + 1 ≤ f0 ∧ 8 + (5 + 11) + q_product ≤ q0) (ho_product : ∀ (σ : DD) (a1 : Int32) (post : Int32 → DD → Prop), o_product σ a1 post → MI l w yX4_product cX4_product 5 .boolean (rmK f_product q_product) σ [.ref (wAd w 30), .int a1] post) {σ : DD} {a1 : Int32} {post : Int32 → DD → Prop} (h : w_Pars_sum_o T o_product σ a1 post) : MI l w yX4_sum cX4_sum 5 .boolean (rmK f0 q0) σ [.ref (wAd w 30), .int a1] post :=
  met_head (rt := (some .boolean)) (by decide) rfl (fun X hX C => by
  subst hX
  unfold w_Pars_sum_o at h
  show gW X w (lim0 w) 5 (QI X w post) σ 0 [(0, .ref (wAd w 30)), (1, .int a1)] []
  refine r_aload_n C 0 rfl (dk_at dk_Pars_sum_0 0 rfl) ?_
  refine r_iload_n C 1 rfl (dk_at dk_Pars_sum_0 1 rfl) ?_
  refine r_cvI C cl_Pars_146 30 (hL.1 30 _ rfl) [.int a1] (ho_product _ _ _ h) (rmK_ok2 hr_product.1 hr_product.2) rfl rfl (Nat.le_of_ble_eq_true rfl) (dk_at dk_Pars_sum_0 2 rfl) (fun r16 σ17 h => ?_)
  refine r_istore_n C [(2, .int r16), (0, .ref (wAd w 30)), (1, .int a1)] rfl rfl (dk_at dk_Pars_sum_0 3 rfl) ?_
  refine r_iconst C 0 (dk_at dk_Pars_sum_0 4 rfl) ?_
  refine r_istore_n C [(3, .int 0), (2, .int r16), (0, .ref (wAd w 30)), (1, .int a1)] rfl rfl (dk_at dk_Pars_sum_0 5 rfl) ?_
  refine r_lv [2, 3, 1, 0] rfl ?_
  exact t_Pars_sum_l8 C hL hr0 hr_product ho_product h
  )
set_option maxRecDepth 20000 in
theorem t_Pars_test_b8 {o_both : DD → Int32 → (Int32 → DD → Prop) → Prop} {f0 q0 f_both q_both : Nat} {X : CT} {w : WO} (C : CF X w (lim0 w) 5 cX4_test RX4 (some .boolean) (.code yX4_test cX4_test 5 (some .boolean)) (rmK f0 q0)) {T : TXT} {z : EXa} (hL : LyX w T z) (hr0 : 6 ≤ f0 ∧ 131 ≤ q0) (hr_both : f_both + 1 ≤ f0 ∧ 8 + (5 + 11) + q_both ≤ q0) (ho_both : ∀ (σ : DD) (a1 : Int32) (post : Int32 → DD → Prop), o_both σ a1 post → MI X.l w yX4_both cX4_both 5 .boolean (rmK f_both q_both) σ [.ref (wAd w 30), .int a1] post) {a1 : Int32} {K8 : DD → Int32 → Int32 → Prop} {post : Int32 → DD → Prop} (k8 : ∀ (σ : DD) (a2 : Int32) (a3 : Int32), K8 σ a2 a3 → gW X w (lim0 w) 5 (QI X w post) σ 8 [(0, .ref (wAd w 30)), (1, .int a1), (2, .int a2), (3, .int a3)] []) {σ : DD} {a2 : Int32} {a3 : Int32} (h : w_Pars_test_b8 T o_both a1 K8 post σ a2 a3) : gW X w (lim0 w) 5 (QI X w post) σ 8 [(0, .ref (wAd w 30)), (1, .int a1), (2, .int a2), (3, .int a3)] [] := by
  unfold w_Pars_test_b8 at h
  refine r_iload_n C 3 rfl (dk_at dk_Pars_test_0 6 rfl) ?_
  refine r_sipush C 400 (dk_at dk_Pars_test_0 7 rfl) ?_
  refine r_icmp_ge C 64 rfl (dk_at dk_Pars_test_0 8 rfl) (fun c1 => ?_) (fun c1 => ?_)
  · replace h := h.1 c1
    refine r_iload_n C 2 rfl (dk_at dk_Pars_test_0 33 rfl) ?_
    exact r_zret C h.1 h.2 (dk_at dk_Pars_test_0 34 rfl)
  · replace h := h.2 c1
    refine r_iload_n C 2 rfl (dk_at dk_Pars_test_0 9 rfl) ?_
    refine r_if_eq C 64 rfl (dk_at dk_Pars_test_0 10 rfl) (fun c2 => ?_) (fun c2 => ?_)
    · replace h := h.1 c2
      refine r_iload_n C 2 rfl (dk_at dk_Pars_test_0 33 rfl) ?_
      exact r_zret C h.1 h.2 (dk_at dk_Pars_test_0 34 rfl)
    · replace h := h.2 c2
      refine r_aload_n C 0 rfl (dk_at dk_Pars_test_0 11 rfl) ?_
      refine r_getR C fl_Pars_26 30 (hL.1 30 _ rfl) rfl (dk_at dk_Pars_test_0 12 rfl) ?_
      refine r_ldcS C (hL.2.2 _ _ C.z) rfl 3 (by decide) rfl (dk_at dk_Pars_test_0 13 rfl) ?_
      refine r_cvI C cl_Pars_87 20 (hL.1 20 _ rfl) [.ref (z.2.1 3)] (m_Tape_isWord hL (by decide) h) (rmK_ok2 (f := f0) (q := q0) (f' := 5) (q' := 110) (by omega) (by omega)) rfl rfl (Nat.le_of_ble_eq_true rfl) (dk_at dk_Pars_test_0 14 rfl) (fun r3 σ4 h => ?_)
      refine r_if_eq C 64 rfl (dk_at dk_Pars_test_0 15 rfl) (fun c5 => ?_) (fun c5 => ?_)
      · replace h := h.1 c5
        refine r_iload_n C 2 rfl (dk_at dk_Pars_test_0 33 rfl) ?_
        exact r_zret C h.1 h.2 (dk_at dk_Pars_test_0 34 rfl)
      · replace h := h.2 c5
        refine r_aload_n C 0 rfl (dk_at dk_Pars_test_0 16 rfl) ?_
        refine r_iconst C 4 (dk_at dk_Pars_test_0 17 rfl) ?_
        refine r_iconst C 0 (dk_at dk_Pars_test_0 18 rfl) ?_
        refine r_cvI C cl_Pars_124 30 (hL.1 30 _ rfl) [.int 4, .int 0] (m_Pars_step hL h) (rmK_ok2 (f := f0) (q := q0) (f' := 0) (q' := 0) (by omega) (by omega)) rfl rfl (Nat.le_of_ble_eq_true rfl) (dk_at dk_Pars_test_0 19 rfl) (fun r6 σ7 h => ?_)
        refine r_istore C [(4, .int r6), (0, .ref (wAd w 30)), (1, .int a1), (2, .int a2), (3, .int a3)] rfl rfl (dk_at dk_Pars_test_0 20 rfl) ?_
        refine r_aload_n C 1 rfl (dk_at dk_Pars_test_0 21 rfl) ?_
        refine r_getR C fl_Pars_26 30 (hL.1 30 _ rfl) rfl (dk_at dk_Pars_test_0 22 rfl) ?_
        refine r_cvV C cl_Pars_57 20 (hL.1 20 _ rfl) [] (m_Tape_advance hL h) (rmK_ok2 (f := f0) (q := q0) (f' := 1) (q' := 20) (by omega) (by omega)) rfl rfl (Nat.le_of_ble_eq_true rfl) (dk_at dk_Pars_test_0 23 rfl) (fun σ9 h => ?_)
        refine r_aload_n C 1 rfl (dk_at dk_Pars_test_0 24 rfl) ?_
        refine r_iload_n C 2 rfl (dk_at dk_Pars_test_0 25 rfl) ?_
        refine r_cvI C cl_Pars_119 30 (hL.1 30 _ rfl) [.int a1] (ho_both _ _ _ h) (rmK_ok2 hr_both.1 hr_both.2) rfl rfl (Nat.le_of_ble_eq_true rfl) (dk_at dk_Pars_test_0 26 rfl) (fun r10 σ11 h => ?_)
        refine r_istore_n C [(2, .int r10), (4, .int r6), (0, .ref (wAd w 30)), (1, .int a1), (3, .int a3)] rfl rfl (dk_at dk_Pars_test_0 27 rfl) ?_
        refine r_aload_n C 2 rfl (dk_at dk_Pars_test_0 28 rfl) ?_
        refine r_iload C 1 rfl (dk_at dk_Pars_test_0 29 rfl) ?_
        refine r_cvV C cl_Pars_128 30 (hL.1 30 _ rfl) [.int r6] (m_Pars_land hL h) (rmK_ok2 (f := f0) (q := q0) (f' := 0) (q' := 0) (by omega) (by omega)) rfl rfl (Nat.le_of_ble_eq_true rfl) (dk_at dk_Pars_test_0 30 rfl) (fun σ13 h => ?_)
        refine r_iinc C 4 rfl rfl [(3, .int (a3 + 1)), (2, .int r10), (4, .int r6), (0, .ref (wAd w 30)), (1, .int a1)] rfl rfl (dk_at dk_Pars_test_0 31 rfl) ?_
        refine r_goto C 8 rfl (dk_at dk_Pars_test_0 32 rfl) ?_
        refine r_lv [3, 4, 1, 0] rfl ?_
        exact k8 _ _ _ h
set_option maxRecDepth 20000 in
theorem t_Pars_test_l8 {o_both : DD → Int32 → (Int32 → DD → Prop) → Prop} {f0 q0 f_both q_both : Nat} {X : CT} {w : WO} (C : CF X w (lim0 w) 5 cX4_test RX4 (some .boolean) (.code yX4_test cX4_test 5 (some .boolean)) (rmK f0 q0)) {T : TXT} {z : EXa} (hL : LyX w T z) (hr0 : 6 ≤ f0 ∧ 131 ≤ q0) (hr_both : f_both + 1 ≤ f0 ∧ 8 + (5 + 11) + q_both ≤ q0) (ho_both : ∀ (σ : DD) (a1 : Int32) (post : Int32 → DD → Prop), o_both σ a1 post → MI X.l w yX4_both cX4_both 5 .boolean (rmK f_both q_both) σ [.ref (wAd w 30), .int a1] post) {a1 : Int32} {post : Int32 → DD → Prop} {σ : DD} {a2 : Int32} {a3 : Int32} (h : w_Pars_test_l8 T o_both post σ a1 a2 a3) : gW X w (lim0 w) 5 (QI X w post) σ 8 [(0, .ref (wAd w 30)), (1, .int a1), (2, .int a2), (3, .int a3)] [] :=
  LoopW (G := fun x : DD × Int32 × Int32 => gW X w (lim0 w) 5 (QI X w post) x.1 8 [(0, .ref (wAd w 30)), (1, .int a1), (2, .int x.2.1), (3, .int x.2.2)] []) (fun K x hK hF => t_Pars_test_b8 C hL hr0 hr_both ho_both (fun σ a2 a3 q => hK (σ, a2, a3) q) hF) h
set_option maxRecDepth 20000 in
theorem m_Pars_test_o {l : Launch} {w : WO} {T : TXT} {z : EXa} (hL : LyX w T z) {o_both : DD → Int32 → (Int32 → DD → Prop) → Prop} {f0 q0 f_both q_both : Nat} (hr0 : 6 ≤ f0 ∧ 131 ≤ q0) (hr_both : f_both + 1 ≤ f0 ∧ 8 + (5 + 11) + q_both ≤ q0) (ho_both : ∀ (σ : DD) (a1 : Int32) (post : Int32 → DD → Prop), o_both σ a1 post → MI l w yX4_both cX4_both 5 .boolean (rmK f_both q_both) σ [.ref (wAd w 30), .int a1] post) {σ : DD} {a1 : Int32} {post : Int32 → DD → Prop} (h : w_Pars_test_o T o_both σ a1 post) : MI l w yX4_test cX4_test 5 .boolean (rmK f0 q0) σ [.ref (wAd w 30), .int a1] post :=
  met_head (rt := (some .boolean)) (by decide) rfl (fun X hX C => by
  subst hX
  unfold w_Pars_test_o at h
  show gW X w (lim0 w) 5 (QI X w post) σ 0 [(0, .ref (wAd w 30)), (1, .int a1)] []
  refine r_aload_n C 0 rfl (dk_at dk_Pars_test_0 0 rfl) ?_
  refine r_iload_n C 1 rfl (dk_at dk_Pars_test_0 1 rfl) ?_
  refine r_cvI C cl_Pars_119 30 (hL.1 30 _ rfl) [.int a1] (ho_both _ _ _ h) (rmK_ok2 hr_both.1 hr_both.2) rfl rfl (Nat.le_of_ble_eq_true rfl) (dk_at dk_Pars_test_0 2 rfl) (fun r14 σ15 h => ?_)
  refine r_istore_n C [(2, .int r14), (0, .ref (wAd w 30)), (1, .int a1)] rfl rfl (dk_at dk_Pars_test_0 3 rfl) ?_
  refine r_iconst C 0 (dk_at dk_Pars_test_0 4 rfl) ?_
  refine r_istore_n C [(3, .int 0), (2, .int r14), (0, .ref (wAd w 30)), (1, .int a1)] rfl rfl (dk_at dk_Pars_test_0 5 rfl) ?_
  refine r_lv [2, 3, 1, 0] rfl ?_
  exact t_Pars_test_l8 C hL hr0 hr_both ho_both h
  )
set_option maxRecDepth 20000 in
theorem m_Pars_bracketed_d {l : Launch} {w : WO} {T : TXT} {z : EXa} (hL : LyX w T z) : ∀ d : Nat, ∀ (σ : DD) (a1 : Int32) (a2 : Int32) (post : Int32 → DD → Prop), w_Pars_bracketed_d T d σ a1 a2 post → MI l w yX4_bracketed cX4_bracketed 3 .boolean (rmK (6 + 8 * d) (131 + 187 * d)) σ [.ref (wAd w 30), .int a1, .int a2] post := by
  intro d
  induction d with
  | zero => exact fun _ _ _ _ h => h.elim
  | succ n ih =>
    rw [show 6 + 8 * (n + 1) = 6 + 8 * n + 8 by omega, show 131 + 187 * (n + 1) = 131 + 187 * n + 187 by omega]
    exact (fun _ _ _ _ h => m_Pars_bracketed_o hL (f0 := 6 + 8 * n + 8) (q0 := 131 + 187 * n + 187) (f_sum := 6 + 8 * n + 3) (q_sum := 131 + 187 * n + 69) (f_test := 6 + 8 * n + 7) (q_test := 131 + 187 * n + 163) (by omega) (by omega) (by omega) (fun _ _ _ h => m_Pars_sum_o hL (f0 := 6 + 8 * n + 3) (q0 := 131 + 187 * n + 69) (f_product := 6 + 8 * n + 2) (q_product := 131 + 187 * n + 45) (by omega) (by omega) (fun _ _ _ h => m_Pars_product_o hL (f0 := 6 + 8 * n + 2) (q0 := 131 + 187 * n + 45) (f_part := 6 + 8 * n + 1) (q_part := 131 + 187 * n + 22) (by omega) (by omega) (fun _ _ _ h => m_Pars_part_o hL (f0 := 6 + 8 * n + 1) (q0 := 131 + 187 * n + 22) (f_bracketed := 6 + 8 * n + 0) (q_bracketed := 131 + 187 * n + 0) (by omega) (by omega) ih h) h) h) (fun _ _ _ h => m_Pars_test_o hL (f0 := 6 + 8 * n + 7) (q0 := 131 + 187 * n + 163) (f_both := 6 + 8 * n + 6) (q_both := 131 + 187 * n + 139) (by omega) (by omega) (fun _ _ _ h => m_Pars_both_o hL (f0 := 6 + 8 * n + 6) (q0 := 131 + 187 * n + 139) (f_plain := 6 + 8 * n + 5) (q_plain := 131 + 187 * n + 116) (by omega) (by omega) (fun _ _ _ h => m_Pars_plain_o hL (f0 := 6 + 8 * n + 5) (q0 := 131 + 187 * n + 116) (f_bracketed := 6 + 8 * n + 0) (q_bracketed := 131 + 187 * n + 0) (f_comparison := 6 + 8 * n + 4) (q_comparison := 131 + 187 * n + 93) (by omega) (by omega) (by omega) ih (fun _ _ _ h => m_Pars_comparison_o hL (f0 := 6 + 8 * n + 4) (q0 := 131 + 187 * n + 93) (f_sum := 6 + 8 * n + 3) (q_sum := 131 + 187 * n + 69) (by omega) (by omega) (fun _ _ _ h => m_Pars_sum_o hL (f0 := 6 + 8 * n + 3) (q0 := 131 + 187 * n + 69) (f_product := 6 + 8 * n + 2) (q_product := 131 + 187 * n + 45) (by omega) (by omega) (fun _ _ _ h => m_Pars_product_o hL (f0 := 6 + 8 * n + 2) (q0 := 131 + 187 * n + 45) (f_part := 6 + 8 * n + 1) (q_part := 131 + 187 * n + 22) (by omega) (by omega) (fun _ _ _ h => m_Pars_part_o hL (f0 := 6 + 8 * n + 1) (q0 := 131 + 187 * n + 22) (f_bracketed := 6 + 8 * n + 0) (q_bracketed := 131 + 187 * n + 0) (by omega) (by omega) ih h) h) h) h) h) h) h) h)
set_option maxRecDepth 20000 in
theorem m_Pars_test {l : Launch} {w : WO} {T : TXT} {z : EXa} (hL : LyX w T z) {σ : DD} {a1 : Int32} {post : Int32 → DD → Prop} (h : w_Pars_test T σ a1 post) : MI l w yX4_test cX4_test 5 .boolean (rmK 109 2538) σ [.ref (wAd w 30), .int a1] post :=
  m_Pars_test_o hL (f0 := 6 + 8 * 12 + 7) (q0 := 131 + 187 * 12 + 163) (f_both := 6 + 8 * 12 + 6) (q_both := 131 + 187 * 12 + 139) (by omega) (by omega) (fun _ _ _ h => m_Pars_both_o hL (f0 := 6 + 8 * 12 + 6) (q0 := 131 + 187 * 12 + 139) (f_plain := 6 + 8 * 12 + 5) (q_plain := 131 + 187 * 12 + 116) (by omega) (by omega) (fun _ _ _ h => m_Pars_plain_o hL (f0 := 6 + 8 * 12 + 5) (q0 := 131 + 187 * 12 + 116) (f_bracketed := 6 + 8 * 12 + 0) (q_bracketed := 131 + 187 * 12 + 0) (f_comparison := 6 + 8 * 12 + 4) (q_comparison := 131 + 187 * 12 + 93) (by omega) (by omega) (by omega) (m_Pars_bracketed_d hL 12) (fun _ _ _ h => m_Pars_comparison_o hL (f0 := 6 + 8 * 12 + 4) (q0 := 131 + 187 * 12 + 93) (f_sum := 6 + 8 * 12 + 3) (q_sum := 131 + 187 * 12 + 69) (by omega) (by omega) (fun _ _ _ h => m_Pars_sum_o hL (f0 := 6 + 8 * 12 + 3) (q0 := 131 + 187 * 12 + 69) (f_product := 6 + 8 * 12 + 2) (q_product := 131 + 187 * 12 + 45) (by omega) (by omega) (fun _ _ _ h => m_Pars_product_o hL (f0 := 6 + 8 * 12 + 2) (q0 := 131 + 187 * 12 + 45) (f_part := 6 + 8 * 12 + 1) (q_part := 131 + 187 * 12 + 22) (by omega) (by omega) (fun _ _ _ h => m_Pars_part_o hL (f0 := 6 + 8 * 12 + 1) (q0 := 131 + 187 * 12 + 22) (f_bracketed := 6 + 8 * 12 + 0) (q_bracketed := 131 + 187 * 12 + 0) (by omega) (by omega) (m_Pars_bracketed_d hL 12) h) h) h) h) h) h) h
set_option maxRecDepth 20000 in
theorem m_Pars_sum {l : Launch} {w : WO} {T : TXT} {z : EXa} (hL : LyX w T z) {σ : DD} {a1 : Int32} {post : Int32 → DD → Prop} (h : w_Pars_sum T σ a1 post) : MI l w yX4_sum cX4_sum 5 .boolean (rmK 105 2444) σ [.ref (wAd w 30), .int a1] post :=
  m_Pars_sum_o hL (f0 := 6 + 8 * 12 + 3) (q0 := 131 + 187 * 12 + 69) (f_product := 6 + 8 * 12 + 2) (q_product := 131 + 187 * 12 + 45) (by omega) (by omega) (fun _ _ _ h => m_Pars_product_o hL (f0 := 6 + 8 * 12 + 2) (q0 := 131 + 187 * 12 + 45) (f_part := 6 + 8 * 12 + 1) (q_part := 131 + 187 * 12 + 22) (by omega) (by omega) (fun _ _ _ h => m_Pars_part_o hL (f0 := 6 + 8 * 12 + 1) (q0 := 131 + 187 * 12 + 22) (f_bracketed := 6 + 8 * 12 + 0) (q_bracketed := 131 + 187 * 12 + 0) (by omega) (by omega) (m_Pars_bracketed_d hL 12) h) h) h
set_option maxRecDepth 20000 in
theorem t_Pars_lawBody_j54 {X : CT} {w : WO} (C : CF X w (lim0 w) 4 cX4_lawBody RX4 (some .boolean) (.code yX4_lawBody cX4_lawBody 4 (some .boolean)) (rmK 106 2468)) {T : TXT} {z : EXa} (hL : LyX w T z) {post : Int32 → DD → Prop} {a1 : Int32} {t0 : Int32} {σ : DD} (h : w_Pars_lawBody_j54 T post σ a1 t0) : gW X w (lim0 w) 4 (QI X w post) σ 54 [(0, .ref (wAd w 30)), (1, .int a1)] [.int t0] := by
  unfold w_Pars_lawBody_j54 at h
  refine r_istore_n C [(3, .int t0), (0, .ref (wAd w 30)), (1, .int a1)] rfl rfl (dk_at dk_Pars_lawBody_0 31 rfl) ?_
  refine r_aload_n C 1 rfl (dk_at dk_Pars_lawBody_0 32 rfl) ?_
  refine r_getR C fl_Pars_19 30 (hL.1 30 _ rfl) rfl (dk_at dk_Pars_lawBody_0 33 rfl) ?_
  refine r_iload_n C 2 rfl (dk_at dk_Pars_lawBody_0 34 rfl) ?_
  refine r_iconst C 1 (dk_at dk_Pars_lawBody_0 35 rfl) ?_
  refine r_iadd C (dk_at dk_Pars_lawBody_0 36 rfl) ?_
  refine r_aload_n C 1 rfl (dk_at dk_Pars_lawBody_0 37 rfl) ?_
  refine r_getI C fl_Pars_34 30 (hL.1 30 _ rfl) rfl (dk_at dk_Pars_lawBody_0 38 rfl) ?_
  obtain ⟨q3, h⟩ := h
  refine r_iast C 33 (hL.1 33 _ rfl) q3 (dk_at dk_Pars_lawBody_0 39 rfl) (r_sg (fun σ1 e2 => ?_))
  replace h := h σ1 e2
  refine r_iload_n C 0 rfl (dk_at dk_Pars_lawBody_1 0 rfl) ?_
  exact r_zret C h.1 h.2 (dk_at dk_Pars_lawBody_1 1 rfl)
set_option maxRecDepth 20000 in
theorem t_Pars_lawBody_j49 {X : CT} {w : WO} (C : CF X w (lim0 w) 4 cX4_lawBody RX4 (some .boolean) (.code yX4_lawBody cX4_lawBody 4 (some .boolean)) (rmK 106 2468)) {T : TXT} {z : EXa} (hL : LyX w T z) {post : Int32 → DD → Prop} {a1 : Int32} {σ : DD} (h : w_Pars_lawBody_j49 T post σ a1) : gW X w (lim0 w) 4 (QI X w post) σ 49 [(0, .ref (wAd w 30)), (1, .int a1)] [] := by
  unfold w_Pars_lawBody_j49 at h
  refine r_iconst C 1 (dk_at dk_Pars_lawBody_0 28 rfl) ?_
  refine r_goto C 54 rfl (dk_at dk_Pars_lawBody_0 29 rfl) ?_
  refine r_lv [0, 1] rfl ?_
  exact t_Pars_lawBody_j54 C hL h
set_option maxRecDepth 20000 in
theorem m_Pars_lawBody {l : Launch} {w : WO} {T : TXT} {z : EXa} (hL : LyX w T z) {σ : DD} {a1 : Int32} {post : Int32 → DD → Prop} (h : w_Pars_lawBody T σ a1 post) : MI l w yX4_lawBody cX4_lawBody 4 .boolean (rmK 106 2468) σ [.ref (wAd w 30), .int a1] post :=
  met_head (rt := (some .boolean)) (by decide) rfl (fun X hX C => by
  subst hX
  unfold w_Pars_lawBody at h
  show gW X w (lim0 w) 4 (QI X w post) σ 0 [(0, .ref (wAd w 30)), (1, .int a1)] []
  refine r_aload_n C 0 rfl (dk_at dk_Pars_lawBody_0 0 rfl) ?_
  refine r_getR C fl_Pars_26 30 (hL.1 30 _ rfl) rfl (dk_at dk_Pars_lawBody_0 1 rfl) ?_
  refine r_ldcS C (hL.2.2 _ _ C.z) rfl 0 (by decide) rfl (dk_at dk_Pars_lawBody_0 2 rfl) ?_
  refine r_cvI C cl_Pars_96 20 (hL.1 20 _ rfl) [.ref (z.2.1 0)] (m_Tape_indexAmong hL (by decide) h) (rmK_ok rfl rfl) rfl rfl (Nat.le_of_ble_eq_true rfl) (dk_at dk_Pars_lawBody_0 3 rfl) (fun r4 σ5 h => ?_)
  refine r_istore_n C [(2, .int r4), (0, .ref (wAd w 30)), (1, .int a1)] rfl rfl (dk_at dk_Pars_lawBody_0 4 rfl) ?_
  refine r_iload_n C 0 rfl (dk_at dk_Pars_lawBody_0 5 rfl) ?_
  refine r_iconst C (-1) (dk_at dk_Pars_lawBody_0 6 rfl) ?_
  refine r_icmp_ne C 20 rfl (dk_at dk_Pars_lawBody_0 7 rfl) (fun c6 => ?_) (fun c6 => ?_)
  · replace h := h.1 c6
    refine r_aload_n C 1 rfl (dk_at dk_Pars_lawBody_0 11 rfl) ?_
    refine r_getR C fl_Pars_19 30 (hL.1 30 _ rfl) rfl (dk_at dk_Pars_lawBody_0 12 rfl) ?_
    refine r_iload_n C 2 rfl (dk_at dk_Pars_lawBody_0 13 rfl) ?_
    refine r_iconst C 4 (dk_at dk_Pars_lawBody_0 14 rfl) ?_
    refine r_iadd C (dk_at dk_Pars_lawBody_0 15 rfl) ?_
    refine r_iload_n C 0 rfl (dk_at dk_Pars_lawBody_0 16 rfl) ?_
    obtain ⟨q9, h⟩ := h
    refine r_iast C 33 (hL.1 33 _ rfl) q9 (dk_at dk_Pars_lawBody_0 17 rfl) (r_sg (fun σ7 e8 => ?_))
    replace h := h σ7 e8
    refine r_aload_n C 1 rfl (dk_at dk_Pars_lawBody_0 18 rfl) ?_
    refine r_getR C fl_Pars_26 30 (hL.1 30 _ rfl) rfl (dk_at dk_Pars_lawBody_0 19 rfl) ?_
    refine r_cvV C cl_Pars_57 20 (hL.1 20 _ rfl) [] (m_Tape_advance hL h) (rmK_ok rfl rfl) rfl rfl (Nat.le_of_ble_eq_true rfl) (dk_at dk_Pars_lawBody_0 20 rfl) (fun σ11 h => ?_)
    refine r_iload_n C 0 rfl (dk_at dk_Pars_lawBody_0 21 rfl) ?_
    refine r_iconst C 2 (dk_at dk_Pars_lawBody_0 22 rfl) ?_
    refine r_icmp_eq C 49 rfl (dk_at dk_Pars_lawBody_0 23 rfl) (fun c12 => ?_) (fun c12 => ?_)
    · replace h := h.1 c12
      refine r_lv [1, 2] rfl ?_
      exact t_Pars_lawBody_j49 C hL h
    · replace h := h.2 c12
      refine r_aload_n C 1 rfl (dk_at dk_Pars_lawBody_0 24 rfl) ?_
      refine r_iconst C 0 (dk_at dk_Pars_lawBody_0 25 rfl) ?_
      refine r_cvI C cl_Pars_100 30 (hL.1 30 _ rfl) [.int 0] (m_Pars_sum hL h) (rmK_ok rfl rfl) rfl rfl (Nat.le_of_ble_eq_true rfl) (dk_at dk_Pars_lawBody_0 26 rfl) (fun r13 σ14 h => ?_)
      refine r_if_eq C 53 rfl (dk_at dk_Pars_lawBody_0 27 rfl) (fun c15 => ?_) (fun c15 => ?_)
      · replace h := h.1 c15
        refine r_iconst C 0 (dk_at dk_Pars_lawBody_0 30 rfl) ?_
        refine r_lv [1, 2] rfl ?_
        exact t_Pars_lawBody_j54 C hL h
      · replace h := h.2 c15
        refine r_lv [1, 2] rfl ?_
        exact t_Pars_lawBody_j49 C hL h
  · replace h := h.2 c6
    refine r_aload_n C 1 rfl (dk_at dk_Pars_lawBody_0 8 rfl) ?_
    refine r_cvI C cl_Pars_63 30 (hL.1 30 _ rfl) [] (m_Pars_halt hL h) (rmK_ok rfl rfl) rfl rfl (Nat.le_of_ble_eq_true rfl) (dk_at dk_Pars_lawBody_0 9 rfl) (fun r16 σ17 h => ?_)
    exact r_zret C h.1 h.2 (dk_at dk_Pars_lawBody_0 10 rfl)
  )
set_option maxRecDepth 20000 in
theorem m_Pars_whatByWhom {l : Launch} {w : WO} {T : TXT} {z : EXa} (hL : LyX w T z) {σ : DD} {a1 : Int32} {post : Int32 → DD → Prop} (h : w_Pars_whatByWhom T σ a1 post) : MI l w yX4_whatByWhom cX4_whatByWhom 2 .boolean (rmK 106 2468) σ [.ref (wAd w 30), .int a1] post :=
  met_head (rt := (some .boolean)) (by decide) rfl (fun X hX C => by
  subst hX
  unfold w_Pars_whatByWhom at h
  show gW X w (lim0 w) 2 (QI X w post) σ 0 [(0, .ref (wAd w 30)), (1, .int a1)] []
  refine r_aload_n C 0 rfl (dk_at dk_Pars_whatByWhom_0 0 rfl) ?_
  refine r_iconst C 0 (dk_at dk_Pars_whatByWhom_0 1 rfl) ?_
  refine r_cvI C cl_Pars_100 30 (hL.1 30 _ rfl) [.int 0] (m_Pars_sum hL h) (rmK_ok rfl rfl) rfl rfl (Nat.le_of_ble_eq_true rfl) (dk_at dk_Pars_whatByWhom_0 2 rfl) (fun r1 σ2 h => ?_)
  refine r_if_ne C 10 rfl (dk_at dk_Pars_whatByWhom_0 3 rfl) (fun c3 => ?_) (fun c3 => ?_)
  · replace h := h.1 c3
    refine r_aload_n C 0 rfl (dk_at dk_Pars_whatByWhom_0 6 rfl) ?_
    refine r_getR C fl_Pars_19 30 (hL.1 30 _ rfl) rfl (dk_at dk_Pars_whatByWhom_0 7 rfl) ?_
    refine r_iload_n C 1 rfl (dk_at dk_Pars_whatByWhom_0 8 rfl) ?_
    refine r_iconst C 1 (dk_at dk_Pars_whatByWhom_0 9 rfl) ?_
    refine r_iadd C (dk_at dk_Pars_whatByWhom_0 10 rfl) ?_
    refine r_aload_n C 0 rfl (dk_at dk_Pars_whatByWhom_0 11 rfl) ?_
    refine r_getI C fl_Pars_34 30 (hL.1 30 _ rfl) rfl (dk_at dk_Pars_whatByWhom_0 12 rfl) ?_
    obtain ⟨q6, h⟩ := h
    refine r_iast C 33 (hL.1 33 _ rfl) q6 (dk_at dk_Pars_whatByWhom_0 13 rfl) (r_sg (fun σ4 e5 => ?_))
    replace h := h σ4 e5
    refine r_aload_n C 0 rfl (dk_at dk_Pars_whatByWhom_0 14 rfl) ?_
    refine r_getR C fl_Pars_26 30 (hL.1 30 _ rfl) rfl (dk_at dk_Pars_whatByWhom_0 15 rfl) ?_
    refine r_ldcS C (hL.2.2 _ _ C.z) rfl 7 (by decide) rfl (dk_at dk_Pars_whatByWhom_0 16 rfl) ?_
    refine r_cvI C cl_Pars_87 20 (hL.1 20 _ rfl) [.ref (z.2.1 7)] (m_Tape_isWord hL (by decide) h) (rmK_ok rfl rfl) rfl rfl (Nat.le_of_ble_eq_true rfl) (dk_at dk_Pars_whatByWhom_0 17 rfl) (fun r7 σ8 h => ?_)
    refine r_if_ne C 39 rfl (dk_at dk_Pars_whatByWhom_0 18 rfl) (fun c9 => ?_) (fun c9 => ?_)
    · replace h := h.1 c9
      refine r_aload_n C 0 rfl (dk_at dk_Pars_whatByWhom_0 22 rfl) ?_
      refine r_getR C fl_Pars_26 30 (hL.1 30 _ rfl) rfl (dk_at dk_Pars_whatByWhom_0 23 rfl) ?_
      refine r_cvV C cl_Pars_57 20 (hL.1 20 _ rfl) [] (m_Tape_advance hL h) (rmK_ok rfl rfl) rfl rfl (Nat.le_of_ble_eq_true rfl) (dk_at dk_Pars_whatByWhom_0 24 rfl) (fun σ11 h => ?_)
      refine r_aload_n C 0 rfl (dk_at dk_Pars_whatByWhom_0 25 rfl) ?_
      refine r_iconst C 0 (dk_at dk_Pars_whatByWhom_0 26 rfl) ?_
      refine r_cvI C cl_Pars_100 30 (hL.1 30 _ rfl) [.int 0] (m_Pars_sum hL h) (rmK_ok rfl rfl) rfl rfl (Nat.le_of_ble_eq_true rfl) (dk_at dk_Pars_whatByWhom_0 27 rfl) (fun r12 σ13 h => ?_)
      exact r_zret C h.1 h.2 (dk_at dk_Pars_whatByWhom_0 28 rfl)
    · replace h := h.2 c9
      refine r_aload_n C 0 rfl (dk_at dk_Pars_whatByWhom_0 19 rfl) ?_
      refine r_cvI C cl_Pars_63 30 (hL.1 30 _ rfl) [] (m_Pars_halt hL h) (rmK_ok rfl rfl) rfl rfl (Nat.le_of_ble_eq_true rfl) (dk_at dk_Pars_whatByWhom_0 20 rfl) (fun r14 σ15 h => ?_)
      exact r_zret C h.1 h.2 (dk_at dk_Pars_whatByWhom_0 21 rfl)
  · replace h := h.2 c3
    refine r_iconst C 0 (dk_at dk_Pars_whatByWhom_0 4 rfl) ?_
    exact r_zret C (Or.inl rfl) h (dk_at dk_Pars_whatByWhom_0 5 rfl)
  )
set_option maxRecDepth 20000 in
theorem t_Pars_timesOf_j26 {X : CT} {w : WO} (C : CF X w (lim0 w) 3 cX4_timesOf RX4 (some .boolean) (.code yX4_timesOf cX4_timesOf 3 (some .boolean)) (rmK 2 45)) {T : TXT} {z : EXa} (hL : LyX w T z) {post : Int32 → DD → Prop} {σ : DD} (h : w_Pars_timesOf_j26 T post σ) : gW X w (lim0 w) 3 (QI X w post) σ 26 [(0, .ref (wAd w 30))] [] := by
  unfold w_Pars_timesOf_j26 at h
  refine r_aload_n C 0 rfl (dk_at dk_Pars_timesOf_0 13 rfl) ?_
  refine r_cvI C cl_Pars_63 30 (hL.1 30 _ rfl) [] (m_Pars_halt hL h) (rmK_ok rfl rfl) rfl rfl (Nat.le_of_ble_eq_true rfl) (dk_at dk_Pars_timesOf_0 14 rfl) (fun r1 σ2 h => ?_)
  exact r_zret C h.1 h.2 (dk_at dk_Pars_timesOf_0 15 rfl)
set_option maxRecDepth 20000 in
theorem m_Pars_timesOf {l : Launch} {w : WO} {T : TXT} {z : EXa} (hL : LyX w T z) {σ : DD} {a1 : Int32} {post : Int32 → DD → Prop} (h : w_Pars_timesOf T σ a1 post) : MI l w yX4_timesOf cX4_timesOf 3 .boolean (rmK 2 45) σ [.ref (wAd w 30), .int a1] post :=
  met_head (rt := (some .boolean)) (by decide) rfl (fun X hX C => by
  subst hX
  unfold w_Pars_timesOf at h
  show gW X w (lim0 w) 3 (QI X w post) σ 0 [(0, .ref (wAd w 30)), (1, .int a1)] []
  refine r_aload_n C 0 rfl (dk_at dk_Pars_timesOf_0 0 rfl) ?_
  refine r_getR C fl_Pars_26 30 (hL.1 30 _ rfl) rfl (dk_at dk_Pars_timesOf_0 1 rfl) ?_
  refine r_cvV C cl_Pars_57 20 (hL.1 20 _ rfl) [] (m_Tape_advance hL h) (rmK_ok rfl rfl) rfl rfl (Nat.le_of_ble_eq_true rfl) (dk_at dk_Pars_timesOf_0 2 rfl) (fun σ4 h => ?_)
  refine r_aload_n C 0 rfl (dk_at dk_Pars_timesOf_0 3 rfl) ?_
  refine r_getR C fl_Pars_26 30 (hL.1 30 _ rfl) rfl (dk_at dk_Pars_timesOf_0 4 rfl) ?_
  refine r_cvI C cl_Pars_115 20 (hL.1 20 _ rfl) [] (m_Tape_number hL h) (rmK_ok rfl rfl) rfl rfl (Nat.le_of_ble_eq_true rfl) (dk_at dk_Pars_timesOf_0 5 rfl) (fun r5 σ6 h => ?_)
  refine r_istore_n C [(2, .int r5), (0, .ref (wAd w 30)), (1, .int a1)] rfl rfl (dk_at dk_Pars_timesOf_0 6 rfl) ?_
  refine r_iload_n C 0 rfl (dk_at dk_Pars_timesOf_0 7 rfl) ?_
  refine r_iconst C 1 (dk_at dk_Pars_timesOf_0 8 rfl) ?_
  refine r_icmp_lt C 26 rfl (dk_at dk_Pars_timesOf_0 9 rfl) (fun c7 => ?_) (fun c7 => ?_)
  · replace h := h.1 c7
    refine r_lv [1] rfl ?_
    exact t_Pars_timesOf_j26 C hL h
  · replace h := h.2 c7
    refine r_iload_n C 0 rfl (dk_at dk_Pars_timesOf_0 10 rfl) ?_
    refine r_bipush C 20 (dk_at dk_Pars_timesOf_0 11 rfl) ?_
    refine r_icmp_le C 31 rfl (dk_at dk_Pars_timesOf_0 12 rfl) (fun c8 => ?_) (fun c8 => ?_)
    · replace h := h.1 c8
      refine r_aload_n C 1 rfl (dk_at dk_Pars_timesOf_0 16 rfl) ?_
      refine r_getR C fl_Pars_19 30 (hL.1 30 _ rfl) rfl (dk_at dk_Pars_timesOf_0 17 rfl) ?_
      refine r_iload_n C 2 rfl (dk_at dk_Pars_timesOf_0 18 rfl) ?_
      refine r_iconst C 5 (dk_at dk_Pars_timesOf_0 19 rfl) ?_
      refine r_iadd C (dk_at dk_Pars_timesOf_0 20 rfl) ?_
      refine r_iload_n C 0 rfl (dk_at dk_Pars_timesOf_0 21 rfl) ?_
      obtain ⟨q11, h⟩ := h
      refine r_iast C 33 (hL.1 33 _ rfl) q11 (dk_at dk_Pars_timesOf_0 22 rfl) (r_sg (fun σ9 e10 => ?_))
      replace h := h σ9 e10
      refine r_aload_n C 1 rfl (dk_at dk_Pars_timesOf_0 23 rfl) ?_
      refine r_getR C fl_Pars_26 30 (hL.1 30 _ rfl) rfl (dk_at dk_Pars_timesOf_0 24 rfl) ?_
      refine r_cvV C cl_Pars_57 20 (hL.1 20 _ rfl) [] (m_Tape_advance hL h) (rmK_ok rfl rfl) rfl rfl (Nat.le_of_ble_eq_true rfl) (dk_at dk_Pars_timesOf_0 25 rfl) (fun σ13 h => ?_)
      refine r_iconst C 1 (dk_at dk_Pars_timesOf_0 26 rfl) ?_
      exact r_zret C (Or.inr rfl) h (dk_at dk_Pars_timesOf_0 27 rfl)
    · replace h := h.2 c8
      refine r_lv [1] rfl ?_
      exact t_Pars_timesOf_j26 C hL h
  )
