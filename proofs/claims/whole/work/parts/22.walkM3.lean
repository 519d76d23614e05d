set_option maxRecDepth 20000 in
theorem m_M_triesMorning_d {l : Launch} {w : WO} (hL : LyM w) : ∀ d : Nat, ∀ (σ : DD) (a1 : Int32) (a2 : Int32) (post : DD → Prop), w_M_triesMorning_d d σ a1 a2 post → MV l w yX11_triesMorning cX11_triesMorning 6 (rmK (93 + 1 * d) (2249 + 25 * d)) σ [.ref (wAd w 0), .int a1, .int a2] post := by
  intro d
  induction d with
  | zero => exact fun _ _ _ _ h => h.elim
  | succ n ih =>
    rw [show 93 + 1 * (n + 1) = 93 + 1 * n + 1 by omega, show 2249 + 25 * (n + 1) = 2249 + 25 * n + 25 by omega]
    exact (fun _ _ _ _ h => m_M_triesMorning_o hL (f0 := 93 + 1 * n + 1) (q0 := 2249 + 25 * n + 25) (f_triesMorning := 93 + 1 * n + 0) (q_triesMorning := 2249 + 25 * n + 0) (by omega) (by omega) ih h)
set_option maxRecDepth 20000 in
theorem m_M_triesMorning {l : Launch} {w : WO} (hL : LyM w) {σ : DD} {a1 : Int32} {a2 : Int32} {post : DD → Prop} (h : w_M_triesMorning σ a1 a2 post) : MV l w yX11_triesMorning cX11_triesMorning 6 (rmK 105 2549) σ [.ref (wAd w 0), .int a1, .int a2] post :=
  m_M_triesMorning_d hL 12 _ _ _ _ h
set_option maxRecDepth 20000 in
theorem m_M_mornings {l : Launch} {w : WO} (hL : LyM w) {σ : DD} {a1 : Int32} {a2 : Int32} {a3 : Int32} {a4 : Int32} {a5 : Int32} {post : Int32 → DD → Prop} (h : w_M_mornings σ a1 a2 a3 a4 a5 post) : MI l w yX11_mornings cX11_mornings 6 .int (rmK 106 2574) σ [.ref (wAd w 0), .int a1, .int a2, .int a3, .int a4, .int a5] post :=
  met_head (rt := (some .int)) (by decide) rfl (fun X hX C => by
  subst hX
  unfold w_M_mornings at h
  show gW X w (lim0 w) 6 (QI X w post) σ 0 [(0, .ref (wAd w 0)), (1, .int a1), (2, .int a2), (3, .int a3), (4, .int a4), (5, .int a5)] []
  refine r_aload_n C 0 rfl (dk_at dk_M_mornings_0 0 rfl) ?_
  refine r_iload_n C 1 rfl (dk_at dk_M_mornings_0 1 rfl) ?_
  refine r_cvI C cl_M_359 0 (hL 0 _ rfl) [.int a1] (m_M_areActs hL h) (rmK_ok rfl rfl) rfl rfl (Nat.le_of_ble_eq_true rfl) (dk_at dk_M_mornings_0 2 rfl) (fun r1 σ2 h => ?_)
  refine r_if_eq C 47 rfl (dk_at dk_M_mornings_0 3 rfl) (fun c3 => ?_) (fun c3 => ?_)
  · replace h := h.1 c3
    refine r_iconst C (-1) (dk_at dk_M_mornings_0 24 rfl) ?_
    exact r_iret C h (dk_at dk_M_mornings_0 25 rfl)
  · replace h := h.2 c3
    refine r_aload_n C 0 rfl (dk_at dk_M_mornings_0 4 rfl) ?_
    refine r_iload_n C 2 rfl (dk_at dk_M_mornings_0 5 rfl) ?_
    refine r_cvI C cl_M_359 0 (hL 0 _ rfl) [.int a2] (m_M_areActs hL h) (rmK_ok rfl rfl) rfl rfl (Nat.le_of_ble_eq_true rfl) (dk_at dk_M_mornings_0 6 rfl) (fun r4 σ5 h => ?_)
    refine r_if_eq C 47 rfl (dk_at dk_M_mornings_0 7 rfl) (fun c6 => ?_) (fun c6 => ?_)
    · replace h := h.1 c6
      refine r_iconst C (-1) (dk_at dk_M_mornings_0 24 rfl) ?_
      exact r_iret C h (dk_at dk_M_mornings_0 25 rfl)
    · replace h := h.2 c6
      refine r_aload_n C 0 rfl (dk_at dk_M_mornings_0 8 rfl) ?_
      refine r_iload_n C 3 rfl (dk_at dk_M_mornings_0 9 rfl) ?_
      refine r_cvI C cl_M_322 0 (hL 0 _ rfl) [.int a3] (m_M_isReader hL h) (rmK_ok rfl rfl) rfl rfl (Nat.le_of_ble_eq_true rfl) (dk_at dk_M_mornings_0 10 rfl) (fun r7 σ8 h => ?_)
      refine r_if_eq C 47 rfl (dk_at dk_M_mornings_0 11 rfl) (fun c9 => ?_) (fun c9 => ?_)
      · replace h := h.1 c9
        refine r_iconst C (-1) (dk_at dk_M_mornings_0 24 rfl) ?_
        exact r_iret C h (dk_at dk_M_mornings_0 25 rfl)
      · replace h := h.2 c9
        refine r_iload C 4 rfl (dk_at dk_M_mornings_0 12 rfl) ?_
        refine r_iconst C 1 (dk_at dk_M_mornings_0 13 rfl) ?_
        refine r_iconst C 5 (dk_at dk_M_mornings_0 14 rfl) ?_
        refine r_csI C cs_M_101 [.int a4, .int 1, .int 5] (m_M_lies hL h) (rmK_ok rfl rfl) rfl rfl (Nat.le_of_ble_eq_true rfl) (dk_at dk_M_mornings_0 15 rfl) (fun r10 σ11 h => ?_)
        refine r_if_eq C 47 rfl (dk_at dk_M_mornings_0 16 rfl) (fun c12 => ?_) (fun c12 => ?_)
        · replace h := h.1 c12
          refine r_iconst C (-1) (dk_at dk_M_mornings_0 24 rfl) ?_
          exact r_iret C h (dk_at dk_M_mornings_0 25 rfl)
        · replace h := h.2 c12
          refine r_iload C 5 rfl (dk_at dk_M_mornings_0 17 rfl) ?_
          refine r_iconst C (-1) (dk_at dk_M_mornings_0 18 rfl) ?_
          refine r_iload C 4 rfl (dk_at dk_M_mornings_0 19 rfl) ?_
          refine r_iconst C 1 (dk_at dk_M_mornings_0 20 rfl) ?_
          refine r_isub C (dk_at dk_M_mornings_0 21 rfl) ?_
          refine r_csI C cs_M_101 [.int a5, .int (-1), .int (a4 - 1)] (m_M_lies hL h) (rmK_ok rfl rfl) rfl rfl (Nat.le_of_ble_eq_true rfl) (dk_at dk_M_mornings_0 22 rfl) (fun r13 σ14 h => ?_)
          refine r_if_ne C 49 rfl (dk_at dk_M_mornings_0 23 rfl) (fun c15 => ?_) (fun c15 => ?_)
          · replace h := h.1 c15
            refine r_aload_n C 0 rfl (dk_at dk_M_mornings_0 26 rfl) ?_
            refine r_ldc C tw_1464 (dk_at dk_M_mornings_0 27 rfl) ?_
            refine r_putI C fl_M_341 0 (hL 0 _ rfl) rfl (dk_at dk_M_mornings_0 28 rfl) (r_sg (fun σ16 e17 => ?_))
            replace h := h σ16 e17
            refine r_aload_n C 0 rfl (dk_at dk_M_mornings_0 29 rfl) ?_
            refine r_iload C 4 rfl (dk_at dk_M_mornings_0 30 rfl) ?_
            refine r_putI C fl_M_344 0 (hL 0 _ rfl) rfl (dk_at dk_M_mornings_0 31 rfl) (r_sg (fun σ18 e19 => ?_))
            replace h := h σ18 e19
            refine r_aload_n C 0 rfl (dk_at dk_M_mornings_0 32 rfl) ?_
            refine r_iload_n C 3 rfl (dk_at dk_M_mornings_0 33 rfl) ?_
            refine r_putI C fl_M_353 0 (hL 0 _ rfl) rfl (dk_at dk_M_mornings_0 34 rfl) (r_sg (fun σ20 e21 => ?_))
            replace h := h σ20 e21
            refine r_aload_n C 0 rfl (dk_at dk_M_mornings_0 35 rfl) ?_
            refine r_iload_n C 1 rfl (dk_at dk_M_mornings_0 36 rfl) ?_
            refine r_putI C fl_M_347 0 (hL 0 _ rfl) rfl (dk_at dk_M_mornings_0 37 rfl) (r_sg (fun σ22 e23 => ?_))
            replace h := h σ22 e23
            refine r_aload_n C 0 rfl (dk_at dk_M_mornings_0 38 rfl) ?_
            refine r_iload_n C 2 rfl (dk_at dk_M_mornings_0 39 rfl) ?_
            refine r_putI C fl_M_350 0 (hL 0 _ rfl) rfl (dk_at dk_M_mornings_1 0 rfl) (r_sg (fun σ24 e25 => ?_))
            replace h := h σ24 e25
            refine r_aload_n C 0 rfl (dk_at dk_M_mornings_1 1 rfl) ?_
            refine r_iconst C 0 (dk_at dk_M_mornings_1 2 rfl) ?_
            refine r_iconst C 0 (dk_at dk_M_mornings_1 3 rfl) ?_
            refine r_cvV C cl_M_356 0 (hL 0 _ rfl) [.int 0, .int 0] (m_M_triesMorning hL h) (rmK_ok rfl rfl) rfl rfl (Nat.le_of_ble_eq_true rfl) (dk_at dk_M_mornings_1 4 rfl) (fun σ27 h => ?_)
            refine r_aload_n C 0 rfl (dk_at dk_M_mornings_1 5 rfl) ?_
            refine r_getI C fl_M_341 0 (hL 0 _ rfl) rfl (dk_at dk_M_mornings_1 6 rfl) ?_
            refine r_ldc C tw_1464 (dk_at dk_M_mornings_1 7 rfl) ?_
            refine r_icmp_ne C 95 rfl (dk_at dk_M_mornings_1 8 rfl) (fun c28 => ?_) (fun c28 => ?_)
            · replace h := h.1 c28
              refine r_iload C 5 rfl (dk_at dk_M_mornings_1 11 rfl) ?_
              refine r_iconst C (-1) (dk_at dk_M_mornings_1 12 rfl) ?_
              refine r_icmp_ne C 108 rfl (dk_at dk_M_mornings_1 13 rfl) (fun c29 => ?_) (fun c29 => ?_)
              · replace h := h.1 c29
                refine r_aload_n C 0 rfl (dk_at dk_M_mornings_1 17 rfl) ?_
                refine r_getR C fl_M_70 0 (hL 0 _ rfl) rfl (dk_at dk_M_mornings_1 18 rfl) ?_
                refine r_iload C 5 rfl (dk_at dk_M_mornings_1 19 rfl) ?_
                obtain ⟨q30, h⟩ := h
                refine r_iald C 32 (hL 32 _ rfl) q30 (dk_at dk_M_mornings_1 20 rfl) ?_
                exact r_iret C h (dk_at dk_M_mornings_1 21 rfl)
              · replace h := h.2 c29
                refine r_aload_n C 0 rfl (dk_at dk_M_mornings_1 14 rfl) ?_
                refine r_getI C fl_M_341 0 (hL 0 _ rfl) rfl (dk_at dk_M_mornings_1 15 rfl) ?_
                refine r_goto C 115 rfl (dk_at dk_M_mornings_1 16 rfl) ?_
                exact r_iret C h (dk_at dk_M_mornings_1 21 rfl)
            · replace h := h.2 c28
              refine r_iconst C (-1) (dk_at dk_M_mornings_1 9 rfl) ?_
              refine r_goto C 115 rfl (dk_at dk_M_mornings_1 10 rfl) ?_
              exact r_iret C h (dk_at dk_M_mornings_1 21 rfl)
          · replace h := h.2 c15
            refine r_iconst C (-1) (dk_at dk_M_mornings_0 24 rfl) ?_
            exact r_iret C h (dk_at dk_M_mornings_0 25 rfl)
  )
set_option maxRecDepth 20000 in
theorem t_M_plays_j231 {o_plays : DD → Int32 → Int32 → Int32 → Int32 → Int32 → Int32 → (Int32 → DD → Prop) → Prop} {f0 q0 f_plays q_plays : Nat} {X : CT} {w : WO} (C : CF X w (lim0 w) 13 cX11_plays RX11 (some .int) (.code yX11_plays cX11_plays 13 (some .int)) (rmK f0 q0)) (hL : LyM w) (hr0 : 93 ≤ f0 ∧ 2249 ≤ q0) (hr_plays : f_plays + 1 ≤ f0 ∧ 8 + (13 + 11) + q_plays ≤ q0) (ho_plays : ∀ (σ : DD) (a1 : Int32) (a2 : Int32) (a3 : Int32) (a4 : Int32) (a5 : Int32) (a6 : Int32) (post : Int32 → DD → Prop), o_plays σ a1 a2 a3 a4 a5 a6 post → MI X.l w yX11_plays cX11_plays 13 .int (rmK f_plays q_plays) σ [.ref (wAd w 0), .int a1, .int a2, .int a3, .int a4, .int a5, .int a6] post) {K67 : DD → Int32 → Int32 → Int32 → Prop} {post : Int32 → DD → Prop} {a1 : Int32} {a2 : Int32} {a3 : Int32} {a4 : Int32} {a5 : Int32} {a6 : Int32} {a7 : Int32} {a8 : Int32} {a9 : Int32} {a11 : Int32} {t0 : Int32} (k67 : ∀ (σ : DD) (a9 : Int32) (a10 : Int32) (a11 : Int32), K67 σ a9 a10 a11 → gW X w (lim0 w) 13 (QI X w post) σ 67 [(0, .ref (wAd w 0)), (1, .int a1), (2, .int a2), (3, .int a3), (4, .int a4), (5, .int a5), (6, .int a6), (7, .int a7), (8, .int a8), (9, .int a9), (10, .int a10), (11, .int a11)] []) {σ : DD} (h : w_M_plays_j231 o_plays K67 post σ a1 a2 a3 a4 a5 a6 a7 a8 a9 a11 t0) : gW X w (lim0 w) 13 (QI X w post) σ 231 [(0, .ref (wAd w 0)), (1, .int a1), (2, .int a2), (3, .int a3), (4, .int a4), (5, .int a5), (6, .int a6), (7, .int a7), (8, .int a8), (9, .int a9), (11, .int a11)] [.int t0] := by
  unfold w_M_plays_j231 at h
  refine r_istore C [(10, .int t0), (0, .ref (wAd w 0)), (1, .int a1), (2, .int a2), (3, .int a3), (4, .int a4), (5, .int a5), (6, .int a6), (7, .int a7), (8, .int a8), (9, .int a9), (11, .int a11)] rfl rfl (dk_at dk_M_plays_2 37 rfl) ?_
  refine r_iinc C 11 rfl rfl [(11, .int (a11 + 1)), (10, .int t0), (0, .ref (wAd w 0)), (1, .int a1), (2, .int a2), (3, .int a3), (4, .int a4), (5, .int a5), (6, .int a6), (7, .int a7), (8, .int a8), (9, .int a9)] rfl rfl (dk_at dk_M_plays_2 38 rfl) ?_
  refine r_goto C 67 rfl (dk_at dk_M_plays_2 39 rfl) ?_
  refine r_lv [2, 3, 4, 5, 6, 7, 8, 9, 10, 11, 1, 0] rfl ?_
  exact k67 _ _ _ _ h
set_option maxRecDepth 20000 in
theorem t_M_plays_j207 {o_plays : DD → Int32 → Int32 → Int32 → Int32 → Int32 → Int32 → (Int32 → DD → Prop) → Prop} {f0 q0 f_plays q_plays : Nat} {X : CT} {w : WO} (C : CF X w (lim0 w) 13 cX11_plays RX11 (some .int) (.code yX11_plays cX11_plays 13 (some .int)) (rmK f0 q0)) (hL : LyM w) (hr0 : 93 ≤ f0 ∧ 2249 ≤ q0) (hr_plays : f_plays + 1 ≤ f0 ∧ 8 + (13 + 11) + q_plays ≤ q0) (ho_plays : ∀ (σ : DD) (a1 : Int32) (a2 : Int32) (a3 : Int32) (a4 : Int32) (a5 : Int32) (a6 : Int32) (post : Int32 → DD → Prop), o_plays σ a1 a2 a3 a4 a5 a6 post → MI X.l w yX11_plays cX11_plays 13 .int (rmK f_plays q_plays) σ [.ref (wAd w 0), .int a1, .int a2, .int a3, .int a4, .int a5, .int a6] post) {K67 : DD → Int32 → Int32 → Int32 → Prop} {post : Int32 → DD → Prop} {a1 : Int32} {a2 : Int32} {a3 : Int32} {a4 : Int32} {a5 : Int32} {a6 : Int32} {a7 : Int32} {a8 : Int32} {a11 : Int32} {a12 : Int32} (k67 : ∀ (σ : DD) (a9 : Int32) (a10 : Int32) (a11 : Int32), K67 σ a9 a10 a11 → gW X w (lim0 w) 13 (QI X w post) σ 67 [(0, .ref (wAd w 0)), (1, .int a1), (2, .int a2), (3, .int a3), (4, .int a4), (5, .int a5), (6, .int a6), (7, .int a7), (8, .int a8), (9, .int a9), (10, .int a10), (11, .int a11)] []) {σ : DD} (h : w_M_plays_j207 o_plays K67 post σ a1 a2 a3 a4 a5 a6 a7 a8 a11 a12) : gW X w (lim0 w) 13 (QI X w post) σ 207 [(0, .ref (wAd w 0)), (1, .int a1), (2, .int a2), (3, .int a3), (4, .int a4), (5, .int a5), (6, .int a6), (7, .int a7), (8, .int a8), (11, .int a11), (12, .int a12)] [] := by
  unfold w_M_plays_j207 at h
  refine r_iload C 10 rfl (dk_at dk_M_plays_2 26 rfl) ?_
  refine r_istore C [(9, .int a12), (0, .ref (wAd w 0)), (1, .int a1), (2, .int a2), (3, .int a3), (4, .int a4), (5, .int a5), (6, .int a6), (7, .int a7), (8, .int a8), (11, .int a11), (12, .int a12)] rfl rfl (dk_at dk_M_plays_2 27 rfl) ?_
  refine r_iload C 10 rfl (dk_at dk_M_plays_2 28 rfl) ?_
  refine r_aload_n C 1 rfl (dk_at dk_M_plays_2 29 rfl) ?_
  refine r_getR C fl_M_20 0 (hL 0 _ rfl) rfl (dk_at dk_M_plays_2 30 rfl) ?_
  refine r_sipush C 399 (dk_at dk_M_plays_2 31 rfl) ?_
  refine r_ialdK C 4 (hL 4 _ rfl) lk_399 (vk_399_6012) (dk_at dk_M_plays_2 32 rfl) ?_
  refine r_icmp_ge C 229 rfl (dk_at dk_M_plays_2 33 rfl) (fun c1 => ?_) (fun c1 => ?_)
  · replace h := h.1 c1
    refine r_bipush C 100 (dk_at dk_M_plays_2 36 rfl) ?_
    refine r_lv [1, 2, 3, 4, 5, 6, 7, 8, 9, 0, 10] rfl ?_
    exact t_M_plays_j231 C hL hr0 hr_plays ho_plays k67 h
  · replace h := h.2 c1
    refine r_iload C 10 rfl (dk_at dk_M_plays_2 34 rfl) ?_
    refine r_goto C 231 rfl (dk_at dk_M_plays_2 35 rfl) ?_
    refine r_lv [1, 2, 3, 4, 5, 6, 7, 8, 9, 0, 10] rfl ?_
    exact t_M_plays_j231 C hL hr0 hr_plays ho_plays k67 h
set_option maxRecDepth 20000 in
theorem t_M_plays_j174 {o_plays : DD → Int32 → Int32 → Int32 → Int32 → Int32 → Int32 → (Int32 → DD → Prop) → Prop} {f0 q0 f_plays q_plays : Nat} {X : CT} {w : WO} (C : CF X w (lim0 w) 13 cX11_plays RX11 (some .int) (.code yX11_plays cX11_plays 13 (some .int)) (rmK f0 q0)) (hL : LyM w) (hr0 : 93 ≤ f0 ∧ 2249 ≤ q0) (hr_plays : f_plays + 1 ≤ f0 ∧ 8 + (13 + 11) + q_plays ≤ q0) (ho_plays : ∀ (σ : DD) (a1 : Int32) (a2 : Int32) (a3 : Int32) (a4 : Int32) (a5 : Int32) (a6 : Int32) (post : Int32 → DD → Prop), o_plays σ a1 a2 a3 a4 a5 a6 post → MI X.l w yX11_plays cX11_plays 13 .int (rmK f_plays q_plays) σ [.ref (wAd w 0), .int a1, .int a2, .int a3, .int a4, .int a5, .int a6] post) {K67 : DD → Int32 → Int32 → Int32 → Prop} {post : Int32 → DD → Prop} {a1 : Int32} {a2 : Int32} {a3 : Int32} {a4 : Int32} {a5 : Int32} {a6 : Int32} {a7 : Int32} {a8 : Int32} {a9 : Int32} {a10 : Int32} {a11 : Int32} {a12 : Int32} (k67 : ∀ (σ : DD) (a9 : Int32) (a10 : Int32) (a11 : Int32), K67 σ a9 a10 a11 → gW X w (lim0 w) 13 (QI X w post) σ 67 [(0, .ref (wAd w 0)), (1, .int a1), (2, .int a2), (3, .int a3), (4, .int a4), (5, .int a5), (6, .int a6), (7, .int a7), (8, .int a8), (9, .int a9), (10, .int a10), (11, .int a11)] []) {σ : DD} (h : w_M_plays_j174 o_plays K67 post σ a1 a2 a3 a4 a5 a6 a7 a8 a9 a10 a11 a12) : gW X w (lim0 w) 13 (QI X w post) σ 174 [(0, .ref (wAd w 0)), (1, .int a1), (2, .int a2), (3, .int a3), (4, .int a4), (5, .int a5), (6, .int a6), (7, .int a7), (8, .int a8), (9, .int a9), (10, .int a10), (11, .int a11), (12, .int a12)] [] := by
  unfold w_M_plays_j174 at h
  refine r_iload C 9 rfl (dk_at dk_M_plays_2 13 rfl) ?_
  refine r_sipush C (-1000) (dk_at dk_M_plays_2 14 rfl) ?_
  refine r_icmp_eq C 207 rfl (dk_at dk_M_plays_2 15 rfl) (fun c2 => ?_) (fun c2 => ?_)
  · replace h := h.1 c2
    refine r_lv [0, 1, 2, 3, 4, 5, 6, 7, 8, 11, 12] rfl ?_
    exact t_M_plays_j207 C hL hr0 hr_plays ho_plays k67 h
  · replace h := h.2 c2
    refine r_iload C 8 rfl (dk_at dk_M_plays_2 16 rfl) ?_
    refine r_if_eq C 197 rfl (dk_at dk_M_plays_2 17 rfl) (fun c3 => ?_) (fun c3 => ?_)
    · replace h := h.1 c3
      refine r_iload C 12 rfl (dk_at dk_M_plays_2 22 rfl) ?_
      refine r_iload C 9 rfl (dk_at dk_M_plays_2 23 rfl) ?_
      refine r_icmp_lt C 207 rfl (dk_at dk_M_plays_2 24 rfl) (fun c4 => ?_) (fun c4 => ?_)
      · replace h := h.1 c4
        refine r_lv [0, 1, 2, 3, 4, 5, 6, 7, 8, 11, 12] rfl ?_
        exact t_M_plays_j207 C hL hr0 hr_plays ho_plays k67 h
      · replace h := h.2 c4
        refine r_goto C 233 rfl (dk_at dk_M_plays_2 25 rfl) ?_
        refine r_iinc C 11 rfl rfl [(11, .int (a11 + 1)), (0, .ref (wAd w 0)), (1, .int a1), (2, .int a2), (3, .int a3), (4, .int a4), (5, .int a5), (6, .int a6), (7, .int a7), (8, .int a8), (9, .int a9), (10, .int a10), (12, .int a12)] rfl rfl (dk_at dk_M_plays_2 38 rfl) ?_
        refine r_goto C 67 rfl (dk_at dk_M_plays_2 39 rfl) ?_
        refine r_lv [1, 2, 3, 4, 5, 6, 7, 8, 9, 10, 11, 0] rfl ?_
        exact k67 _ _ _ _ h
    · replace h := h.2 c3
      refine r_iload C 12 rfl (dk_at dk_M_plays_2 18 rfl) ?_
      refine r_iload C 9 rfl (dk_at dk_M_plays_2 19 rfl) ?_
      refine r_icmp_gt C 207 rfl (dk_at dk_M_plays_2 20 rfl) (fun c5 => ?_) (fun c5 => ?_)
      · replace h := h.1 c5
        refine r_lv [0, 1, 2, 3, 4, 5, 6, 7, 8, 11, 12] rfl ?_
        exact t_M_plays_j207 C hL hr0 hr_plays ho_plays k67 h
      · replace h := h.2 c5
        refine r_goto C 233 rfl (dk_at dk_M_plays_2 21 rfl) ?_
        refine r_iinc C 11 rfl rfl [(11, .int (a11 + 1)), (0, .ref (wAd w 0)), (1, .int a1), (2, .int a2), (3, .int a3), (4, .int a4), (5, .int a5), (6, .int a6), (7, .int a7), (8, .int a8), (9, .int a9), (10, .int a10), (12, .int a12)] rfl rfl (dk_at dk_M_plays_2 38 rfl) ?_
        refine r_goto C 67 rfl (dk_at dk_M_plays_2 39 rfl) ?_
        refine r_lv [1, 2, 3, 4, 5, 6, 7, 8, 9, 10, 11, 0] rfl ?_
        exact k67 _ _ _ _ h
set_option maxRecDepth 20000 in
theorem t_M_plays_j132 {o_plays : DD → Int32 → Int32 → Int32 → Int32 → Int32 → Int32 → (Int32 → DD → Prop) → Prop} {f0 q0 f_plays q_plays : Nat} {X : CT} {w : WO} (C : CF X w (lim0 w) 13 cX11_plays RX11 (some .int) (.code yX11_plays cX11_plays 13 (some .int)) (rmK f0 q0)) (hL : LyM w) (hr0 : 93 ≤ f0 ∧ 2249 ≤ q0) (hr_plays : f_plays + 1 ≤ f0 ∧ 8 + (13 + 11) + q_plays ≤ q0) (ho_plays : ∀ (σ : DD) (a1 : Int32) (a2 : Int32) (a3 : Int32) (a4 : Int32) (a5 : Int32) (a6 : Int32) (post : Int32 → DD → Prop), o_plays σ a1 a2 a3 a4 a5 a6 post → MI X.l w yX11_plays cX11_plays 13 .int (rmK f_plays q_plays) σ [.ref (wAd w 0), .int a1, .int a2, .int a3, .int a4, .int a5, .int a6] post) {K67 : DD → Int32 → Int32 → Int32 → Prop} {post : Int32 → DD → Prop} {a1 : Int32} {a2 : Int32} {a3 : Int32} {a4 : Int32} {a5 : Int32} {a6 : Int32} {a7 : Int32} {a8 : Int32} {a9 : Int32} {a10 : Int32} {a11 : Int32} (k67 : ∀ (σ : DD) (a9 : Int32) (a10 : Int32) (a11 : Int32), K67 σ a9 a10 a11 → gW X w (lim0 w) 13 (QI X w post) σ 67 [(0, .ref (wAd w 0)), (1, .int a1), (2, .int a2), (3, .int a3), (4, .int a4), (5, .int a5), (6, .int a6), (7, .int a7), (8, .int a8), (9, .int a9), (10, .int a10), (11, .int a11)] []) {σ : DD} (h : w_M_plays_j132 o_plays K67 post σ a1 a2 a3 a4 a5 a6 a7 a8 a9 a10 a11) : gW X w (lim0 w) 13 (QI X w post) σ 132 [(0, .ref (wAd w 0)), (1, .int a1), (2, .int a2), (3, .int a3), (4, .int a4), (5, .int a5), (6, .int a6), (7, .int a7), (8, .int a8), (9, .int a9), (10, .int a10), (11, .int a11)] [] := by
  unfold w_M_plays_j132 at h
  refine r_aload_n C 0 rfl (dk_at dk_M_plays_1 28 rfl) ?_
  refine r_iload_n C 1 rfl (dk_at dk_M_plays_1 29 rfl) ?_
  refine r_iconst C 1 (dk_at dk_M_plays_1 30 rfl) ?_
  refine r_iadd C (dk_at dk_M_plays_1 31 rfl) ?_
  refine r_iload_n C 2 rfl (dk_at dk_M_plays_1 32 rfl) ?_
  refine r_iload_n C 3 rfl (dk_at dk_M_plays_1 33 rfl) ?_
  refine r_iload C 4 rfl (dk_at dk_M_plays_1 34 rfl) ?_
  refine r_iload C 6 rfl (dk_at dk_M_plays_1 35 rfl) ?_
  refine r_iload C 5 rfl (dk_at dk_M_plays_1 36 rfl) ?_
  refine r_cvI C cl_M_362 0 (hL 0 _ rfl) [.int (a1 + 1), .int a2, .int a3, .int a4, .int a6, .int a5] (ho_plays _ _ _ _ _ _ _ _ h) (rmK_ok2 hr_plays.1 hr_plays.2) rfl rfl (Nat.le_of_ble_eq_true rfl) (dk_at dk_M_plays_1 37 rfl) (fun r6 σ7 h => ?_)
  refine r_istore C [(12, .int r6), (0, .ref (wAd w 0)), (1, .int a1), (2, .int a2), (3, .int a3), (4, .int a4), (5, .int a5), (6, .int a6), (7, .int a7), (8, .int a8), (9, .int a9), (10, .int a10), (11, .int a11)] rfl rfl (dk_at dk_M_plays_1 38 rfl) ?_
  refine r_iload C 12 rfl (dk_at dk_M_plays_1 39 rfl) ?_
  refine r_aload_n C 1 rfl (dk_at dk_M_plays_2 0 rfl) ?_
  refine r_getR C fl_M_20 0 (hL 0 _ rfl) rfl (dk_at dk_M_plays_2 1 rfl) ?_
  refine r_sipush C 399 (dk_at dk_M_plays_2 2 rfl) ?_
  refine r_ialdK C 4 (hL 4 _ rfl) lk_399 (vk_399_6012) (dk_at dk_M_plays_2 3 rfl) ?_
  refine r_icmp_ge C 174 rfl (dk_at dk_M_plays_2 4 rfl) (fun c8 => ?_) (fun c8 => ?_)
  · replace h := h.1 c8
    refine r_lv [1, 2, 3, 4, 5, 6, 7, 8, 9, 10, 11, 12, 0] rfl ?_
    exact t_M_plays_j174 C hL hr0 hr_plays ho_plays k67 h
  · replace h := h.2 c8
    refine r_aload_n C 1 rfl (dk_at dk_M_plays_2 5 rfl) ?_
    refine r_getR C fl_M_20 0 (hL 0 _ rfl) rfl (dk_at dk_M_plays_2 6 rfl) ?_
    refine r_sipush C 401 (dk_at dk_M_plays_2 7 rfl) ?_
    refine r_dup2 C rfl rfl (dk_at dk_M_plays_2 8 rfl) ?_
    refine r_ialdK C 4 (hL 4 _ rfl) lk_401 (vk_401_6012) (dk_at dk_M_plays_2 9 rfl) ?_
    refine r_iconst C 1 (dk_at dk_M_plays_2 10 rfl) ?_
    refine r_isub C (dk_at dk_M_plays_2 11 rfl) ?_
    refine r_iastK C 4 (hL 4 _ rfl) lk_401 vk_401_6012 (dk_at dk_M_plays_2 12 rfl) (r_sg (fun σ9 e10 => ?_))
    replace h := h σ9 e10
    refine r_lv [1, 2, 3, 4, 5, 6, 7, 8, 9, 10, 11, 12, 0] rfl ?_
    exact t_M_plays_j174 C hL hr0 hr_plays ho_plays k67 h
set_option maxRecDepth 20000 in
theorem t_M_plays_j109 {o_plays : DD → Int32 → Int32 → Int32 → Int32 → Int32 → Int32 → (Int32 → DD → Prop) → Prop} {f0 q0 f_plays q_plays : Nat} {X : CT} {w : WO} (C : CF X w (lim0 w) 13 cX11_plays RX11 (some .int) (.code yX11_plays cX11_plays 13 (some .int)) (rmK f0 q0)) (hL : LyM w) (hr0 : 93 ≤ f0 ∧ 2249 ≤ q0) (hr_plays : f_plays + 1 ≤ f0 ∧ 8 + (13 + 11) + q_plays ≤ q0) (ho_plays : ∀ (σ : DD) (a1 : Int32) (a2 : Int32) (a3 : Int32) (a4 : Int32) (a5 : Int32) (a6 : Int32) (post : Int32 → DD → Prop), o_plays σ a1 a2 a3 a4 a5 a6 post → MI X.l w yX11_plays cX11_plays 13 .int (rmK f_plays q_plays) σ [.ref (wAd w 0), .int a1, .int a2, .int a3, .int a4, .int a5, .int a6] post) {K67 : DD → Int32 → Int32 → Int32 → Prop} {post : Int32 → DD → Prop} {a1 : Int32} {a2 : Int32} {a3 : Int32} {a4 : Int32} {a5 : Int32} {a6 : Int32} {a7 : Int32} {a8 : Int32} {a9 : Int32} {a10 : Int32} {a11 : Int32} (k67 : ∀ (σ : DD) (a9 : Int32) (a10 : Int32) (a11 : Int32), K67 σ a9 a10 a11 → gW X w (lim0 w) 13 (QI X w post) σ 67 [(0, .ref (wAd w 0)), (1, .int a1), (2, .int a2), (3, .int a3), (4, .int a4), (5, .int a5), (6, .int a6), (7, .int a7), (8, .int a8), (9, .int a9), (10, .int a10), (11, .int a11)] []) {σ : DD} (h : w_M_plays_j109 o_plays K67 post σ a1 a2 a3 a4 a5 a6 a7 a8 a9 a10 a11) : gW X w (lim0 w) 13 (QI X w post) σ 109 [(0, .ref (wAd w 0)), (1, .int a1), (2, .int a2), (3, .int a3), (4, .int a4), (5, .int a5), (6, .int a6), (7, .int a7), (8, .int a8), (9, .int a9), (10, .int a10), (11, .int a11)] [] := by
  unfold w_M_plays_j109 at h
  refine r_iload C 11 rfl (dk_at dk_M_plays_1 17 rfl) ?_
  refine r_aload_n C 0 rfl (dk_at dk_M_plays_1 18 rfl) ?_
  refine r_getR C fl_M_20 0 (hL 0 _ rfl) rfl (dk_at dk_M_plays_1 19 rfl) ?_
  refine r_sipush C 399 (dk_at dk_M_plays_1 20 rfl) ?_
  refine r_ialdK C 4 (hL 4 _ rfl) lk_399 (vk_399_6012) (dk_at dk_M_plays_1 21 rfl) ?_
  refine r_icmp_ge C 132 rfl (dk_at dk_M_plays_1 22 rfl) (fun c11 => ?_) (fun c11 => ?_)
  · replace h := h.1 c11
    refine r_lv [0, 1, 2, 3, 4, 5, 6, 7, 8, 9, 10, 11] rfl ?_
    exact t_M_plays_j132 C hL hr0 hr_plays ho_plays k67 h
  · replace h := h.2 c11
    refine r_aload_n C 0 rfl (dk_at dk_M_plays_1 23 rfl) ?_
    refine r_iload C 11 rfl (dk_at dk_M_plays_1 24 rfl) ?_
    refine r_iload C 5 rfl (dk_at dk_M_plays_1 25 rfl) ?_
    refine r_iload C 7 rfl (dk_at dk_M_plays_1 26 rfl) ?_
    refine r_cvV C cl_M_328 0 (hL 0 _ rfl) [.int a11, .int a5, .int a7] (m_M_logs hL h) (rmK_ok2 (f := f0) (q := q0) (f' := 0) (q' := 0) (by omega) (by omega)) rfl rfl (Nat.le_of_ble_eq_true rfl) (dk_at dk_M_plays_1 27 rfl) (fun σ13 h => ?_)
    refine r_lv [0, 1, 2, 3, 4, 5, 6, 7, 8, 9, 10, 11] rfl ?_
    exact t_M_plays_j132 C hL hr0 hr_plays ho_plays k67 h
set_option maxRecDepth 20000 in
theorem t_M_plays_b67 {o_plays : DD → Int32 → Int32 → Int32 → Int32 → Int32 → Int32 → (Int32 → DD → Prop) → Prop} {f0 q0 f_plays q_plays : Nat} {X : CT} {w : WO} (C : CF X w (lim0 w) 13 cX11_plays RX11 (some .int) (.code yX11_plays cX11_plays 13 (some .int)) (rmK f0 q0)) (hL : LyM w) (hr0 : 93 ≤ f0 ∧ 2249 ≤ q0) (hr_plays : f_plays + 1 ≤ f0 ∧ 8 + (13 + 11) + q_plays ≤ q0) (ho_plays : ∀ (σ : DD) (a1 : Int32) (a2 : Int32) (a3 : Int32) (a4 : Int32) (a5 : Int32) (a6 : Int32) (post : Int32 → DD → Prop), o_plays σ a1 a2 a3 a4 a5 a6 post → MI X.l w yX11_plays cX11_plays 13 .int (rmK f_plays q_plays) σ [.ref (wAd w 0), .int a1, .int a2, .int a3, .int a4, .int a5, .int a6] post) {a1 : Int32} {a2 : Int32} {a3 : Int32} {a4 : Int32} {a5 : Int32} {a6 : Int32} {a7 : Int32} {a8 : Int32} {K67 : DD → Int32 → Int32 → Int32 → Prop} {post : Int32 → DD → Prop} (k67 : ∀ (σ : DD) (a9 : Int32) (a10 : Int32) (a11 : Int32), K67 σ a9 a10 a11 → gW X w (lim0 w) 13 (QI X w post) σ 67 [(0, .ref (wAd w 0)), (1, .int a1), (2, .int a2), (3, .int a3), (4, .int a4), (5, .int a5), (6, .int a6), (7, .int a7), (8, .int a8), (9, .int a9), (10, .int a10), (11, .int a11)] []) {σ : DD} {a9 : Int32} {a10 : Int32} {a11 : Int32} (h : w_M_plays_b67 o_plays a1 a2 a3 a4 a5 a6 a7 a8 K67 post σ a9 a10 a11) : gW X w (lim0 w) 13 (QI X w post) σ 67 [(0, .ref (wAd w 0)), (1, .int a1), (2, .int a2), (3, .int a3), (4, .int a4), (5, .int a5), (6, .int a6), (7, .int a7), (8, .int a8), (9, .int a9), (10, .int a10), (11, .int a11)] [] := by
  unfold w_M_plays_b67 at h
  refine r_iload C 11 rfl (dk_at dk_M_plays_0 38 rfl) ?_
  refine r_aload_n C 0 rfl (dk_at dk_M_plays_0 39 rfl) ?_
  refine r_getR C fl_M_20 0 (hL 0 _ rfl) rfl (dk_at dk_M_plays_1 0 rfl) ?_
  refine r_sipush C 399 (dk_at dk_M_plays_1 1 rfl) ?_
  refine r_ialdK C 4 (hL 4 _ rfl) lk_399 (vk_399_6012) (dk_at dk_M_plays_1 2 rfl) ?_
  refine r_icmp_gt C 239 rfl (dk_at dk_M_plays_1 3 rfl) (fun c14 => ?_) (fun c14 => ?_)
  · replace h := h.1 c14
    refine r_aload_n C 0 rfl (dk_at dk_M_plays_3 0 rfl) ?_
    refine r_iload C 10 rfl (dk_at dk_M_plays_3 1 rfl) ?_
    refine r_putI C fl_M_366 0 (hL 0 _ rfl) rfl (dk_at dk_M_plays_3 2 rfl) (r_sg (fun σ15 e16 => ?_))
    replace h := h σ15 e16
    refine r_iload C 9 rfl (dk_at dk_M_plays_3 3 rfl) ?_
    exact r_iret C h (dk_at dk_M_plays_3 4 rfl)
  · replace h := h.2 c14
    refine r_iload C 11 rfl (dk_at dk_M_plays_1 4 rfl) ?_
    refine r_aload_n C 0 rfl (dk_at dk_M_plays_1 5 rfl) ?_
    refine r_getR C fl_M_20 0 (hL 0 _ rfl) rfl (dk_at dk_M_plays_1 6 rfl) ?_
    refine r_sipush C 399 (dk_at dk_M_plays_1 7 rfl) ?_
    refine r_ialdK C 4 (hL 4 _ rfl) lk_399 (vk_399_6012) (dk_at dk_M_plays_1 8 rfl) ?_
    refine r_icmp_ge C 109 rfl (dk_at dk_M_plays_1 9 rfl) (fun c17 => ?_) (fun c17 => ?_)
    · replace h := h.1 c17
      refine r_lv [0, 1, 2, 3, 4, 5, 6, 7, 8, 9, 10, 11] rfl ?_
      exact t_M_plays_j109 C hL hr0 hr_plays ho_plays k67 h
    · replace h := h.2 c17
      refine r_aload_n C 0 rfl (dk_at dk_M_plays_1 10 rfl) ?_
      refine r_iload C 11 rfl (dk_at dk_M_plays_1 11 rfl) ?_
      refine r_iload C 5 rfl (dk_at dk_M_plays_1 12 rfl) ?_
      refine r_iload C 7 rfl (dk_at dk_M_plays_1 13 rfl) ?_
      refine r_cvI C cl_M_325 0 (hL 0 _ rfl) [.int a11, .int a5, .int a7] (m_M_canRead hL h) (rmK_ok2 (f := f0) (q := q0) (f' := 92) (q' := 2225) (by omega) (by omega)) rfl rfl (Nat.le_of_ble_eq_true rfl) (dk_at dk_M_plays_1 14 rfl) (fun r18 σ19 h => ?_)
      refine r_if_ne C 109 rfl (dk_at dk_M_plays_1 15 rfl) (fun c20 => ?_) (fun c20 => ?_)
      · replace h := h.1 c20
        refine r_lv [0, 1, 2, 3, 4, 5, 6, 7, 8, 9, 10, 11] rfl ?_
        exact t_M_plays_j109 C hL hr0 hr_plays ho_plays k67 h
      · replace h := h.2 c20
        refine r_goto C 233 rfl (dk_at dk_M_plays_1 16 rfl) ?_
        refine r_iinc C 11 rfl rfl [(11, .int (a11 + 1)), (0, .ref (wAd w 0)), (1, .int a1), (2, .int a2), (3, .int a3), (4, .int a4), (5, .int a5), (6, .int a6), (7, .int a7), (8, .int a8), (9, .int a9), (10, .int a10)] rfl rfl (dk_at dk_M_plays_2 38 rfl) ?_
        refine r_goto C 67 rfl (dk_at dk_M_plays_2 39 rfl) ?_
        refine r_lv [1, 2, 3, 4, 5, 6, 7, 8, 9, 10, 11, 0] rfl ?_
        exact k67 _ _ _ _ h
set_option maxRecDepth 20000 in
theorem t_M_plays_l67 {o_plays : DD → Int32 → Int32 → Int32 → Int32 → Int32 → Int32 → (Int32 → DD → Prop) → Prop} {f0 q0 f_plays q_plays : Nat} {X : CT} {w : WO} (C : CF X w (lim0 w) 13 cX11_plays RX11 (some .int) (.code yX11_plays cX11_plays 13 (some .int)) (rmK f0 q0)) (hL : LyM w) (hr0 : 93 ≤ f0 ∧ 2249 ≤ q0) (hr_plays : f_plays + 1 ≤ f0 ∧ 8 + (13 + 11) + q_plays ≤ q0) (ho_plays : ∀ (σ : DD) (a1 : Int32) (a2 : Int32) (a3 : Int32) (a4 : Int32) (a5 : Int32) (a6 : Int32) (post : Int32 → DD → Prop), o_plays σ a1 a2 a3 a4 a5 a6 post → MI X.l w yX11_plays cX11_plays 13 .int (rmK f_plays q_plays) σ [.ref (wAd w 0), .int a1, .int a2, .int a3, .int a4, .int a5, .int a6] post) {a1 : Int32} {a2 : Int32} {a3 : Int32} {a4 : Int32} {a5 : Int32} {a6 : Int32} {a7 : Int32} {a8 : Int32} {post : Int32 → DD → Prop} {σ : DD} {a9 : Int32} {a10 : Int32} {a11 : Int32} (h : w_M_plays_l67 o_plays post σ a1 a2 a3 a4 a5 a6 a7 a8 a9 a10 a11) : gW X w (lim0 w) 13 (QI X w post) σ 67 [(0, .ref (wAd w 0)), (1, .int a1), (2, .int a2), (3, .int a3), (4, .int a4), (5, .int a5), (6, .int a6), (7, .int a7), (8, .int a8), (9, .int a9), (10, .int a10), (11, .int a11)] [] :=
  LoopW (G := fun x : DD × Int32 × Int32 × Int32 => gW X w (lim0 w) 13 (QI X w post) x.1 67 [(0, .ref (wAd w 0)), (1, .int a1), (2, .int a2), (3, .int a3), (4, .int a4), (5, .int a5), (6, .int a6), (7, .int a7), (8, .int a8), (9, .int x.2.1), (10, .int x.2.2.1), (11, .int x.2.2.2)] []) (fun K x hK hF => t_M_plays_b67 C hL hr0 hr_plays ho_plays (fun σ a9 a10 a11 q => hK (σ, a9, a10, a11) q) hF) h
set_option maxRecDepth 20000 in
theorem t_M_plays_j53 {o_plays : DD → Int32 → Int32 → Int32 → Int32 → Int32 → Int32 → (Int32 → DD → Prop) → Prop} {f0 q0 f_plays q_plays : Nat} {X : CT} {w : WO} (C : CF X w (lim0 w) 13 cX11_plays RX11 (some .int) (.code yX11_plays cX11_plays 13 (some .int)) (rmK f0 q0)) (hL : LyM w) (hr0 : 93 ≤ f0 ∧ 2249 ≤ q0) (hr_plays : f_plays + 1 ≤ f0 ∧ 8 + (13 + 11) + q_plays ≤ q0) (ho_plays : ∀ (σ : DD) (a1 : Int32) (a2 : Int32) (a3 : Int32) (a4 : Int32) (a5 : Int32) (a6 : Int32) (post : Int32 → DD → Prop), o_plays σ a1 a2 a3 a4 a5 a6 post → MI X.l w yX11_plays cX11_plays 13 .int (rmK f_plays q_plays) σ [.ref (wAd w 0), .int a1, .int a2, .int a3, .int a4, .int a5, .int a6] post) {post : Int32 → DD → Prop} {a1 : Int32} {a2 : Int32} {a3 : Int32} {a4 : Int32} {a5 : Int32} {a6 : Int32} {a7 : Int32} {t0 : Int32} {σ : DD} (h : w_M_plays_j53 o_plays post σ a1 a2 a3 a4 a5 a6 a7 t0) : gW X w (lim0 w) 13 (QI X w post) σ 53 [(0, .ref (wAd w 0)), (1, .int a1), (2, .int a2), (3, .int a3), (4, .int a4), (5, .int a5), (6, .int a6), (7, .int a7)] [.int t0] := by
  unfold w_M_plays_j53 at h
  refine r_istore C [(8, .int t0), (0, .ref (wAd w 0)), (1, .int a1), (2, .int a2), (3, .int a3), (4, .int a4), (5, .int a5), (6, .int a6), (7, .int a7)] rfl rfl (dk_at dk_M_plays_0 31 rfl) ?_
  refine r_sipush C (-1000) (dk_at dk_M_plays_0 32 rfl) ?_
  refine r_istore C [(9, .int (-1000)), (8, .int t0), (0, .ref (wAd w 0)), (1, .int a1), (2, .int a2), (3, .int a3), (4, .int a4), (5, .int a5), (6, .int a6), (7, .int a7)] rfl rfl (dk_at dk_M_plays_0 33 rfl) ?_
  refine r_bipush C 100 (dk_at dk_M_plays_0 34 rfl) ?_
  refine r_istore C [(10, .int 100), (9, .int (-1000)), (8, .int t0), (0, .ref (wAd w 0)), (1, .int a1), (2, .int a2), (3, .int a3), (4, .int a4), (5, .int a5), (6, .int a6), (7, .int a7)] rfl rfl (dk_at dk_M_plays_0 35 rfl) ?_
  refine r_iconst C 0 (dk_at dk_M_plays_0 36 rfl) ?_
  refine r_istore C [(11, .int 0), (10, .int 100), (9, .int (-1000)), (8, .int t0), (0, .ref (wAd w 0)), (1, .int a1), (2, .int a2), (3, .int a3), (4, .int a4), (5, .int a5), (6, .int a6), (7, .int a7)] rfl rfl (dk_at dk_M_plays_0 37 rfl) ?_
  refine r_lv [4, 5, 6, 7, 8, 9, 10, 11, 3, 2, 1, 0] rfl ?_
  exact t_M_plays_l67 C hL hr0 hr_plays ho_plays h
set_option maxRecDepth 20000 in
theorem m_M_plays_o {l : Launch} {w : WO} (hL : LyM w) {o_plays : DD → Int32 → Int32 → Int32 → Int32 → Int32 → Int32 → (Int32 → DD → Prop) → Prop} {f0 q0 f_plays q_plays : Nat} (hr0 : 93 ≤ f0 ∧ 2249 ≤ q0) (hr_plays : f_plays + 1 ≤ f0 ∧ 8 + (13 + 11) + q_plays ≤ q0) (ho_plays : ∀ (σ : DD) (a1 : Int32) (a2 : Int32) (a3 : Int32) (a4 : Int32) (a5 : Int32) (a6 : Int32) (post : Int32 → DD → Prop), o_plays σ a1 a2 a3 a4 a5 a6 post → MI l w yX11_plays cX11_plays 13 .int (rmK f_plays q_plays) σ [.ref (wAd w 0), .int a1, .int a2, .int a3, .int a4, .int a5, .int a6] post) {σ : DD} {a1 : Int32} {a2 : Int32} {a3 : Int32} {a4 : Int32} {a5 : Int32} {a6 : Int32} {post : Int32 → DD → Prop} (h : w_M_plays_o o_plays σ a1 a2 a3 a4 a5 a6 post) : MI l w yX11_plays cX11_plays 13 .int (rmK f0 q0) σ [.ref (wAd w 0), .int a1, .int a2, .int a3, .int a4, .int a5, .int a6] post :=
  met_head (rt := (some .int)) (by decide) rfl (fun X hX C => by
  subst hX
  unfold w_M_plays_o at h
  show gW X w (lim0 w) 13 (QI X w post) σ 0 [(0, .ref (wAd w 0)), (1, .int a1), (2, .int a2), (3, .int a3), (4, .int a4), (5, .int a5), (6, .int a6)] []
  refine r_aload_n C 0 rfl (dk_at dk_M_plays_0 0 rfl) ?_
  refine r_getR C fl_M_20 0 (hL 0 _ rfl) rfl (dk_at dk_M_plays_0 1 rfl) ?_
  refine r_sipush C 395 (dk_at dk_M_plays_0 2 rfl) ?_
  refine r_ialdK C 4 (hL 4 _ rfl) lk_395 (vk_395_6012) (dk_at dk_M_plays_0 3 rfl) ?_
  refine r_iload_n C 1 rfl (dk_at dk_M_plays_0 4 rfl) ?_
  refine r_iadd C (dk_at dk_M_plays_0 5 rfl) ?_
  refine r_topi (fun v21 e22 => ?_)
  replace h := h v21 e22
  refine r_istore C [(7, .int v21), (0, .ref (wAd w 0)), (1, .int a1), (2, .int a2), (3, .int a3), (4, .int a4), (5, .int a5), (6, .int a6)] rfl rfl (dk_at dk_M_plays_0 6 rfl) ?_
  refine r_iload_n C 2 rfl (dk_at dk_M_plays_0 7 rfl) ?_
  refine r_iload_n C 3 rfl (dk_at dk_M_plays_0 8 rfl) ?_
  refine r_icmp_ne C 42 rfl (dk_at dk_M_plays_0 9 rfl) (fun c23 => ?_) (fun c23 => ?_)
  · replace h := h.1 c23
    refine r_iload_n C 2 rfl (dk_at dk_M_plays_0 24 rfl) ?_
    refine r_iconst C 2 (dk_at dk_M_plays_0 25 rfl) ?_
    refine r_irem C (by decide) (dk_at dk_M_plays_0 26 rfl) ?_
    refine r_if_ne C 52 rfl (dk_at dk_M_plays_0 27 rfl) (fun c24 => ?_) (fun c24 => ?_)
    · replace h := h.1 c24
      refine r_iconst C 0 (dk_at dk_M_plays_0 30 rfl) ?_
      refine r_lv [1, 2, 3, 4, 5, 6, 7, 0] rfl ?_
      exact t_M_plays_j53 C hL hr0 hr_plays ho_plays h
    · replace h := h.2 c24
      refine r_iconst C 1 (dk_at dk_M_plays_0 28 rfl) ?_
      refine r_goto C 53 rfl (dk_at dk_M_plays_0 29 rfl) ?_
      refine r_lv [1, 2, 3, 4, 5, 6, 7, 0] rfl ?_
      exact t_M_plays_j53 C hL hr0 hr_plays ho_plays h
  · replace h := h.2 c23
    refine r_aload_n C 1 rfl (dk_at dk_M_plays_0 10 rfl) ?_
    refine r_iload C 0 rfl (dk_at dk_M_plays_0 11 rfl) ?_
    refine r_cvI C cl_M_335 0 (hL 0 _ rfl) [.int v21] (m_M_heldOn hL h) (rmK_ok2 (f := f0) (q := q0) (f' := 92) (q' := 2224) (by omega) (by omega)) rfl rfl (Nat.le_of_ble_eq_true rfl) (dk_at dk_M_plays_0 12 rfl) (fun r25 σ26 h => ?_)
    refine r_iload_n C 4 rfl (dk_at dk_M_plays_0 13 rfl) ?_
    refine r_iand C (dk_at dk_M_plays_0 14 rfl) ?_
    refine r_csI C cs_M_288 [.int (r25 &&& a3)] (m_M_ones hL h) (rmK_ok2 (f := f0) (q := q0) (f' := 0) (q' := 0) (by omega) (by omega)) rfl rfl (Nat.le_of_ble_eq_true rfl) (dk_at dk_M_plays_0 15 rfl) (fun r27 σ28 h => ?_)
    refine r_aload_n C 1 rfl (dk_at dk_M_plays_0 16 rfl) ?_
    refine r_iload C 0 rfl (dk_at dk_M_plays_0 17 rfl) ?_
    refine r_cvI C cl_M_335 0 (hL 0 _ rfl) [.int v21] (m_M_heldOn hL h) (rmK_ok2 (f := f0) (q := q0) (f' := 92) (q' := 2224) (by omega) (by omega)) rfl rfl (Nat.le_of_ble_eq_true rfl) (dk_at dk_M_plays_0 18 rfl) (fun r29 σ30 h => ?_)
    refine r_iload C 5 rfl (dk_at dk_M_plays_0 19 rfl) ?_
    refine r_iand C (dk_at dk_M_plays_0 20 rfl) ?_
    refine r_csI C cs_M_288 [.int (r29 &&& a4)] (m_M_ones hL h) (rmK_ok2 (f := f0) (q := q0) (f' := 0) (q' := 0) (by omega) (by omega)) rfl rfl (Nat.le_of_ble_eq_true rfl) (dk_at dk_M_plays_0 21 rfl) (fun r31 σ32 h => ?_)
    refine r_isub C (dk_at dk_M_plays_0 22 rfl) ?_
    exact r_iret C h (dk_at dk_M_plays_0 23 rfl)
  )
set_option maxRecDepth 20000 in
theorem m_M_plays_d {l : Launch} {w : WO} (hL : LyM w) : ∀ d : Nat, ∀ (σ : DD) (a1 : Int32) (a2 : Int32) (a3 : Int32) (a4 : Int32) (a5 : Int32) (a6 : Int32) (post : Int32 → DD → Prop), w_M_plays_d d σ a1 a2 a3 a4 a5 a6 post → MI l w yX11_plays cX11_plays 13 .int (rmK (93 + 1 * d) (2249 + 32 * d)) σ [.ref (wAd w 0), .int a1, .int a2, .int a3, .int a4, .int a5, .int a6] post := by
  intro d
  induction d with
  | zero => exact fun _ _ _ _ _ _ _ _ h => h.elim
  | succ n ih =>
    rw [show 93 + 1 * (n + 1) = 93 + 1 * n + 1 by omega, show 2249 + 32 * (n + 1) = 2249 + 32 * n + 32 by omega]
    exact (fun _ _ _ _ _ _ _ _ h => m_M_plays_o hL (f0 := 93 + 1 * n + 1) (q0 := 2249 + 32 * n + 32) (f_plays := 93 + 1 * n + 0) (q_plays := 2249 + 32 * n + 0) (by omega) (by omega) ih h)
set_option maxRecDepth 20000 in
theorem m_M_plays {l : Launch} {w : WO} (hL : LyM w) {σ : DD} {a1 : Int32} {a2 : Int32} {a3 : Int32} {a4 : Int32} {a5 : Int32} {a6 : Int32} {post : Int32 → DD → Prop} (h : w_M_plays σ a1 a2 a3 a4 a5 a6 post) : MI l w yX11_plays cX11_plays 13 .int (rmK 105 2633) σ [.ref (wAd w 0), .int a1, .int a2, .int a3, .int a4, .int a5, .int a6] post :=
  m_M_plays_d hL 12 _ _ _ _ _ _ _ _ h
set_option maxRecDepth 20000 in
theorem m_M_game {l : Launch} {w : WO} (hL : LyM w) {σ : DD} {a1 : Int32} {a2 : Int32} {a3 : Int32} {a4 : Int32} {a5 : Int32} {a6 : Int32} {post : Int32 → DD → Prop} (h : w_M_game σ a1 a2 a3 a4 a5 a6 post) : MI l w yX11_game cX11_game 8 .int (rmK 106 2665) σ [.ref (wAd w 0), .int a1, .int a2, .int a3, .int a4, .int a5, .int a6] post :=
  met_head (rt := (some .int)) (by decide) rfl (fun X hX C => by
  subst hX
  unfold w_M_game at h
  show gW X w (lim0 w) 8 (QI X w post) σ 0 [(0, .ref (wAd w 0)), (1, .int a1), (2, .int a2), (3, .int a3), (4, .int a4), (5, .int a5), (6, .int a6)] []
  refine r_aload_n C 0 rfl (dk_at dk_M_game_0 0 rfl) ?_
  refine r_iload_n C 1 rfl (dk_at dk_M_game_0 1 rfl) ?_
  refine r_cvI C cl_M_359 0 (hL 0 _ rfl) [.int a1] (m_M_areActs hL h) (rmK_ok rfl rfl) rfl rfl (Nat.le_of_ble_eq_true rfl) (dk_at dk_M_game_0 2 rfl) (fun r1 σ2 h => ?_)
  refine r_if_eq C 59 rfl (dk_at dk_M_game_0 3 rfl) (fun c3 => ?_) (fun c3 => ?_)
  · replace h := h.1 c3
    refine r_sipush C (-1000) (dk_at dk_M_game_0 29 rfl) ?_
    exact r_iret C h (dk_at dk_M_game_0 30 rfl)
  · replace h := h.2 c3
    refine r_aload_n C 0 rfl (dk_at dk_M_game_0 4 rfl) ?_
    refine r_iload_n C 2 rfl (dk_at dk_M_game_0 5 rfl) ?_
    refine r_cvI C cl_M_359 0 (hL 0 _ rfl) [.int a2] (m_M_areActs hL h) (rmK_ok rfl rfl) rfl rfl (Nat.le_of_ble_eq_true rfl) (dk_at dk_M_game_0 6 rfl) (fun r4 σ5 h => ?_)
    refine r_if_eq C 59 rfl (dk_at dk_M_game_0 7 rfl) (fun c6 => ?_) (fun c6 => ?_)
    · replace h := h.1 c6
      refine r_sipush C (-1000) (dk_at dk_M_game_0 29 rfl) ?_
      exact r_iret C h (dk_at dk_M_game_0 30 rfl)
    · replace h := h.2 c6
      refine r_aload_n C 0 rfl (dk_at dk_M_game_0 8 rfl) ?_
      refine r_iload_n C 3 rfl (dk_at dk_M_game_0 9 rfl) ?_
      refine r_cvI C cl_M_322 0 (hL 0 _ rfl) [.int a3] (m_M_isReader hL h) (rmK_ok rfl rfl) rfl rfl (Nat.le_of_ble_eq_true rfl) (dk_at dk_M_game_0 10 rfl) (fun r7 σ8 h => ?_)
      refine r_if_eq C 59 rfl (dk_at dk_M_game_0 11 rfl) (fun c9 => ?_) (fun c9 => ?_)
      · replace h := h.1 c9
        refine r_sipush C (-1000) (dk_at dk_M_game_0 29 rfl) ?_
        exact r_iret C h (dk_at dk_M_game_0 30 rfl)
      · replace h := h.2 c9
        refine r_aload_n C 0 rfl (dk_at dk_M_game_0 12 rfl) ?_
        refine r_iload C 4 rfl (dk_at dk_M_game_0 13 rfl) ?_
        refine r_cvI C cl_M_322 0 (hL 0 _ rfl) [.int a4] (m_M_isReader hL h) (rmK_ok rfl rfl) rfl rfl (Nat.le_of_ble_eq_true rfl) (dk_at dk_M_game_0 14 rfl) (fun r10 σ11 h => ?_)
        refine r_if_eq C 59 rfl (dk_at dk_M_game_0 15 rfl) (fun c12 => ?_) (fun c12 => ?_)
        · replace h := h.1 c12
          refine r_sipush C (-1000) (dk_at dk_M_game_0 29 rfl) ?_
          exact r_iret C h (dk_at dk_M_game_0 30 rfl)
        · replace h := h.2 c12
          refine r_iload_n C 3 rfl (dk_at dk_M_game_0 16 rfl) ?_
          refine r_iload C 4 rfl (dk_at dk_M_game_0 17 rfl) ?_
          refine r_icmp_eq C 59 rfl (dk_at dk_M_game_0 18 rfl) (fun c13 => ?_) (fun c13 => ?_)
          · replace h := h.1 c13
            refine r_sipush C (-1000) (dk_at dk_M_game_0 29 rfl) ?_
            exact r_iret C h (dk_at dk_M_game_0 30 rfl)
          · replace h := h.2 c13
            refine r_iload C 5 rfl (dk_at dk_M_game_0 19 rfl) ?_
            refine r_iconst C 1 (dk_at dk_M_game_0 20 rfl) ?_
            refine r_iconst C 4 (dk_at dk_M_game_0 21 rfl) ?_
            refine r_csI C cs_M_101 [.int a5, .int 1, .int 4] (m_M_lies hL h) (rmK_ok rfl rfl) rfl rfl (Nat.le_of_ble_eq_true rfl) (dk_at dk_M_game_0 22 rfl) (fun r14 σ15 h => ?_)
            refine r_if_eq C 59 rfl (dk_at dk_M_game_0 23 rfl) (fun c16 => ?_) (fun c16 => ?_)
            · replace h := h.1 c16
              refine r_sipush C (-1000) (dk_at dk_M_game_0 29 rfl) ?_
              exact r_iret C h (dk_at dk_M_game_0 30 rfl)
            · replace h := h.2 c16
              refine r_iload C 6 rfl (dk_at dk_M_game_0 24 rfl) ?_
              refine r_iconst C 0 (dk_at dk_M_game_0 25 rfl) ?_
              refine r_iconst C 1 (dk_at dk_M_game_0 26 rfl) ?_
              refine r_csI C cs_M_101 [.int a6, .int 0, .int 1] (m_M_lies hL h) (rmK_ok rfl rfl) rfl rfl (Nat.le_of_ble_eq_true rfl) (dk_at dk_M_game_0 27 rfl) (fun r17 σ18 h => ?_)
              refine r_if_ne C 63 rfl (dk_at dk_M_game_0 28 rfl) (fun c19 => ?_) (fun c19 => ?_)
              · replace h := h.1 c19
                refine r_aload_n C 0 rfl (dk_at dk_M_game_0 31 rfl) ?_
                refine r_iconst C 0 (dk_at dk_M_game_0 32 rfl) ?_
                refine r_iload C 5 rfl (dk_at dk_M_game_0 33 rfl) ?_
                refine r_iload_n C 1 rfl (dk_at dk_M_game_0 34 rfl) ?_
                refine r_iload_n C 2 rfl (dk_at dk_M_game_0 35 rfl) ?_
                refine r_iload_n C 3 rfl (dk_at dk_M_game_0 36 rfl) ?_
                refine r_iload C 4 rfl (dk_at dk_M_game_0 37 rfl) ?_
                refine r_cvI C cl_M_362 0 (hL 0 _ rfl) [.int 0, .int a5, .int a1, .int a2, .int a3, .int a4] (m_M_plays hL h) (rmK_ok rfl rfl) rfl rfl (Nat.le_of_ble_eq_true rfl) (dk_at dk_M_game_0 38 rfl) (fun r20 σ21 h => ?_)
                refine r_istore C [(7, .int r20), (0, .ref (wAd w 0)), (1, .int a1), (2, .int a2), (3, .int a3), (4, .int a4), (5, .int a5), (6, .int a6)] rfl rfl (dk_at dk_M_game_0 39 rfl) ?_
                refine r_iload C 7 rfl (dk_at dk_M_game_1 0 rfl) ?_
                refine r_if_ne C 87 rfl (dk_at dk_M_game_1 1 rfl) (fun c22 => ?_) (fun c22 => ?_)
                · replace h := h.1 c22
                  refine r_aload_n C 1 rfl (dk_at dk_M_game_1 4 rfl) ?_
                  refine r_getI C fl_M_366 0 (hL 0 _ rfl) rfl (dk_at dk_M_game_1 5 rfl) ?_
                  exact r_iret C h (dk_at dk_M_game_1 6 rfl)
                · replace h := h.2 c22
                  refine r_iload C 0 rfl (dk_at dk_M_game_1 2 rfl) ?_
                  refine r_goto C 91 rfl (dk_at dk_M_game_1 3 rfl) ?_
                  exact r_iret C h (dk_at dk_M_game_1 6 rfl)
              · replace h := h.2 c19
                refine r_sipush C (-1000) (dk_at dk_M_game_0 29 rfl) ?_
                exact r_iret C h (dk_at dk_M_game_0 30 rfl)
  )
set_option maxRecDepth 20000 in
theorem t_M_hasReader_b16 {X : CT} {w : WO} (C : CF X w (lim0 w) 4 cX11_hasReader RX11 (some .boolean) (.code yX11_hasReader cX11_hasReader 4 (some .boolean)) (rmK 91 2201)) (hL : LyM w) {K2 : DD → Int32 → Prop} {a1 : Int32} {a2 : Int32} {K16 : DD → Int32 → Prop} {post : Int32 → DD → Prop} (k2 : ∀ (σ : DD) (a2 : Int32), K2 σ a2 → gW X w (lim0 w) 4 (QI X w post) σ 2 [(0, .ref (wAd w 0)), (1, .int a1), (2, .int a2)] []) (k16 : ∀ (σ : DD) (a3 : Int32), K16 σ a3 → gW X w (lim0 w) 4 (QI X w post) σ 16 [(0, .ref (wAd w 0)), (1, .int a1), (2, .int a2), (3, .int a3)] []) {σ : DD} {a3 : Int32} (h : w_M_hasReader_b16 K2 a1 a2 K16 post σ a3) : gW X w (lim0 w) 4 (QI X w post) σ 16 [(0, .ref (wAd w 0)), (1, .int a1), (2, .int a2), (3, .int a3)] [] := by
  unfold w_M_hasReader_b16 at h
  refine r_iload_n C 3 rfl (dk_at dk_M_hasReader_0 10 rfl) ?_
  refine r_bipush C 7 (dk_at dk_M_hasReader_0 11 rfl) ?_
  refine r_icmp_ge C 80 rfl (dk_at dk_M_hasReader_0 12 rfl) (fun c1 => ?_) (fun c1 => ?_)
  · replace h := h.1 c1
    refine r_iinc C 2 rfl rfl [(2, .int (a2 + 1)), (0, .ref (wAd w 0)), (1, .int a1), (3, .int a3)] rfl rfl (dk_at dk_M_hasReader_1 9 rfl) ?_
    refine r_goto C 2 rfl (dk_at dk_M_hasReader_1 10 rfl) ?_
    refine r_lv [1, 2, 0] rfl ?_
    exact k2 _ _ h
  · replace h := h.2 c1
    refine r_aload_n C 0 rfl (dk_at dk_M_hasReader_0 13 rfl) ?_
    refine r_iload_n C 1 rfl (dk_at dk_M_hasReader_0 14 rfl) ?_
    refine r_iload_n C 2 rfl (dk_at dk_M_hasReader_0 15 rfl) ?_
    refine r_iload_n C 3 rfl (dk_at dk_M_hasReader_0 16 rfl) ?_
    refine r_cvI C cl_M_313 0 (hL 0 _ rfl) [.int a1, .int a2, .int a3] (m_M_isBarred hL h) (rmK_ok rfl rfl) rfl rfl (Nat.le_of_ble_eq_true rfl) (dk_at dk_M_hasReader_0 17 rfl) (fun r2 σ3 h => ?_)
    refine r_if_ne C 74 rfl (dk_at dk_M_hasReader_0 18 rfl) (fun c4 => ?_) (fun c4 => ?_)
    · replace h := h.1 c4
      refine r_iinc C 3 rfl rfl [(3, .int (a3 + 1)), (0, .ref (wAd w 0)), (1, .int a1), (2, .int a2)] rfl rfl (dk_at dk_M_hasReader_1 7 rfl) ?_
      refine r_goto C 16 rfl (dk_at dk_M_hasReader_1 8 rfl) ?_
      refine r_lv [1, 2, 3, 0] rfl ?_
      exact k16 _ _ h
    · replace h := h.2 c4
      refine r_aload_n C 0 rfl (dk_at dk_M_hasReader_0 19 rfl) ?_
      refine r_getR C fl_M_20 0 (hL 0 _ rfl) rfl (dk_at dk_M_hasReader_0 20 rfl) ?_
      refine r_bipush C 104 (dk_at dk_M_hasReader_0 21 rfl) ?_
      refine r_iload_n C 3 rfl (dk_at dk_M_hasReader_0 22 rfl) ?_
      refine r_iadd C (dk_at dk_M_hasReader_0 23 rfl) ?_
      obtain ⟨q5, h⟩ := h
      refine r_iald C 4 (hL 4 _ rfl) q5 (dk_at dk_M_hasReader_0 24 rfl) ?_
      refine r_aload_n C 0 rfl (dk_at dk_M_hasReader_0 25 rfl) ?_
      refine r_iload_n C 1 rfl (dk_at dk_M_hasReader_0 26 rfl) ?_
      refine r_iconst C 2 (dk_at dk_M_hasReader_0 27 rfl) ?_
      refine r_cvI C cl_M_124 0 (hL 0 _ rfl) [.int a1, .int 2] (m_M_fact hL h) (rmK_ok rfl rfl) rfl rfl (Nat.le_of_ble_eq_true rfl) (dk_at dk_M_hasReader_0 28 rfl) (fun r6 σ7 h => ?_)
      refine r_iand C (dk_at dk_M_hasReader_0 29 rfl) ?_
      refine r_if_eq C 74 rfl (dk_at dk_M_hasReader_0 30 rfl) (fun c8 => ?_) (fun c8 => ?_)
      · replace h := h.1 c8
        refine r_iinc C 3 rfl rfl [(3, .int (a3 + 1)), (0, .ref (wAd w 0)), (1, .int a1), (2, .int a2)] rfl rfl (dk_at dk_M_hasReader_1 7 rfl) ?_
        refine r_goto C 16 rfl (dk_at dk_M_hasReader_1 8 rfl) ?_
        refine r_lv [1, 2, 3, 0] rfl ?_
        exact k16 _ _ h
      · replace h := h.2 c8
        refine r_aload_n C 0 rfl (dk_at dk_M_hasReader_0 31 rfl) ?_
        refine r_getR C fl_M_20 0 (hL 0 _ rfl) rfl (dk_at dk_M_hasReader_0 32 rfl) ?_
        refine r_bipush C 96 (dk_at dk_M_hasReader_0 33 rfl) ?_
        refine r_iconst C 2 (dk_at dk_M_hasReader_0 34 rfl) ?_
        refine r_iload_n C 2 rfl (dk_at dk_M_hasReader_0 35 rfl) ?_
        refine r_imul C (dk_at dk_M_hasReader_0 36 rfl) ?_
        refine r_iadd C (dk_at dk_M_hasReader_0 37 rfl) ?_
        obtain ⟨q9, h⟩ := h
        refine r_iald C 4 (hL 4 _ rfl) q9 (dk_at dk_M_hasReader_0 38 rfl) ?_
        refine r_aload_n C 0 rfl (dk_at dk_M_hasReader_0 39 rfl) ?_
        refine r_iload_n C 1 rfl (dk_at dk_M_hasReader_1 0 rfl) ?_
        refine r_iload_n C 2 rfl (dk_at dk_M_hasReader_1 1 rfl) ?_
        refine r_iload_n C 3 rfl (dk_at dk_M_hasReader_1 2 rfl) ?_
        refine r_cvI C cl_M_310 0 (hL 0 _ rfl) [.int a1, .int a2, .int a3] (m_M_takesOf hL h) (rmK_ok rfl rfl) rfl rfl (Nat.le_of_ble_eq_true rfl) (dk_at dk_M_hasReader_1 3 rfl) (fun r10 σ11 h => ?_)
        refine r_icmp_lt C 74 rfl (dk_at dk_M_hasReader_1 4 rfl) (fun c12 => ?_) (fun c12 => ?_)
        · replace h := h.1 c12
          refine r_iinc C 3 rfl rfl [(3, .int (a3 + 1)), (0, .ref (wAd w 0)), (1, .int a1), (2, .int a2)] rfl rfl (dk_at dk_M_hasReader_1 7 rfl) ?_
          refine r_goto C 16 rfl (dk_at dk_M_hasReader_1 8 rfl) ?_
          refine r_lv [1, 2, 3, 0] rfl ?_
          exact k16 _ _ h
        · replace h := h.2 c12
          refine r_iconst C 1 (dk_at dk_M_hasReader_1 5 rfl) ?_
          exact r_zret C (Or.inr rfl) h (dk_at dk_M_hasReader_1 6 rfl)
set_option maxRecDepth 20000 in
theorem t_M_hasReader_l16 {X : CT} {w : WO} (C : CF X w (lim0 w) 4 cX11_hasReader RX11 (some .boolean) (.code yX11_hasReader cX11_hasReader 4 (some .boolean)) (rmK 91 2201)) (hL : LyM w) {K2 : DD → Int32 → Prop} {a1 : Int32} {a2 : Int32} {post : Int32 → DD → Prop} (k2 : ∀ (σ : DD) (a2 : Int32), K2 σ a2 → gW X w (lim0 w) 4 (QI X w post) σ 2 [(0, .ref (wAd w 0)), (1, .int a1), (2, .int a2)] []) {σ : DD} {a3 : Int32} (h : w_M_hasReader_l16 K2 post σ a1 a2 a3) : gW X w (lim0 w) 4 (QI X w post) σ 16 [(0, .ref (wAd w 0)), (1, .int a1), (2, .int a2), (3, .int a3)] [] :=
  LoopW (G := fun x : DD × Int32 => gW X w (lim0 w) 4 (QI X w post) x.1 16 [(0, .ref (wAd w 0)), (1, .int a1), (2, .int a2), (3, .int x.2)] []) (fun K x hK hF => t_M_hasReader_b16 C hL k2 (fun σ a3 q => hK (σ, a3) q) hF) h
set_option maxRecDepth 20000 in
theorem t_M_hasReader_b2 {X : CT} {w : WO} (C : CF X w (lim0 w) 4 cX11_hasReader RX11 (some .boolean) (.code yX11_hasReader cX11_hasReader 4 (some .boolean)) (rmK 91 2201)) (hL : LyM w) {a1 : Int32} {K2 : DD → Int32 → Prop} {post : Int32 → DD → Prop} (k2 : ∀ (σ : DD) (a2 : Int32), K2 σ a2 → gW X w (lim0 w) 4 (QI X w post) σ 2 [(0, .ref (wAd w 0)), (1, .int a1), (2, .int a2)] []) {σ : DD} {a2 : Int32} (h : w_M_hasReader_b2 a1 K2 post σ a2) : gW X w (lim0 w) 4 (QI X w post) σ 2 [(0, .ref (wAd w 0)), (1, .int a1), (2, .int a2)] [] := by
  unfold w_M_hasReader_b2 at h
  refine r_iload_n C 2 rfl (dk_at dk_M_hasReader_0 2 rfl) ?_
  refine r_aload_n C 0 rfl (dk_at dk_M_hasReader_0 3 rfl) ?_
  refine r_getR C fl_M_20 0 (hL 0 _ rfl) rfl (dk_at dk_M_hasReader_0 4 rfl) ?_
  refine r_sipush C 400 (dk_at dk_M_hasReader_0 5 rfl) ?_
  refine r_ialdK C 4 (hL 4 _ rfl) lk_400 (vk_400_6012) (dk_at dk_M_hasReader_0 6 rfl) ?_
  refine r_icmp_ge C 86 rfl (dk_at dk_M_hasReader_0 7 rfl) (fun c13 => ?_) (fun c13 => ?_)
  · replace h := h.1 c13
    refine r_iconst C 0 (dk_at dk_M_hasReader_1 11 rfl) ?_
    exact r_zret C (Or.inl rfl) h (dk_at dk_M_hasReader_1 12 rfl)
  · replace h := h.2 c13
    refine r_iconst C 0 (dk_at dk_M_hasReader_0 8 rfl) ?_
    refine r_istore_n C [(3, .int 0), (0, .ref (wAd w 0)), (1, .int a1), (2, .int a2)] rfl rfl (dk_at dk_M_hasReader_0 9 rfl) ?_
    refine r_lv [1, 2, 3, 0] rfl ?_
    exact t_M_hasReader_l16 C hL k2 h
set_option maxRecDepth 20000 in
theorem t_M_hasReader_l2 {X : CT} {w : WO} (C : CF X w (lim0 w) 4 cX11_hasReader RX11 (some .boolean) (.code yX11_hasReader cX11_hasReader 4 (some .boolean)) (rmK 91 2201)) (hL : LyM w) {a1 : Int32} {post : Int32 → DD → Prop} {σ : DD} {a2 : Int32} (h : w_M_hasReader_l2 post σ a1 a2) : gW X w (lim0 w) 4 (QI X w post) σ 2 [(0, .ref (wAd w 0)), (1, .int a1), (2, .int a2)] [] :=
  LoopW (G := fun x : DD × Int32 => gW X w (lim0 w) 4 (QI X w post) x.1 2 [(0, .ref (wAd w 0)), (1, .int a1), (2, .int x.2)] []) (fun K x hK hF => t_M_hasReader_b2 C hL (fun σ a2 q => hK (σ, a2) q) hF) h
set_option maxRecDepth 20000 in
theorem m_M_hasReader {l : Launch} {w : WO} (hL : LyM w) {σ : DD} {a1 : Int32} {post : Int32 → DD → Prop} (h : w_M_hasReader σ a1 post) : MI l w yX11_hasReader cX11_hasReader 4 .boolean (rmK 91 2201) σ [.ref (wAd w 0), .int a1] post :=
  met_head (rt := (some .boolean)) (by decide) rfl (fun X hX C => by
  subst hX
  unfold w_M_hasReader at h
  show gW X w (lim0 w) 4 (QI X w post) σ 0 [(0, .ref (wAd w 0)), (1, .int a1)] []
  refine r_iconst C 0 (dk_at dk_M_hasReader_0 0 rfl) ?_
  refine r_istore_n C [(2, .int 0), (0, .ref (wAd w 0)), (1, .int a1)] rfl rfl (dk_at dk_M_hasReader_0 1 rfl) ?_
  refine r_lv [1, 2, 0] rfl ?_
  exact t_M_hasReader_l2 C hL h
  )
set_option maxRecDepth 20000 in
theorem t_M_dead_j74 {X : CT} {w : WO} (C : CF X w (lim0 w) 6 cX11_dead RX11 (some .int) (.code yX11_dead cX11_dead 6 (some .int)) (rmK 93 2247)) (hL : LyM w) {K17 : DD → Int32 → Int32 → Prop} {K26 : DD → Int32 → Int32 → Prop} {post : Int32 → DD → Prop} {a1 : Int32} {a2 : Int32} {a3 : Int32} {a4 : Int32} (k17 : ∀ (σ : DD) (a2 : Int32) (a3 : Int32), K17 σ a2 a3 → gW X w (lim0 w) 6 (QI X w post) σ 17 [(0, .ref (wAd w 0)), (1, .int a1), (2, .int a2), (3, .int a3)] []) (k26 : ∀ (σ : DD) (a2 : Int32) (a4 : Int32), K26 σ a2 a4 → gW X w (lim0 w) 6 (QI X w post) σ 26 [(0, .ref (wAd w 0)), (1, .int a1), (2, .int a2), (3, .int a3), (4, .int a4)] []) {σ : DD} (h : w_M_dead_j74 K17 K26 post σ a1 a2 a3 a4) : gW X w (lim0 w) 6 (QI X w post) σ 74 [(0, .ref (wAd w 0)), (1, .int a1), (2, .int a2), (3, .int a3), (4, .int a4)] [] := by
  unfold w_M_dead_j74 at h
  refine r_aload_n C 0 rfl (dk_at dk_M_dead_1 0 rfl) ?_
  refine r_iload C 4 rfl (dk_at dk_M_dead_1 1 rfl) ?_
  refine r_cvI C cl_M_369 0 (hL 0 _ rfl) [.int a4] (m_M_hasReader hL h) (rmK_ok rfl rfl) rfl rfl (Nat.le_of_ble_eq_true rfl) (dk_at dk_M_dead_1 2 rfl) (fun r1 σ2 h => ?_)
  refine r_if_eq C 90 rfl (dk_at dk_M_dead_1 3 rfl) (fun c3 => ?_) (fun c3 => ?_)
  · replace h := h.1 c3
    refine r_iinc C 4 rfl rfl [(4, .int (a4 + 1)), (0, .ref (wAd w 0)), (1, .int a1), (2, .int a2), (3, .int a3)] rfl rfl (dk_at dk_M_dead_1 10 rfl) ?_
    refine r_goto C 26 rfl (dk_at dk_M_dead_1 11 rfl) ?_
    refine r_lv [1, 2, 3, 4, 0] rfl ?_
    exact k26 _ _ _ h
  · replace h := h.2 c3
    refine r_iload_n C 2 rfl (dk_at dk_M_dead_1 4 rfl) ?_
    refine r_iconst C 1 (dk_at dk_M_dead_1 5 rfl) ?_
    refine r_iload C 4 rfl (dk_at dk_M_dead_1 6 rfl) ?_
    refine r_ishl C (dk_at dk_M_dead_1 7 rfl) ?_
    refine r_ior C (dk_at dk_M_dead_1 8 rfl) ?_
    refine r_topi (fun v4 e5 => ?_)
    replace h := h v4 e5
    refine r_istore_n C [(2, .int v4), (0, .ref (wAd w 0)), (1, .int a1), (3, .int a3), (4, .int a4)] rfl rfl (dk_at dk_M_dead_1 9 rfl) ?_
    refine r_iinc C 4 rfl rfl [(4, .int (a4 + 1)), (2, .int v4), (0, .ref (wAd w 0)), (1, .int a1), (3, .int a3)] rfl rfl (dk_at dk_M_dead_1 10 rfl) ?_
    refine r_goto C 26 rfl (dk_at dk_M_dead_1 11 rfl) ?_
    refine r_lv [2, 3, 1, 4, 0] rfl ?_
    exact k26 _ _ _ h
set_option maxRecDepth 20000 in
theorem t_M_dead_b26 {X : CT} {w : WO} (C : CF X w (lim0 w) 6 cX11_dead RX11 (some .int) (.code yX11_dead cX11_dead 6 (some .int)) (rmK 93 2247)) (hL : LyM w) {K17 : DD → Int32 → Int32 → Prop} {a1 : Int32} {a3 : Int32} {K26 : DD → Int32 → Int32 → Prop} {post : Int32 → DD → Prop} (k17 : ∀ (σ : DD) (a2 : Int32) (a3 : Int32), K17 σ a2 a3 → gW X w (lim0 w) 6 (QI X w post) σ 17 [(0, .ref (wAd w 0)), (1, .int a1), (2, .int a2), (3, .int a3)] []) (k26 : ∀ (σ : DD) (a2 : Int32) (a4 : Int32), K26 σ a2 a4 → gW X w (lim0 w) 6 (QI X w post) σ 26 [(0, .ref (wAd w 0)), (1, .int a1), (2, .int a2), (3, .int a3), (4, .int a4)] []) {σ : DD} {a2 : Int32} {a4 : Int32} (h : w_M_dead_b26 K17 a1 a3 K26 post σ a2 a4) : gW X w (lim0 w) 6 (QI X w post) σ 26 [(0, .ref (wAd w 0)), (1, .int a1), (2, .int a2), (3, .int a3), (4, .int a4)] [] := by
  unfold w_M_dead_b26 at h
  refine r_iload C 4 rfl (dk_at dk_M_dead_0 16 rfl) ?_
  refine r_aload_n C 0 rfl (dk_at dk_M_dead_0 17 rfl) ?_
  refine r_getR C fl_M_20 0 (hL 0 _ rfl) rfl (dk_at dk_M_dead_0 18 rfl) ?_
  refine r_sipush C 399 (dk_at dk_M_dead_0 19 rfl) ?_
  refine r_ialdK C 4 (hL 4 _ rfl) lk_399 (vk_399_6012) (dk_at dk_M_dead_0 20 rfl) ?_
  refine r_icmp_ge C 96 rfl (dk_at dk_M_dead_0 21 rfl) (fun c6 => ?_) (fun c6 => ?_)
  · replace h := h.1 c6
    refine r_iinc C 3 rfl rfl [(3, .int (a3 + 1)), (0, .ref (wAd w 0)), (1, .int a1), (2, .int a2), (4, .int a4)] rfl rfl (dk_at dk_M_dead_1 12 rfl) ?_
    refine r_goto C 17 rfl (dk_at dk_M_dead_1 13 rfl) ?_
    refine r_lv [1, 2, 3, 0] rfl ?_
    exact k17 _ _ _ h
  · replace h := h.2 c6
    refine r_aload_n C 0 rfl (dk_at dk_M_dead_0 22 rfl) ?_
    refine r_iload C 4 rfl (dk_at dk_M_dead_0 23 rfl) ?_
    refine r_iconst C 3 (dk_at dk_M_dead_0 24 rfl) ?_
    refine r_cvI C cl_M_124 0 (hL 0 _ rfl) [.int a4, .int 3] (m_M_fact hL h) (rmK_ok rfl rfl) rfl rfl (Nat.le_of_ble_eq_true rfl) (dk_at dk_M_dead_0 25 rfl) (fun r7 σ8 h => ?_)
    refine r_istore C [(5, .int r7), (0, .ref (wAd w 0)), (1, .int a1), (2, .int a2), (3, .int a3), (4, .int a4)] rfl rfl (dk_at dk_M_dead_0 26 rfl) ?_
    refine r_iload_n C 3 rfl (dk_at dk_M_dead_0 27 rfl) ?_
    refine r_iload C 5 rfl (dk_at dk_M_dead_0 28 rfl) ?_
    refine r_csI C cs_M_338 [.int a2, .int a4] (m_M_isIn hL h) (rmK_ok rfl rfl) rfl rfl (Nat.le_of_ble_eq_true rfl) (dk_at dk_M_dead_0 29 rfl) (fun r9 σ10 h => ?_)
    refine r_if_ne C 90 rfl (dk_at dk_M_dead_0 30 rfl) (fun c11 => ?_) (fun c11 => ?_)
    · replace h := h.1 c11
      refine r_iinc C 5 rfl rfl [(4, .int (a4 + 1)), (5, .int r7), (0, .ref (wAd w 0)), (1, .int a1), (2, .int a2), (3, .int a3)] rfl rfl (dk_at dk_M_dead_1 10 rfl) ?_
      refine r_goto C 26 rfl (dk_at dk_M_dead_1 11 rfl) ?_
      refine r_lv [2, 3, 4, 5, 0] rfl ?_
      exact k26 _ _ _ h
    · replace h := h.2 c11
      refine r_iload C 0 rfl (dk_at dk_M_dead_0 31 rfl) ?_
      refine r_iconst C (-1) (dk_at dk_M_dead_0 32 rfl) ?_
      refine r_icmp_eq C 74 rfl (dk_at dk_M_dead_0 33 rfl) (fun c12 => ?_) (fun c12 => ?_)
      · replace h := h.1 c12
        refine r_lv [1, 2, 3, 4, 5] rfl ?_
        exact t_M_dead_j74 C hL k17 k26 h
      · replace h := h.2 c12
        refine r_iload_n C 2 rfl (dk_at dk_M_dead_0 34 rfl) ?_
        refine r_iload_n C 3 rfl (dk_at dk_M_dead_0 35 rfl) ?_
        refine r_ior C (dk_at dk_M_dead_0 36 rfl) ?_
        refine r_iload C 0 rfl (dk_at dk_M_dead_0 37 rfl) ?_
        refine r_csI C cs_M_338 [.int (a1 ||| a2), .int r7] (m_M_isIn hL h) (rmK_ok rfl rfl) rfl rfl (Nat.le_of_ble_eq_true rfl) (dk_at dk_M_dead_0 38 rfl) (fun r13 σ14 h => ?_)
        refine r_if_eq C 90 rfl (dk_at dk_M_dead_0 39 rfl) (fun c15 => ?_) (fun c15 => ?_)
        · replace h := h.1 c15
          refine r_iinc C 5 rfl rfl [(4, .int (a4 + 1)), (5, .int r7), (0, .ref (wAd w 0)), (1, .int a1), (2, .int a2), (3, .int a3)] rfl rfl (dk_at dk_M_dead_1 10 rfl) ?_
          refine r_goto C 26 rfl (dk_at dk_M_dead_1 11 rfl) ?_
          refine r_lv [2, 3, 4, 5, 0] rfl ?_
          exact k26 _ _ _ h
        · replace h := h.2 c15
          refine r_lv [1, 2, 3, 4, 5] rfl ?_
          exact t_M_dead_j74 C hL k17 k26 h
set_option maxRecDepth 20000 in
theorem t_M_dead_l26 {X : CT} {w : WO} (C : CF X w (lim0 w) 6 cX11_dead RX11 (some .int) (.code yX11_dead cX11_dead 6 (some .int)) (rmK 93 2247)) (hL : LyM w) {K17 : DD → Int32 → Int32 → Prop} {a1 : Int32} {a3 : Int32} {post : Int32 → DD → Prop} (k17 : ∀ (σ : DD) (a2 : Int32) (a3 : Int32), K17 σ a2 a3 → gW X w (lim0 w) 6 (QI X w post) σ 17 [(0, .ref (wAd w 0)), (1, .int a1), (2, .int a2), (3, .int a3)] []) {σ : DD} {a2 : Int32} {a4 : Int32} (h : w_M_dead_l26 K17 post σ a1 a2 a3 a4) : gW X w (lim0 w) 6 (QI X w post) σ 26 [(0, .ref (wAd w 0)), (1, .int a1), (2, .int a2), (3, .int a3), (4, .int a4)] [] :=
  LoopW (G := fun x : DD × Int32 × Int32 => gW X w (lim0 w) 6 (QI X w post) x.1 26 [(0, .ref (wAd w 0)), (1, .int a1), (2, .int x.2.1), (3, .int a3), (4, .int x.2.2)] []) (fun K x hK hF => t_M_dead_b26 C hL k17 (fun σ a2 a4 q => hK (σ, a2, a4) q) hF) h
set_option maxRecDepth 20000 in
theorem t_M_dead_b17 {X : CT} {w : WO} (C : CF X w (lim0 w) 6 cX11_dead RX11 (some .int) (.code yX11_dead cX11_dead 6 (some .int)) (rmK 93 2247)) (hL : LyM w) {a1 : Int32} {K17 : DD → Int32 → Int32 → Prop} {post : Int32 → DD → Prop} (k17 : ∀ (σ : DD) (a2 : Int32) (a3 : Int32), K17 σ a2 a3 → gW X w (lim0 w) 6 (QI X w post) σ 17 [(0, .ref (wAd w 0)), (1, .int a1), (2, .int a2), (3, .int a3)] []) {σ : DD} {a2 : Int32} {a3 : Int32} (h : w_M_dead_b17 a1 K17 post σ a2 a3) : gW X w (lim0 w) 6 (QI X w post) σ 17 [(0, .ref (wAd w 0)), (1, .int a1), (2, .int a2), (3, .int a3)] [] := by
  unfold w_M_dead_b17 at h
  refine r_iload_n C 3 rfl (dk_at dk_M_dead_0 11 rfl) ?_
  refine r_bipush C 8 (dk_at dk_M_dead_0 12 rfl) ?_
  refine r_icmp_ge C 102 rfl (dk_at dk_M_dead_0 13 rfl) (fun c16 => ?_) (fun c16 => ?_)
  · replace h := h.1 c16
    refine r_iconst C 1 (dk_at dk_M_dead_1 14 rfl) ?_
    refine r_aload_n C 0 rfl (dk_at dk_M_dead_1 15 rfl) ?_
    refine r_getR C fl_M_20 0 (hL 0 _ rfl) rfl (dk_at dk_M_dead_1 16 rfl) ?_
    refine r_sipush C 399 (dk_at dk_M_dead_1 17 rfl) ?_
    refine r_ialdK C 4 (hL 4 _ rfl) lk_399 (vk_399_6012) (dk_at dk_M_dead_1 18 rfl) ?_
    refine r_ishl C (dk_at dk_M_dead_1 19 rfl) ?_
    refine r_iconst C 1 (dk_at dk_M_dead_1 20 rfl) ?_
    refine r_isub C (dk_at dk_M_dead_1 21 rfl) ?_
    refine r_iload_n C 1 rfl (dk_at dk_M_dead_1 22 rfl) ?_
    refine r_iconst C (-1) (dk_at dk_M_dead_1 23 rfl) ?_
    refine r_ixor C (dk_at dk_M_dead_1 24 rfl) ?_
    refine r_iand C (dk_at dk_M_dead_1 25 rfl) ?_
    refine r_iload_n C 2 rfl (dk_at dk_M_dead_1 26 rfl) ?_
    refine r_iconst C (-1) (dk_at dk_M_dead_1 27 rfl) ?_
    refine r_ixor C (dk_at dk_M_dead_1 28 rfl) ?_
    refine r_iand C (dk_at dk_M_dead_1 29 rfl) ?_
    exact r_iret C h (dk_at dk_M_dead_1 30 rfl)
  · replace h := h.2 c16
    refine r_iconst C 0 (dk_at dk_M_dead_0 14 rfl) ?_
    refine r_istore C [(4, .int 0), (0, .ref (wAd w 0)), (1, .int a1), (2, .int a2), (3, .int a3)] rfl rfl (dk_at dk_M_dead_0 15 rfl) ?_
    refine r_lv [1, 2, 3, 4, 0] rfl ?_
    exact t_M_dead_l26 C hL k17 h
set_option maxRecDepth 20000 in
theorem t_M_dead_l17 {X : CT} {w : WO} (C : CF X w (lim0 w) 6 cX11_dead RX11 (some .int) (.code yX11_dead cX11_dead 6 (some .int)) (rmK 93 2247)) (hL : LyM w) {a1 : Int32} {post : Int32 → DD → Prop} {σ : DD} {a2 : Int32} {a3 : Int32} (h : w_M_dead_l17 post σ a1 a2 a3) : gW X w (lim0 w) 6 (QI X w post) σ 17 [(0, .ref (wAd w 0)), (1, .int a1), (2, .int a2), (3, .int a3)] [] :=
  LoopW (G := fun x : DD × Int32 × Int32 => gW X w (lim0 w) 6 (QI X w post) x.1 17 [(0, .ref (wAd w 0)), (1, .int a1), (2, .int x.2.1), (3, .int x.2.2)] []) (fun K x hK hF => t_M_dead_b17 C hL (fun σ a2 a3 q => hK (σ, a2, a3) q) hF) h
set_option maxRecDepth 20000 in
theorem m_M_dead {l : Launch} {w : WO} (hL : LyM w) {σ : DD} {post : Int32 → DD → Prop} (h : w_M_dead σ post) : MI l w yX11_dead cX11_dead 6 .int (rmK 93 2247) σ [.ref (wAd w 0)] post :=
  met_head (rt := (some .int)) (by decide) rfl (fun X hX C => by
  subst hX
  unfold w_M_dead at h
  show gW X w (lim0 w) 6 (QI X w post) σ 0 [(0, .ref (wAd w 0))] []
  refine r_aload_n C 0 rfl (dk_at dk_M_dead_0 0 rfl) ?_
  refine r_aload_n C 0 rfl (dk_at dk_M_dead_0 1 rfl) ?_
  refine r_getR C fl_M_20 0 (hL 0 _ rfl) rfl (dk_at dk_M_dead_0 2 rfl) ?_
  refine r_sipush C 395 (dk_at dk_M_dead_0 3 rfl) ?_
  refine r_ialdK C 4 (hL 4 _ rfl) lk_395 (vk_395_6012) (dk_at dk_M_dead_0 4 rfl) ?_
  refine r_cvI C cl_M_335 0 (hL 0 _ rfl) [.int (gI σ 4 395)] (m_M_heldOn hL h) (rmK_ok rfl rfl) rfl rfl (Nat.le_of_ble_eq_true rfl) (dk_at dk_M_dead_0 5 rfl) (fun r17 σ18 h => ?_)
  refine r_istore_n C [(1, .int r17), (0, .ref (wAd w 0))] rfl rfl (dk_at dk_M_dead_0 6 rfl) ?_
  refine r_iconst C 0 (dk_at dk_M_dead_0 7 rfl) ?_
  refine r_istore_n C [(2, .int 0), (1, .int r17), (0, .ref (wAd w 0))] rfl rfl (dk_at dk_M_dead_0 8 rfl) ?_
  refine r_iconst C 0 (dk_at dk_M_dead_0 9 rfl) ?_
  refine r_istore_n C [(3, .int 0), (2, .int 0), (1, .int r17), (0, .ref (wAd w 0))] rfl rfl (dk_at dk_M_dead_0 10 rfl) ?_
  refine r_lv [3, 2, 1, 0] rfl ?_
  exact t_M_dead_l17 C hL h
  )
set_option maxRecDepth 20000 in
theorem t_M_lists_b7 {X : CT} {w : WO} (C : CF X w (lim0 w) 3 cX11_lists RX11 none (.code yX11_lists cX11_lists 3 none) (rmK 1 21)) (hL : LyM w) {a1 : Int32} {K7 : DD → Int32 → Prop} {post : DD → Prop} (k7 : ∀ (σ : DD) (a2 : Int32), K7 σ a2 → gW X w (lim0 w) 3 (QV X w post) σ 7 [(0, .ref (wAd w 0)), (1, .int a1), (2, .int a2)] []) {σ : DD} {a2 : Int32} (h : w_M_lists_b7 a1 K7 post σ a2) : gW X w (lim0 w) 3 (QV X w post) σ 7 [(0, .ref (wAd w 0)), (1, .int a1), (2, .int a2)] [] := by
  unfold w_M_lists_b7 at h
  refine r_iload_n C 2 rfl (dk_at dk_M_lists_0 5 rfl) ?_
  refine r_aload_n C 0 rfl (dk_at dk_M_lists_0 6 rfl) ?_
  refine r_getR C fl_M_20 0 (hL 0 _ rfl) rfl (dk_at dk_M_lists_0 7 rfl) ?_
  refine r_sipush C 399 (dk_at dk_M_lists_0 8 rfl) ?_
  refine r_ialdK C 4 (hL 4 _ rfl) lk_399 (vk_399_6012) (dk_at dk_M_lists_0 9 rfl) ?_
  refine r_icmp_ge C 56 rfl (dk_at dk_M_lists_0 10 rfl) (fun c1 => ?_) (fun c1 => ?_)
  · replace h := h.1 c1
    exact r_vret C h (dk_at dk_M_lists_0 30 rfl)
  · replace h := h.2 c1
    refine r_iload_n C 1 rfl (dk_at dk_M_lists_0 11 rfl) ?_
    refine r_iload_n C 2 rfl (dk_at dk_M_lists_0 12 rfl) ?_
    refine r_csI C cs_M_338 [.int a1, .int a2] (m_M_isIn hL h) (rmK_ok rfl rfl) rfl rfl (Nat.le_of_ble_eq_true rfl) (dk_at dk_M_lists_0 13 rfl) (fun r2 σ3 h => ?_)
    refine r_if_ne C 30 rfl (dk_at dk_M_lists_0 14 rfl) (fun c4 => ?_) (fun c4 => ?_)
    · replace h := h.1 c4
      refine r_aload_n C 0 rfl (dk_at dk_M_lists_0 16 rfl) ?_
      refine r_getR C fl_M_73 0 (hL 0 _ rfl) rfl (dk_at dk_M_lists_0 17 rfl) ?_
      refine r_aload_n C 0 rfl (dk_at dk_M_lists_0 18 rfl) ?_
      refine r_getI C fl_M_372 0 (hL 0 _ rfl) rfl (dk_at dk_M_lists_0 19 rfl) ?_
      refine r_iload_n C 2 rfl (dk_at dk_M_lists_0 20 rfl) ?_
      obtain ⟨q7, h⟩ := h
      refine r_iast C 39 (hL 39 _ rfl) q7 (dk_at dk_M_lists_0 21 rfl) (r_sg (fun σ5 e6 => ?_))
      replace h := h σ5 e6
      refine r_aload_n C 0 rfl (dk_at dk_M_lists_0 22 rfl) ?_
      refine r_dup C rfl (dk_at dk_M_lists_0 23 rfl) ?_
      refine r_getI C fl_M_372 0 (hL 0 _ rfl) rfl (dk_at dk_M_lists_0 24 rfl) ?_
      refine r_iconst C 1 (dk_at dk_M_lists_0 25 rfl) ?_
      refine r_iadd C (dk_at dk_M_lists_0 26 rfl) ?_
      refine r_putI C fl_M_372 0 (hL 0 _ rfl) rfl (dk_at dk_M_lists_0 27 rfl) (r_sg (fun σ8 e9 => ?_))
      replace h := h σ8 e9
      refine r_iinc C 2 rfl rfl [(2, .int (a2 + 1)), (0, .ref (wAd w 0)), (1, .int a1)] rfl rfl (dk_at dk_M_lists_0 28 rfl) ?_
      refine r_goto C 7 rfl (dk_at dk_M_lists_0 29 rfl) ?_
      refine r_lv [1, 2, 0] rfl ?_
      exact k7 _ _ h
    · replace h := h.2 c4
      refine r_goto C 50 rfl (dk_at dk_M_lists_0 15 rfl) ?_
      refine r_iinc C 2 rfl rfl [(2, .int (a2 + 1)), (0, .ref (wAd w 0)), (1, .int a1)] rfl rfl (dk_at dk_M_lists_0 28 rfl) ?_
      refine r_goto C 7 rfl (dk_at dk_M_lists_0 29 rfl) ?_
      refine r_lv [1, 2, 0] rfl ?_
      exact k7 _ _ h
set_option maxRecDepth 20000 in
theorem t_M_lists_l7 {X : CT} {w : WO} (C : CF X w (lim0 w) 3 cX11_lists RX11 none (.code yX11_lists cX11_lists 3 none) (rmK 1 21)) (hL : LyM w) {a1 : Int32} {post : DD → Prop} {σ : DD} {a2 : Int32} (h : w_M_lists_l7 post σ a1 a2) : gW X w (lim0 w) 3 (QV X w post) σ 7 [(0, .ref (wAd w 0)), (1, .int a1), (2, .int a2)] [] :=
  LoopW (G := fun x : DD × Int32 => gW X w (lim0 w) 3 (QV X w post) x.1 7 [(0, .ref (wAd w 0)), (1, .int a1), (2, .int x.2)] []) (fun K x hK hF => t_M_lists_b7 C hL (fun σ a2 q => hK (σ, a2) q) hF) h
set_option maxRecDepth 20000 in
theorem m_M_lists {l : Launch} {w : WO} (hL : LyM w) {σ : DD} {a1 : Int32} {post : DD → Prop} (h : w_M_lists σ a1 post) : MV l w yX11_lists cX11_lists 3 (rmK 1 21) σ [.ref (wAd w 0), .int a1] post :=
  met_head (rt := none) (by decide) rfl (fun X hX C => by
  subst hX
  unfold w_M_lists at h
  show gW X w (lim0 w) 3 (QV X w post) σ 0 [(0, .ref (wAd w 0)), (1, .int a1)] []
  refine r_aload_n C 0 rfl (dk_at dk_M_lists_0 0 rfl) ?_
  refine r_iconst C 0 (dk_at dk_M_lists_0 1 rfl) ?_
  refine r_putI C fl_M_372 0 (hL 0 _ rfl) rfl (dk_at dk_M_lists_0 2 rfl) (r_sg (fun σ10 e11 => ?_))
  replace h := h σ10 e11
  refine r_iconst C 0 (dk_at dk_M_lists_0 3 rfl) ?_
  refine r_istore_n C [(2, .int 0), (0, .ref (wAd w 0)), (1, .int a1)] rfl rfl (dk_at dk_M_lists_0 4 rfl) ?_
  refine r_lv [1, 2, 0] rfl ?_
  exact t_M_lists_l7 C hL h
  )
set_option maxRecDepth 20000 in
theorem t_M_shares_b12 {o_shares : DD → Int32 → Int32 → (Int32 → DD → Prop) → Prop} {f0 q0 f_shares q_shares : Nat} {X : CT} {w : WO} (C : CF X w (lim0 w) 6 cX11_shares RX11 (some .boolean) (.code yX11_shares cX11_shares 6 (some .boolean)) (rmK f0 q0)) (hL : LyM w) (hr0 : 91 ≤ f0 ∧ 2201 ≤ q0) (hr_shares : f_shares + 1 ≤ f0 ∧ 8 + (6 + 11) + q_shares ≤ q0) (ho_shares : ∀ (σ : DD) (a1 : Int32) (a2 : Int32) (post : Int32 → DD → Prop), o_shares σ a1 a2 post → MI X.l w yX11_shares cX11_shares 6 .boolean (rmK f_shares q_shares) σ [.ref (wAd w 0), .int a1, .int a2] post) {a1 : Int32} {a2 : Int32} {K12 : DD → Int32 → Prop} {post : Int32 → DD → Prop} (k12 : ∀ (σ : DD) (a3 : Int32), K12 σ a3 → gW X w (lim0 w) 6 (QI X w post) σ 12 [(0, .ref (wAd w 0)), (1, .int a1), (2, .int a2), (3, .int a3)] []) {σ : DD} {a3 : Int32} (h : w_M_shares_b12 o_shares a1 a2 K12 post σ a3) : gW X w (lim0 w) 6 (QI X w post) σ 12 [(0, .ref (wAd w 0)), (1, .int a1), (2, .int a2), (3, .int a3)] [] := by
  unfold w_M_shares_b12 at h
  refine r_iload_n C 3 rfl (dk_at dk_M_shares_0 8 rfl) ?_
  refine r_aload_n C 0 rfl (dk_at dk_M_shares_0 9 rfl) ?_
  refine r_getR C fl_M_20 0 (hL 0 _ rfl) rfl (dk_at dk_M_shares_0 10 rfl) ?_
  refine r_sipush C 400 (dk_at dk_M_shares_0 11 rfl) ?_
  refine r_ialdK C 4 (hL 4 _ rfl) lk_400 (vk_400_6012) (dk_at dk_M_shares_0 12 rfl) ?_
  refine r_icmp_ge C 149 rfl (dk_at dk_M_shares_0 13 rfl) (fun c1 => ?_) (fun c1 => ?_)
  · replace h := h.1 c1
    refine r_iconst C 0 (dk_at dk_M_shares_2 8 rfl) ?_
    exact r_zret C (Or.inl rfl) h (dk_at dk_M_shares_2 9 rfl)
  · replace h := h.2 c1
    refine r_iload_n C 2 rfl (dk_at dk_M_shares_0 14 rfl) ?_
    refine r_iload_n C 3 rfl (dk_at dk_M_shares_0 15 rfl) ?_
    refine r_csI C cs_M_338 [.int a2, .int a3] (m_M_isIn hL h) (rmK_ok2 (f := f0) (q := q0) (f' := 0) (q' := 0) (by omega) (by omega)) rfl rfl (Nat.le_of_ble_eq_true rfl) (dk_at dk_M_shares_0 16 rfl) (fun r2 σ3 h => ?_)
    refine r_if_eq C 143 rfl (dk_at dk_M_shares_0 17 rfl) (fun c4 => ?_) (fun c4 => ?_)
    · replace h := h.1 c4
      refine r_iinc C 3 rfl rfl [(3, .int (a3 + 1)), (0, .ref (wAd w 0)), (1, .int a1), (2, .int a2)] rfl rfl (dk_at dk_M_shares_2 6 rfl) ?_
      refine r_goto C 12 rfl (dk_at dk_M_shares_2 7 rfl) ?_
      refine r_lv [1, 2, 3, 0] rfl ?_
      exact k12 _ _ h
    · replace h := h.2 c4
      refine r_aload_n C 0 rfl (dk_at dk_M_shares_0 18 rfl) ?_
      refine r_aload_n C 0 rfl (dk_at dk_M_shares_0 19 rfl) ?_
      refine r_getR C fl_M_73 0 (hL 0 _ rfl) rfl (dk_at dk_M_shares_0 20 rfl) ?_
      refine r_iload_n C 1 rfl (dk_at dk_M_shares_0 21 rfl) ?_
      obtain ⟨q5, h⟩ := h
      refine r_iald C 39 (hL 39 _ rfl) q5 (dk_at dk_M_shares_0 22 rfl) ?_
      refine r_iload_n C 3 rfl (dk_at dk_M_shares_0 23 rfl) ?_
      refine r_aload_n C 0 rfl (dk_at dk_M_shares_0 24 rfl) ?_
      refine r_getR C fl_M_20 0 (hL 0 _ rfl) rfl (dk_at dk_M_shares_0 25 rfl) ?_
      refine r_sipush C 395 (dk_at dk_M_shares_0 26 rfl) ?_
      refine r_ialdK C 4 (hL 4 _ rfl) lk_395 (vk_395_6012) (dk_at dk_M_shares_0 27 rfl) ?_
      refine r_cvI C cl_M_313 0 (hL 0 _ rfl) [.int (gI σ3 39 a1.toNatClampNeg), .int a3, .int (gI σ3 4 395)] (m_M_isBarred hL h) (rmK_ok2 (f := f0) (q := q0) (f' := 90) (q' := 2178) (by omega) (by omega)) rfl rfl (Nat.le_of_ble_eq_true rfl) (dk_at dk_M_shares_0 28 rfl) (fun r6 σ7 h => ?_)
      refine r_if_eq C 57 rfl (dk_at dk_M_shares_0 29 rfl) (fun c8 => ?_) (fun c8 => ?_)
      · replace h := h.1 c8
        refine r_aload_n C 0 rfl (dk_at dk_M_shares_0 31 rfl) ?_
        refine r_aload_n C 0 rfl (dk_at dk_M_shares_0 32 rfl) ?_
        refine r_getR C fl_M_73 0 (hL 0 _ rfl) rfl (dk_at dk_M_shares_0 33 rfl) ?_
        refine r_iload_n C 1 rfl (dk_at dk_M_shares_0 34 rfl) ?_
        obtain ⟨q9, h⟩ := h
        refine r_iald C 39 (hL 39 _ rfl) q9 (dk_at dk_M_shares_0 35 rfl) ?_
        refine r_iload_n C 3 rfl (dk_at dk_M_shares_0 36 rfl) ?_
        refine r_aload_n C 0 rfl (dk_at dk_M_shares_0 37 rfl) ?_
        refine r_getR C fl_M_20 0 (hL 0 _ rfl) rfl (dk_at dk_M_shares_0 38 rfl) ?_
        refine r_sipush C 395 (dk_at dk_M_shares_0 39 rfl) ?_
        refine r_ialdK C 4 (hL 4 _ rfl) lk_395 (vk_395_6012) (dk_at dk_M_shares_1 0 rfl) ?_
        refine r_cvI C cl_M_310 0 (hL 0 _ rfl) [.int (gI σ7 39 a1.toNatClampNeg), .int a3, .int (gI σ7 4 395)] (m_M_takesOf hL h) (rmK_ok2 (f := f0) (q := q0) (f' := 90) (q' := 2178) (by omega) (by omega)) rfl rfl (Nat.le_of_ble_eq_true rfl) (dk_at dk_M_shares_1 1 rfl) (fun r10 σ11 h => ?_)
        refine r_istore C [(4, .int r10), (0, .ref (wAd w 0)), (1, .int a1), (2, .int a2), (3, .int a3)] rfl rfl (dk_at dk_M_shares_1 2 rfl) ?_
        refine r_aload_n C 1 rfl (dk_at dk_M_shares_1 3 rfl) ?_
        refine r_getR C fl_M_76 0 (hL 0 _ rfl) rfl (dk_at dk_M_shares_1 4 rfl) ?_
        refine r_iload_n C 4 rfl (dk_at dk_M_shares_1 5 rfl) ?_
        obtain ⟨q12, h⟩ := h
        refine r_iald C 40 (hL 40 _ rfl) q12 (dk_at dk_M_shares_1 6 rfl) ?_
        refine r_iload C 0 rfl (dk_at dk_M_shares_1 7 rfl) ?_
        refine r_iadd C (dk_at dk_M_shares_1 8 rfl) ?_
        refine r_aload_n C 1 rfl (dk_at dk_M_shares_1 9 rfl) ?_
        refine r_getR C fl_M_20 0 (hL 0 _ rfl) rfl (dk_at dk_M_shares_1 10 rfl) ?_
        refine r_bipush C 96 (dk_at dk_M_shares_1 11 rfl) ?_
        refine r_iconst C 2 (dk_at dk_M_shares_1 12 rfl) ?_
        refine r_iload_n C 4 rfl (dk_at dk_M_shares_1 13 rfl) ?_
        refine r_imul C (dk_at dk_M_shares_1 14 rfl) ?_
        refine r_iadd C (dk_at dk_M_shares_1 15 rfl) ?_
        obtain ⟨q13, h⟩ := h
        refine r_iald C 4 (hL 4 _ rfl) q13 (dk_at dk_M_shares_1 16 rfl) ?_
        refine r_icmp_le C 104 rfl (dk_at dk_M_shares_1 17 rfl) (fun c14 => ?_) (fun c14 => ?_)
        · replace h := h.1 c14
          refine r_aload_n C 1 rfl (dk_at dk_M_shares_1 19 rfl) ?_
          refine r_getR C fl_M_76 0 (hL 0 _ rfl) rfl (dk_at dk_M_shares_1 20 rfl) ?_
          refine r_iload_n C 4 rfl (dk_at dk_M_shares_1 21 rfl) ?_
          refine r_dup2 C rfl rfl (dk_at dk_M_shares_1 22 rfl) ?_
          obtain ⟨q15, h⟩ := h
          refine r_iald C 40 (hL 40 _ rfl) q15 (dk_at dk_M_shares_1 23 rfl) ?_
          refine r_iload C 0 rfl (dk_at dk_M_shares_1 24 rfl) ?_
          refine r_iadd C (dk_at dk_M_shares_1 25 rfl) ?_
          obtain ⟨q18, h⟩ := h
          refine r_iast C 40 (hL 40 _ rfl) q18 (dk_at dk_M_shares_1 26 rfl) (r_sg (fun σ16 e17 => ?_))
          replace h := h σ16 e17
          refine r_aload_n C 1 rfl (dk_at dk_M_shares_1 27 rfl) ?_
          refine r_iload_n C 2 rfl (dk_at dk_M_shares_1 28 rfl) ?_
          refine r_iconst C 1 (dk_at dk_M_shares_1 29 rfl) ?_
          refine r_iadd C (dk_at dk_M_shares_1 30 rfl) ?_
          refine r_iload_n C 3 rfl (dk_at dk_M_shares_1 31 rfl) ?_
          refine r_cvI C cl_M_375 0 (hL 0 _ rfl) [.int (a1 + 1), .int a2] (ho_shares _ _ _ _ h) (rmK_ok2 hr_shares.1 hr_shares.2) rfl rfl (Nat.le_of_ble_eq_true rfl) (dk_at dk_M_shares_1 32 rfl) (fun r19 σ20 h => ?_)
          refine r_istore C [(5, .int r19), (4, .int r10), (0, .ref (wAd w 0)), (1, .int a1), (2, .int a2), (3, .int a3)] rfl rfl (dk_at dk_M_shares_1 33 rfl) ?_
          refine r_aload_n C 2 rfl (dk_at dk_M_shares_1 34 rfl) ?_
          refine r_getR C fl_M_76 0 (hL 0 _ rfl) rfl (dk_at dk_M_shares_1 35 rfl) ?_
          refine r_iload_n C 5 rfl (dk_at dk_M_shares_1 36 rfl) ?_
          refine r_dup2 C rfl rfl (dk_at dk_M_shares_1 37 rfl) ?_
          obtain ⟨q21, h⟩ := h
          refine r_iald C 40 (hL 40 _ rfl) q21 (dk_at dk_M_shares_1 38 rfl) ?_
          refine r_iload C 1 rfl (dk_at dk_M_shares_1 39 rfl) ?_
          refine r_isub C (dk_at dk_M_shares_2 0 rfl) ?_
          obtain ⟨q24, h⟩ := h
          refine r_iast C 40 (hL 40 _ rfl) q24 (dk_at dk_M_shares_2 1 rfl) (r_sg (fun σ22 e23 => ?_))
          replace h := h σ22 e23
          refine r_iload C 0 rfl (dk_at dk_M_shares_2 2 rfl) ?_
          refine r_if_eq C 143 rfl (dk_at dk_M_shares_2 3 rfl) (fun c25 => ?_) (fun c25 => ?_)
          · replace h := h.1 c25
            refine r_iinc C 5 rfl rfl [(3, .int (a3 + 1)), (5, .int r19), (4, .int r10), (0, .ref (wAd w 0)), (1, .int a1), (2, .int a2)] rfl rfl (dk_at dk_M_shares_2 6 rfl) ?_
            refine r_goto C 12 rfl (dk_at dk_M_shares_2 7 rfl) ?_
            refine r_lv [3, 4, 5, 0] rfl ?_
            exact k12 _ _ h
          · replace h := h.2 c25
            refine r_iconst C 1 (dk_at dk_M_shares_2 4 rfl) ?_
            exact r_zret C (Or.inr rfl) h (dk_at dk_M_shares_2 5 rfl)
        · replace h := h.2 c14
          refine r_goto C 143 rfl (dk_at dk_M_shares_1 18 rfl) ?_
          refine r_iinc C 4 rfl rfl [(3, .int (a3 + 1)), (4, .int r10), (0, .ref (wAd w 0)), (1, .int a1), (2, .int a2)] rfl rfl (dk_at dk_M_shares_2 6 rfl) ?_
          refine r_goto C 12 rfl (dk_at dk_M_shares_2 7 rfl) ?_
          refine r_lv [2, 3, 4, 0] rfl ?_
          exact k12 _ _ h
      · replace h := h.2 c8
        refine r_goto C 143 rfl (dk_at dk_M_shares_0 30 rfl) ?_
        refine r_iinc C 3 rfl rfl [(3, .int (a3 + 1)), (0, .ref (wAd w 0)), (1, .int a1), (2, .int a2)] rfl rfl (dk_at dk_M_shares_2 6 rfl) ?_
        refine r_goto C 12 rfl (dk_at dk_M_shares_2 7 rfl) ?_
        refine r_lv [1, 2, 3, 0] rfl ?_
        exact k12 _ _ h
set_option maxRecDepth 20000 in
theorem t_M_shares_l12 {o_shares : DD → Int32 → Int32 → (Int32 → DD → Prop) → Prop} {f0 q0 f_shares q_shares : Nat} {X : CT} {w : WO} (C : CF X w (lim0 w) 6 cX11_shares RX11 (some .boolean) (.code yX11_shares cX11_shares 6 (some .boolean)) (rmK f0 q0)) (hL : LyM w) (hr0 : 91 ≤ f0 ∧ 2201 ≤ q0) (hr_shares : f_shares + 1 ≤ f0 ∧ 8 + (6 + 11) + q_shares ≤ q0) (ho_shares : ∀ (σ : DD) (a1 : Int32) (a2 : Int32) (post : Int32 → DD → Prop), o_shares σ a1 a2 post → MI X.l w yX11_shares cX11_shares 6 .boolean (rmK f_shares q_shares) σ [.ref (wAd w 0), .int a1, .int a2] post) {a1 : Int32} {a2 : Int32} {post : Int32 → DD → Prop} {σ : DD} {a3 : Int32} (h : w_M_shares_l12 o_shares post σ a1 a2 a3) : gW X w (lim0 w) 6 (QI X w post) σ 12 [(0, .ref (wAd w 0)), (1, .int a1), (2, .int a2), (3, .int a3)] [] :=
  LoopW (G := fun x : DD × Int32 => gW X w (lim0 w) 6 (QI X w post) x.1 12 [(0, .ref (wAd w 0)), (1, .int a1), (2, .int a2), (3, .int x.2)] []) (fun K x hK hF => t_M_shares_b12 C hL hr0 hr_shares ho_shares (fun σ a3 q => hK (σ, a3) q) hF) h
set_option maxRecDepth 20000 in
theorem m_M_shares_o {l : Launch} {w : WO} (hL : LyM w) {o_shares : DD → Int32 → Int32 → (Int32 → DD → Prop) → Prop} {f0 q0 f_shares q_shares : Nat} (hr0 : 91 ≤ f0 ∧ 2201 ≤ q0) (hr_shares : f_shares + 1 ≤ f0 ∧ 8 + (6 + 11) + q_shares ≤ q0) (ho_shares : ∀ (σ : DD) (a1 : Int32) (a2 : Int32) (post : Int32 → DD → Prop), o_shares σ a1 a2 post → MI l w yX11_shares cX11_shares 6 .boolean (rmK f_shares q_shares) σ [.ref (wAd w 0), .int a1, .int a2] post) {σ : DD} {a1 : Int32} {a2 : Int32} {post : Int32 → DD → Prop} (h : w_M_shares_o o_shares σ a1 a2 post) : MI l w yX11_shares cX11_shares 6 .boolean (rmK f0 q0) σ [.ref (wAd w 0), .int a1, .int a2] post :=
  met_head (rt := (some .boolean)) (by decide) rfl (fun X hX C => by
  subst hX
  unfold w_M_shares_o at h
  show gW X w (lim0 w) 6 (QI X w post) σ 0 [(0, .ref (wAd w 0)), (1, .int a1), (2, .int a2)] []
  refine r_iload_n C 1 rfl (dk_at dk_M_shares_0 0 rfl) ?_
  refine r_aload_n C 0 rfl (dk_at dk_M_shares_0 1 rfl) ?_
  refine r_getI C fl_M_372 0 (hL 0 _ rfl) rfl (dk_at dk_M_shares_0 2 rfl) ?_
  refine r_icmp_ne C 10 rfl (dk_at dk_M_shares_0 3 rfl) (fun c26 => ?_) (fun c26 => ?_)
  · replace h := h.1 c26
    refine r_iconst C 0 (dk_at dk_M_shares_0 6 rfl) ?_
    refine r_istore_n C [(3, .int 0), (0, .ref (wAd w 0)), (1, .int a1), (2, .int a2)] rfl rfl (dk_at dk_M_shares_0 7 rfl) ?_
    refine r_lv [1, 2, 3, 0] rfl ?_
    exact t_M_shares_l12 C hL hr0 hr_shares ho_shares h
  · replace h := h.2 c26
    refine r_iconst C 1 (dk_at dk_M_shares_0 4 rfl) ?_
    exact r_zret C (Or.inr rfl) h (dk_at dk_M_shares_0 5 rfl)
  )
set_option maxRecDepth 20000 in
theorem m_M_shares_d {l : Launch} {w : WO} (hL : LyM w) : ∀ d : Nat, ∀ (σ : DD) (a1 : Int32) (a2 : Int32) (post : Int32 → DD → Prop), w_M_shares_d d σ a1 a2 post → MI l w yX11_shares cX11_shares 6 .boolean (rmK (91 + 1 * d) (2201 + 25 * d)) σ [.ref (wAd w 0), .int a1, .int a2] post := by
  intro d
  induction d with
  | zero => exact fun _ _ _ _ h => h.elim
  | succ n ih =>
    rw [show 91 + 1 * (n + 1) = 91 + 1 * n + 1 by omega, show 2201 + 25 * (n + 1) = 2201 + 25 * n + 25 by omega]
    exact (fun _ _ _ _ h => m_M_shares_o hL (f0 := 91 + 1 * n + 1) (q0 := 2201 + 25 * n + 25) (f_shares := 91 + 1 * n + 0) (q_shares := 2201 + 25 * n + 0) (by omega) (by omega) ih h)
set_option maxRecDepth 20000 in
theorem m_M_shares {l : Launch} {w : WO} (hL : LyM w) {σ : DD} {a1 : Int32} {a2 : Int32} {post : Int32 → DD → Prop} (h : w_M_shares σ a1 a2 post) : MI l w yX11_shares cX11_shares 6 .boolean (rmK 103 2501) σ [.ref (wAd w 0), .int a1, .int a2] post :=
  m_M_shares_d hL 12 _ _ _ _ h
set_option maxRecDepth 20000 in
theorem t_M_throats_b41 {X : CT} {w : WO} (C : CF X w (lim0 w) 5 cX11_throats RX11 (some .int) (.code yX11_throats cX11_throats 5 (some .int)) (rmK 104 2526)) (hL : LyM w) {K30 : DD → Int32 → Prop} {a2 : Int32} {a3 : Int32} {K41 : DD → Int32 → Prop} {post : Int32 → DD → Prop} (k30 : ∀ (σ : DD) (a3 : Int32), K30 σ a3 → gW X w (lim0 w) 5 (QI X w post) σ 30 [(0, .ref (wAd w 0)), (2, .int a2), (3, .int a3)] []) (k41 : ∀ (σ : DD) (a4 : Int32), K41 σ a4 → gW X w (lim0 w) 5 (QI X w post) σ 41 [(0, .ref (wAd w 0)), (2, .int a2), (3, .int a3), (4, .int a4)] []) {σ : DD} {a4 : Int32} (h : w_M_throats_b41 K30 a2 a3 K41 post σ a4) : gW X w (lim0 w) 5 (QI X w post) σ 41 [(0, .ref (wAd w 0)), (2, .int a2), (3, .int a3), (4, .int a4)] [] := by
  unfold w_M_throats_b41 at h
  refine r_iload C 3 rfl (dk_at dk_M_throats_0 24 rfl) ?_
  refine r_iload_n C 2 rfl (dk_at dk_M_throats_0 25 rfl) ?_
  refine r_icmp_ge C 75 rfl (dk_at dk_M_throats_0 26 rfl) (fun c1 => ?_) (fun c1 => ?_)
  · replace h := h.1 c1
    refine r_iinc C 2 rfl rfl [(3, .int (a3 + 1)), (0, .ref (wAd w 0)), (2, .int a2), (4, .int a4)] rfl rfl (dk_at dk_M_throats_1 2 rfl) ?_
    refine r_goto C 30 rfl (dk_at dk_M_throats_1 3 rfl) ?_
    refine r_lv [1, 2, 0] rfl ?_
    exact k30 _ _ h
  · replace h := h.2 c1
    refine r_aload_n C 0 rfl (dk_at dk_M_throats_0 27 rfl) ?_
    refine r_aload_n C 0 rfl (dk_at dk_M_throats_0 28 rfl) ?_
    refine r_getR C fl_M_73 0 (hL 0 _ rfl) rfl (dk_at dk_M_throats_0 29 rfl) ?_
    refine r_iload_n C 2 rfl (dk_at dk_M_throats_0 30 rfl) ?_
    obtain ⟨q2, h⟩ := h
    refine r_iald C 39 (hL 39 _ rfl) q2 (dk_at dk_M_throats_0 31 rfl) ?_
    refine r_aload_n C 0 rfl (dk_at dk_M_throats_0 32 rfl) ?_
    refine r_getR C fl_M_73 0 (hL 0 _ rfl) rfl (dk_at dk_M_throats_0 33 rfl) ?_
    refine r_iload C 3 rfl (dk_at dk_M_throats_0 34 rfl) ?_
    obtain ⟨q3, h⟩ := h
    refine r_iald C 39 (hL 39 _ rfl) q3 (dk_at dk_M_throats_0 35 rfl) ?_
    refine r_cvI C cl_M_316 0 (hL 0 _ rfl) [.int (gI σ 39 a3.toNatClampNeg), .int (gI σ 39 a4.toNatClampNeg)] (m_M_gainsays hL h) (rmK_ok rfl rfl) rfl rfl (Nat.le_of_ble_eq_true rfl) (dk_at dk_M_throats_0 36 rfl) (fun r4 σ5 h => ?_)
    refine r_if_eq C 69 rfl (dk_at dk_M_throats_0 37 rfl) (fun c6 => ?_) (fun c6 => ?_)
    · replace h := h.1 c6
      refine r_iinc C 3 rfl rfl [(4, .int (a4 + 1)), (0, .ref (wAd w 0)), (2, .int a2), (3, .int a3)] rfl rfl (dk_at dk_M_throats_1 0 rfl) ?_
      refine r_goto C 41 rfl (dk_at dk_M_throats_1 1 rfl) ?_
      refine r_lv [1, 2, 3, 0] rfl ?_
      exact k41 _ _ h
    · replace h := h.2 c6
      refine r_iconst C (-1) (dk_at dk_M_throats_0 38 rfl) ?_
      exact r_iret C h (dk_at dk_M_throats_0 39 rfl)
set_option maxRecDepth 20000 in
theorem t_M_throats_l41 {X : CT} {w : WO} (C : CF X w (lim0 w) 5 cX11_throats RX11 (some .int) (.code yX11_throats cX11_throats 5 (some .int)) (rmK 104 2526)) (hL : LyM w) {K30 : DD → Int32 → Prop} {a2 : Int32} {a3 : Int32} {post : Int32 → DD → Prop} (k30 : ∀ (σ : DD) (a3 : Int32), K30 σ a3 → gW X w (lim0 w) 5 (QI X w post) σ 30 [(0, .ref (wAd w 0)), (2, .int a2), (3, .int a3)] []) {σ : DD} {a4 : Int32} (h : w_M_throats_l41 K30 post σ a2 a3 a4) : gW X w (lim0 w) 5 (QI X w post) σ 41 [(0, .ref (wAd w 0)), (2, .int a2), (3, .int a3), (4, .int a4)] [] :=
  LoopW (G := fun x : DD × Int32 => gW X w (lim0 w) 5 (QI X w post) x.1 41 [(0, .ref (wAd w 0)), (2, .int a2), (3, .int a3), (4, .int x.2)] []) (fun K x hK hF => t_M_throats_b41 C hL k30 (fun σ a4 q => hK (σ, a4) q) hF) h
set_option maxRecDepth 20000 in
theorem t_M_throats_j118 {X : CT} {w : WO} (C : CF X w (lim0 w) 5 cX11_throats RX11 (some .int) (.code yX11_throats cX11_throats 5 (some .int)) (rmK 104 2526)) (hL : LyM w) {K86 : DD → Int32 → Int32 → Prop} {post : Int32 → DD → Prop} {a2 : Int32} {a3 : Int32} {a4 : Int32} (k86 : ∀ (σ : DD) (a3 : Int32) (a4 : Int32), K86 σ a3 a4 → gW X w (lim0 w) 5 (QI X w post) σ 86 [(0, .ref (wAd w 0)), (2, .int a2), (3, .int a3), (4, .int a4)] []) {σ : DD} (h : w_M_throats_j118 K86 post σ a2 a3 a4) : gW X w (lim0 w) 5 (QI X w post) σ 118 [(0, .ref (wAd w 0)), (2, .int a2), (3, .int a3), (4, .int a4)] [] := by
  unfold w_M_throats_j118 at h
  refine r_aload_n C 0 rfl (dk_at dk_M_throats_1 24 rfl) ?_
  refine r_iconst C 0 (dk_at dk_M_throats_1 25 rfl) ?_
  refine r_iload C 3 rfl (dk_at dk_M_throats_1 26 rfl) ?_
  refine r_cvI C cl_M_375 0 (hL 0 _ rfl) [.int 0, .int a4] (m_M_shares hL h) (rmK_ok rfl rfl) rfl rfl (Nat.le_of_ble_eq_true rfl) (dk_at dk_M_throats_1 27 rfl) (fun r7 σ8 h => ?_)
  refine r_if_eq C 131 rfl (dk_at dk_M_throats_1 28 rfl) (fun c9 => ?_) (fun c9 => ?_)
  · replace h := h.1 c9
    refine r_iinc C 3 rfl rfl [(4, .int (a4 + 1)), (0, .ref (wAd w 0)), (2, .int a2), (3, .int a3)] rfl rfl (dk_at dk_M_throats_1 31 rfl) ?_
    refine r_goto C 86 rfl (dk_at dk_M_throats_1 32 rfl) ?_
    refine r_lv [1, 2, 3, 0] rfl ?_
    exact k86 _ _ _ h
  · replace h := h.2 c9
    refine r_iload C 3 rfl (dk_at dk_M_throats_1 29 rfl) ?_
    refine r_istore_n C [(3, .int a4), (0, .ref (wAd w 0)), (2, .int a2), (4, .int a4)] rfl rfl (dk_at dk_M_throats_1 30 rfl) ?_
    refine r_iinc C 3 rfl rfl [(4, .int (a4 + 1)), (3, .int a4), (0, .ref (wAd w 0)), (2, .int a2)] rfl rfl (dk_at dk_M_throats_1 31 rfl) ?_
    refine r_goto C 86 rfl (dk_at dk_M_throats_1 32 rfl) ?_
    refine r_lv [2, 3, 1, 0] rfl ?_
    exact k86 _ _ _ h
set_option maxRecDepth 20000 in
theorem t_M_throats_b86 {X : CT} {w : WO} (C : CF X w (lim0 w) 5 cX11_throats RX11 (some .int) (.code yX11_throats cX11_throats 5 (some .int)) (rmK 104 2526)) (hL : LyM w) {a2 : Int32} {K86 : DD → Int32 → Int32 → Prop} {post : Int32 → DD → Prop} (k86 : ∀ (σ : DD) (a3 : Int32) (a4 : Int32), K86 σ a3 a4 → gW X w (lim0 w) 5 (QI X w post) σ 86 [(0, .ref (wAd w 0)), (2, .int a2), (3, .int a3), (4, .int a4)] []) {σ : DD} {a3 : Int32} {a4 : Int32} (h : w_M_throats_b86 a2 K86 post σ a3 a4) : gW X w (lim0 w) 5 (QI X w post) σ 86 [(0, .ref (wAd w 0)), (2, .int a2), (3, .int a3), (4, .int a4)] [] := by
  unfold w_M_throats_b86 at h
  refine r_iload C 3 rfl (dk_at dk_M_throats_1 8 rfl) ?_
  refine r_iconst C 1 (dk_at dk_M_throats_1 9 rfl) ?_
  refine r_aload_n C 0 rfl (dk_at dk_M_throats_1 10 rfl) ?_
  refine r_getR C fl_M_20 0 (hL 0 _ rfl) rfl (dk_at dk_M_throats_1 11 rfl) ?_
  refine r_sipush C 400 (dk_at dk_M_throats_1 12 rfl) ?_
  refine r_ialdK C 4 (hL 4 _ rfl) lk_400 (vk_400_6012) (dk_at dk_M_throats_1 13 rfl) ?_
  refine r_ishl C (dk_at dk_M_throats_1 14 rfl) ?_
  refine r_icmp_ge C 137 rfl (dk_at dk_M_throats_1 15 rfl) (fun c10 => ?_) (fun c10 => ?_)
  · replace h := h.1 c10
    refine r_iload_n C 2 rfl (dk_at dk_M_throats_1 33 rfl) ?_
    refine r_iconst C (-1) (dk_at dk_M_throats_1 34 rfl) ?_
    refine r_icmp_ne C 146 rfl (dk_at dk_M_throats_1 35 rfl) (fun c11 => ?_) (fun c11 => ?_)
    · replace h := h.1 c11
      refine r_iload_n C 1 rfl (dk_at dk_M_throats_1 38 rfl) ?_
      refine r_if_ne C 157 rfl (dk_at dk_M_throats_1 39 rfl) (fun c12 => ?_) (fun c12 => ?_)
      · replace h := h.1 c12
        refine r_iload_n C 2 rfl (dk_at dk_M_throats_2 3 rfl) ?_
        exact r_iret C h (dk_at dk_M_throats_2 4 rfl)
      · replace h := h.2 c12
        refine r_iload_n C 2 rfl (dk_at dk_M_throats_2 0 rfl) ?_
        refine r_csI C cs_M_288 [.int a3] (m_M_ones hL h) (rmK_ok rfl rfl) rfl rfl (Nat.le_of_ble_eq_true rfl) (dk_at dk_M_throats_2 1 rfl) (fun r13 σ14 h => ?_)
        refine r_goto C 158 rfl (dk_at dk_M_throats_2 2 rfl) ?_
        exact r_iret C h (dk_at dk_M_throats_2 4 rfl)
    · replace h := h.2 c11
      refine r_iconst C (-1) (dk_at dk_M_throats_1 36 rfl) ?_
      refine r_goto C 158 rfl (dk_at dk_M_throats_1 37 rfl) ?_
      exact r_iret C h (dk_at dk_M_throats_2 4 rfl)
  · replace h := h.2 c10
    refine r_iload_n C 2 rfl (dk_at dk_M_throats_1 16 rfl) ?_
    refine r_iconst C (-1) (dk_at dk_M_throats_1 17 rfl) ?_
    refine r_icmp_eq C 118 rfl (dk_at dk_M_throats_1 18 rfl) (fun c15 => ?_) (fun c15 => ?_)
    · replace h := h.1 c15
      refine r_lv [0, 1, 2, 3] rfl ?_
      exact t_M_throats_j118 C hL k86 h
    · replace h := h.2 c15
      refine r_iload C 3 rfl (dk_at dk_M_throats_1 19 rfl) ?_
      refine r_csI C cs_M_288 [.int a4] (m_M_ones hL h) (rmK_ok rfl rfl) rfl rfl (Nat.le_of_ble_eq_true rfl) (dk_at dk_M_throats_1 20 rfl) (fun r16 σ17 h => ?_)
      refine r_iload_n C 2 rfl (dk_at dk_M_throats_1 21 rfl) ?_
      refine r_csI C cs_M_288 [.int a3] (m_M_ones hL h) (rmK_ok rfl rfl) rfl rfl (Nat.le_of_ble_eq_true rfl) (dk_at dk_M_throats_1 22 rfl) (fun r18 σ19 h => ?_)
      refine r_icmp_ge C 131 rfl (dk_at dk_M_throats_1 23 rfl) (fun c20 => ?_) (fun c20 => ?_)
      · replace h := h.1 c20
        refine r_iinc C 3 rfl rfl [(4, .int (a4 + 1)), (0, .ref (wAd w 0)), (2, .int a2), (3, .int a3)] rfl rfl (dk_at dk_M_throats_1 31 rfl) ?_
        refine r_goto C 86 rfl (dk_at dk_M_throats_1 32 rfl) ?_
        refine r_lv [1, 2, 3, 0] rfl ?_
        exact k86 _ _ _ h
      · replace h := h.2 c20
        refine r_lv [0, 1, 2, 3] rfl ?_
        exact t_M_throats_j118 C hL k86 h
set_option maxRecDepth 20000 in
theorem t_M_throats_l86 {X : CT} {w : WO} (C : CF X w (lim0 w) 5 cX11_throats RX11 (some .int) (.code yX11_throats cX11_throats 5 (some .int)) (rmK 104 2526)) (hL : LyM w) {a2 : Int32} {post : Int32 → DD → Prop} {σ : DD} {a3 : Int32} {a4 : Int32} (h : w_M_throats_l86 post σ a2 a3 a4) : gW X w (lim0 w) 5 (QI X w post) σ 86 [(0, .ref (wAd w 0)), (2, .int a2), (3, .int a3), (4, .int a4)] [] :=
  LoopW (G := fun x : DD × Int32 × Int32 => gW X w (lim0 w) 5 (QI X w post) x.1 86 [(0, .ref (wAd w 0)), (2, .int a2), (3, .int x.2.1), (4, .int x.2.2)] []) (fun K x hK hF => t_M_throats_b86 C hL (fun σ a3 a4 q => hK (σ, a3, a4) q) hF) h
set_option maxRecDepth 20000 in
theorem t_M_throats_b30 {X : CT} {w : WO} (C : CF X w (lim0 w) 5 cX11_throats RX11 (some .int) (.code yX11_throats cX11_throats 5 (some .int)) (rmK 104 2526)) (hL : LyM w) {a2 : Int32} {K30 : DD → Int32 → Prop} {post : Int32 → DD → Prop} (k30 : ∀ (σ : DD) (a3 : Int32), K30 σ a3 → gW X w (lim0 w) 5 (QI X w post) σ 30 [(0, .ref (wAd w 0)), (2, .int a2), (3, .int a3)] []) {σ : DD} {a3 : Int32} (h : w_M_throats_b30 a2 K30 post σ a3) : gW X w (lim0 w) 5 (QI X w post) σ 30 [(0, .ref (wAd w 0)), (2, .int a2), (3, .int a3)] [] := by
  unfold w_M_throats_b30 at h
  refine r_iload_n C 2 rfl (dk_at dk_M_throats_0 18 rfl) ?_
  refine r_aload_n C 0 rfl (dk_at dk_M_throats_0 19 rfl) ?_
  refine r_getI C fl_M_372 0 (hL 0 _ rfl) rfl (dk_at dk_M_throats_0 20 rfl) ?_
  refine r_icmp_ge C 81 rfl (dk_at dk_M_throats_0 21 rfl) (fun c21 => ?_) (fun c21 => ?_)
  · replace h := h.1 c21
    refine r_iconst C (-1) (dk_at dk_M_throats_1 4 rfl) ?_
    refine r_istore_n C [(3, .int (-1)), (0, .ref (wAd w 0)), (2, .int a2)] rfl rfl (dk_at dk_M_throats_1 5 rfl) ?_
    refine r_iconst C 1 (dk_at dk_M_throats_1 6 rfl) ?_
    refine r_istore C [(4, .int 1), (3, .int (-1)), (0, .ref (wAd w 0)), (2, .int a2)] rfl rfl (dk_at dk_M_throats_1 7 rfl) ?_
    refine r_lv [2, 3, 1, 0] rfl ?_
    exact t_M_throats_l86 C hL h
  · replace h := h.2 c21
    refine r_iconst C 0 (dk_at dk_M_throats_0 22 rfl) ?_
    refine r_istore C [(4, .int 0), (0, .ref (wAd w 0)), (2, .int a2), (3, .int a3)] rfl rfl (dk_at dk_M_throats_0 23 rfl) ?_
    refine r_lv [1, 2, 3, 0] rfl ?_
    exact t_M_throats_l41 C hL k30 h
set_option maxRecDepth 20000 in
theorem t_M_throats_l30 {X : CT} {w : WO} (C : CF X w (lim0 w) 5 cX11_throats RX11 (some .int) (.code yX11_throats cX11_throats 5 (some .int)) (rmK 104 2526)) (hL : LyM w) {a2 : Int32} {post : Int32 → DD → Prop} {σ : DD} {a3 : Int32} (h : w_M_throats_l30 post σ a2 a3) : gW X w (lim0 w) 5 (QI X w post) σ 30 [(0, .ref (wAd w 0)), (2, .int a2), (3, .int a3)] [] :=
  LoopW (G := fun x : DD × Int32 => gW X w (lim0 w) 5 (QI X w post) x.1 30 [(0, .ref (wAd w 0)), (2, .int a2), (3, .int x.2)] []) (fun K x hK hF => t_M_throats_b30 C hL (fun σ a3 q => hK (σ, a3) q) hF) h
set_option maxRecDepth 20000 in
theorem m_M_throats {l : Launch} {w : WO} (hL : LyM w) {σ : DD} {a1 : Int32} {a2 : Int32} {post : Int32 → DD → Prop} (h : w_M_throats σ a1 a2 post) : MI l w yX11_throats cX11_throats 5 .int (rmK 104 2526) σ [.ref (wAd w 0), .int a1, .int a2] post :=
  met_head (rt := (some .int)) (by decide) rfl (fun X hX C => by
  subst hX
  unfold w_M_throats at h
  show gW X w (lim0 w) 5 (QI X w post) σ 0 [(0, .ref (wAd w 0)), (1, .int a1), (2, .int a2)] []
  refine r_aload_n C 0 rfl (dk_at dk_M_throats_0 0 rfl) ?_
  refine r_iload_n C 1 rfl (dk_at dk_M_throats_0 1 rfl) ?_
  refine r_cvI C cl_M_359 0 (hL 0 _ rfl) [.int a1] (m_M_areActs hL h) (rmK_ok rfl rfl) rfl rfl (Nat.le_of_ble_eq_true rfl) (dk_at dk_M_throats_0 2 rfl) (fun r22 σ23 h => ?_)
  refine r_if_eq C 21 rfl (dk_at dk_M_throats_0 3 rfl) (fun c24 => ?_) (fun c24 => ?_)
  · replace h := h.1 c24
    refine r_iconst C (-1) (dk_at dk_M_throats_0 11 rfl) ?_
    exact r_iret C h (dk_at dk_M_throats_0 12 rfl)
  · replace h := h.2 c24
    refine r_iload_n C 1 rfl (dk_at dk_M_throats_0 4 rfl) ?_
    refine r_if_eq C 21 rfl (dk_at dk_M_throats_0 5 rfl) (fun c25 => ?_) (fun c25 => ?_)
    · replace h := h.1 c25
      refine r_iconst C (-1) (dk_at dk_M_throats_0 11 rfl) ?_
      exact r_iret C h (dk_at dk_M_throats_0 12 rfl)
    · replace h := h.2 c25
      refine r_iload_n C 2 rfl (dk_at dk_M_throats_0 6 rfl) ?_
      refine r_iconst C 0 (dk_at dk_M_throats_0 7 rfl) ?_
      refine r_iconst C 1 (dk_at dk_M_throats_0 8 rfl) ?_
      refine r_csI C cs_M_101 [.int a2, .int 0, .int 1] (m_M_lies hL h) (rmK_ok rfl rfl) rfl rfl (Nat.le_of_ble_eq_true rfl) (dk_at dk_M_throats_0 9 rfl) (fun r26 σ27 h => ?_)
      refine r_if_ne C 23 rfl (dk_at dk_M_throats_0 10 rfl) (fun c28 => ?_) (fun c28 => ?_)
      · replace h := h.1 c28
        refine r_aload_n C 0 rfl (dk_at dk_M_throats_0 13 rfl) ?_
        refine r_iload_n C 1 rfl (dk_at dk_M_throats_0 14 rfl) ?_
        refine r_cvV C cl_M_378 0 (hL 0 _ rfl) [.int a1] (m_M_lists hL h) (rmK_ok rfl rfl) rfl rfl (Nat.le_of_ble_eq_true rfl) (dk_at dk_M_throats_0 15 rfl) (fun σ30 h => ?_)
        refine r_iconst C 0 (dk_at dk_M_throats_0 16 rfl) ?_
        refine r_istore_n C [(3, .int 0), (0, .ref (wAd w 0)), (1, .int a1), (2, .int a2)] rfl rfl (dk_at dk_M_throats_0 17 rfl) ?_
        refine r_lv [1, 3, 0] rfl ?_
        exact t_M_throats_l30 C hL h
      · replace h := h.2 c28
        refine r_iconst C (-1) (dk_at dk_M_throats_0 11 rfl) ?_
        exact r_iret C h (dk_at dk_M_throats_0 12 rfl)
  )
set_option maxRecDepth 20000 in
theorem t_M_parts_j70 {o_parts : DD → Int32 → Int32 → (Int32 → DD → Prop) → Prop} {f0 q0 f_parts q_parts : Nat} {X : CT} {w : WO} (C : CF X w (lim0 w) 6 cX11_parts RX11 (some .boolean) (.code yX11_parts cX11_parts 6 (some .boolean)) (rmK f0 q0)) (hL : LyM w) (hr0 : 1 ≤ f0 ∧ 22 ≤ q0) (hr_parts : f_parts + 1 ≤ f0 ∧ 8 + (6 + 11) + q_parts ≤ q0) (ho_parts : ∀ (σ : DD) (a1 : Int32) (a2 : Int32) (post : Int32 → DD → Prop), o_parts σ a1 a2 post → MI X.l w yX11_parts cX11_parts 6 .boolean (rmK f_parts q_parts) σ [.ref (wAd w 0), .int a1, .int a2] post) {K12 : DD → Int32 → Prop} {K23 : DD → Int32 → Int32 → Prop} {post : Int32 → DD → Prop} {a1 : Int32} {a2 : Int32} {a3 : Int32} {a5 : Int32} {t0 : Int32} (k12 : ∀ (σ : DD) (a3 : Int32), K12 σ a3 → gW X w (lim0 w) 6 (QI X w post) σ 12 [(0, .ref (wAd w 0)), (1, .int a1), (2, .int a2), (3, .int a3)] []) (k23 : ∀ (σ : DD) (a4 : Int32) (a5 : Int32), K23 σ a4 a5 → gW X w (lim0 w) 6 (QI X w post) σ 23 [(0, .ref (wAd w 0)), (1, .int a1), (2, .int a2), (3, .int a3), (4, .int a4), (5, .int a5)] []) {σ : DD} (h : w_M_parts_j70 o_parts K12 K23 post σ a1 a2 a3 a5 t0) : gW X w (lim0 w) 6 (QI X w post) σ 70 [(0, .ref (wAd w 0)), (1, .int a1), (2, .int a2), (3, .int a3), (5, .int a5)] [.int t0] := by
  unfold w_M_parts_j70 at h
  refine r_istore C [(4, .int t0), (0, .ref (wAd w 0)), (1, .int a1), (2, .int a2), (3, .int a3), (5, .int a5)] rfl rfl (dk_at dk_M_parts_1 0 rfl) ?_
  refine r_iinc C 5 rfl rfl [(5, .int (a5 + 1)), (4, .int t0), (0, .ref (wAd w 0)), (1, .int a1), (2, .int a2), (3, .int a3)] rfl rfl (dk_at dk_M_parts_1 1 rfl) ?_
  refine r_goto C 23 rfl (dk_at dk_M_parts_1 2 rfl) ?_
  refine r_lv [2, 3, 4, 5, 1, 0] rfl ?_
  exact k23 _ _ _ h
set_option maxRecDepth 20000 in
theorem t_M_parts_j65 {o_parts : DD → Int32 → Int32 → (Int32 → DD → Prop) → Prop} {f0 q0 f_parts q_parts : Nat} {X : CT} {w : WO} (C : CF X w (lim0 w) 6 cX11_parts RX11 (some .boolean) (.code yX11_parts cX11_parts 6 (some .boolean)) (rmK f0 q0)) (hL : LyM w) (hr0 : 1 ≤ f0 ∧ 22 ≤ q0) (hr_parts : f_parts + 1 ≤ f0 ∧ 8 + (6 + 11) + q_parts ≤ q0) (ho_parts : ∀ (σ : DD) (a1 : Int32) (a2 : Int32) (post : Int32 → DD → Prop), o_parts σ a1 a2 post → MI X.l w yX11_parts cX11_parts 6 .boolean (rmK f_parts q_parts) σ [.ref (wAd w 0), .int a1, .int a2] post) {K12 : DD → Int32 → Prop} {K23 : DD → Int32 → Int32 → Prop} {post : Int32 → DD → Prop} {a1 : Int32} {a2 : Int32} {a3 : Int32} {a5 : Int32} (k12 : ∀ (σ : DD) (a3 : Int32), K12 σ a3 → gW X w (lim0 w) 6 (QI X w post) σ 12 [(0, .ref (wAd w 0)), (1, .int a1), (2, .int a2), (3, .int a3)] []) (k23 : ∀ (σ : DD) (a4 : Int32) (a5 : Int32), K23 σ a4 a5 → gW X w (lim0 w) 6 (QI X w post) σ 23 [(0, .ref (wAd w 0)), (1, .int a1), (2, .int a2), (3, .int a3), (4, .int a4), (5, .int a5)] []) {σ : DD} (h : w_M_parts_j65 o_parts K12 K23 post σ a1 a2 a3 a5) : gW X w (lim0 w) 6 (QI X w post) σ 65 [(0, .ref (wAd w 0)), (1, .int a1), (2, .int a2), (3, .int a3), (5, .int a5)] [] := by
  unfold w_M_parts_j65 at h
  refine r_iconst C 1 (dk_at dk_M_parts_0 37 rfl) ?_
  refine r_goto C 70 rfl (dk_at dk_M_parts_0 38 rfl) ?_
  refine r_lv [0, 1, 2, 3, 4] rfl ?_
  exact t_M_parts_j70 C hL hr0 hr_parts ho_parts k12 k23 h
set_option maxRecDepth 20000 in
theorem t_M_parts_j78 {o_parts : DD → Int32 → Int32 → (Int32 → DD → Prop) → Prop} {f0 q0 f_parts q_parts : Nat} {X : CT} {w : WO} (C : CF X w (lim0 w) 6 cX11_parts RX11 (some .boolean) (.code yX11_parts cX11_parts 6 (some .boolean)) (rmK f0 q0)) (hL : LyM w) (hr0 : 1 ≤ f0 ∧ 22 ≤ q0) (hr_parts : f_parts + 1 ≤ f0 ∧ 8 + (6 + 11) + q_parts ≤ q0) (ho_parts : ∀ (σ : DD) (a1 : Int32) (a2 : Int32) (post : Int32 → DD → Prop), o_parts σ a1 a2 post → MI X.l w yX11_parts cX11_parts 6 .boolean (rmK f_parts q_parts) σ [.ref (wAd w 0), .int a1, .int a2] post) {K12 : DD → Int32 → Prop} {post : Int32 → DD → Prop} {a1 : Int32} {a2 : Int32} {a3 : Int32} {a4 : Int32} (k12 : ∀ (σ : DD) (a3 : Int32), K12 σ a3 → gW X w (lim0 w) 6 (QI X w post) σ 12 [(0, .ref (wAd w 0)), (1, .int a1), (2, .int a2), (3, .int a3)] []) {σ : DD} (h : w_M_parts_j78 o_parts K12 post σ a1 a2 a3 a4) : gW X w (lim0 w) 6 (QI X w post) σ 78 [(0, .ref (wAd w 0)), (1, .int a1), (2, .int a2), (3, .int a3), (4, .int a4)] [] := by
  unfold w_M_parts_j78 at h
  refine r_iload C 4 rfl (dk_at dk_M_parts_1 3 rfl) ?_
  refine r_if_ne C 86 rfl (dk_at dk_M_parts_1 4 rfl) (fun c1 => ?_) (fun c1 => ?_)
  · replace h := h.1 c1
    refine r_aload_n C 0 rfl (dk_at dk_M_parts_1 6 rfl) ?_
    refine r_getR C fl_M_79 0 (hL 0 _ rfl) rfl (dk_at dk_M_parts_1 7 rfl) ?_
    refine r_iload_n C 1 rfl (dk_at dk_M_parts_1 8 rfl) ?_
    refine r_iload_n C 3 rfl (dk_at dk_M_parts_1 9 rfl) ?_
    obtain ⟨q4, h⟩ := h
    refine r_iast C 42 (hL 42 _ rfl) q4 (dk_at dk_M_parts_1 10 rfl) (r_sg (fun σ2 e3 => ?_))
    replace h := h σ2 e3
    refine r_aload_n C 0 rfl (dk_at dk_M_parts_1 11 rfl) ?_
    refine r_iload_n C 1 rfl (dk_at dk_M_parts_1 12 rfl) ?_
    refine r_iconst C 1 (dk_at dk_M_parts_1 13 rfl) ?_
    refine r_iadd C (dk_at dk_M_parts_1 14 rfl) ?_
    refine r_iload_n C 2 rfl (dk_at dk_M_parts_1 15 rfl) ?_
    refine r_cvI C cl_M_381 0 (hL 0 _ rfl) [.int (a1 + 1), .int a2] (ho_parts _ _ _ _ h) (rmK_ok2 hr_parts.1 hr_parts.2) rfl rfl (Nat.le_of_ble_eq_true rfl) (dk_at dk_M_parts_1 16 rfl) (fun r5 σ6 h => ?_)
    refine r_if_eq C 106 rfl (dk_at dk_M_parts_1 17 rfl) (fun c7 => ?_) (fun c7 => ?_)
    · replace h := h.1 c7
      refine r_iinc C 3 rfl rfl [(3, .int (a3 + 1)), (0, .ref (wAd w 0)), (1, .int a1), (2, .int a2), (4, .int a4)] rfl rfl (dk_at dk_M_parts_1 20 rfl) ?_
      refine r_goto C 12 rfl (dk_at dk_M_parts_1 21 rfl) ?_
      refine r_lv [1, 2, 3, 0] rfl ?_
      exact k12 _ _ h
    · replace h := h.2 c7
      refine r_iconst C 1 (dk_at dk_M_parts_1 18 rfl) ?_
      exact r_zret C (Or.inr rfl) h (dk_at dk_M_parts_1 19 rfl)
  · replace h := h.2 c1
    refine r_goto C 106 rfl (dk_at dk_M_parts_1 5 rfl) ?_
    refine r_iinc C 3 rfl rfl [(3, .int (a3 + 1)), (0, .ref (wAd w 0)), (1, .int a1), (2, .int a2), (4, .int a4)] rfl rfl (dk_at dk_M_parts_1 20 rfl) ?_
    refine r_goto C 12 rfl (dk_at dk_M_parts_1 21 rfl) ?_
    refine r_lv [1, 2, 3, 0] rfl ?_
    exact k12 _ _ h
set_option maxRecDepth 20000 in
theorem t_M_parts_b23 {o_parts : DD → Int32 → Int32 → (Int32 → DD → Prop) → Prop} {f0 q0 f_parts q_parts : Nat} {X : CT} {w : WO} (C : CF X w (lim0 w) 6 cX11_parts RX11 (some .boolean) (.code yX11_parts cX11_parts 6 (some .boolean)) (rmK f0 q0)) (hL : LyM w) (hr0 : 1 ≤ f0 ∧ 22 ≤ q0) (hr_parts : f_parts + 1 ≤ f0 ∧ 8 + (6 + 11) + q_parts ≤ q0) (ho_parts : ∀ (σ : DD) (a1 : Int32) (a2 : Int32) (post : Int32 → DD → Prop), o_parts σ a1 a2 post → MI X.l w yX11_parts cX11_parts 6 .boolean (rmK f_parts q_parts) σ [.ref (wAd w 0), .int a1, .int a2] post) {K12 : DD → Int32 → Prop} {a1 : Int32} {a2 : Int32} {a3 : Int32} {K23 : DD → Int32 → Int32 → Prop} {post : Int32 → DD → Prop} (k12 : ∀ (σ : DD) (a3 : Int32), K12 σ a3 → gW X w (lim0 w) 6 (QI X w post) σ 12 [(0, .ref (wAd w 0)), (1, .int a1), (2, .int a2), (3, .int a3)] []) (k23 : ∀ (σ : DD) (a4 : Int32) (a5 : Int32), K23 σ a4 a5 → gW X w (lim0 w) 6 (QI X w post) σ 23 [(0, .ref (wAd w 0)), (1, .int a1), (2, .int a2), (3, .int a3), (4, .int a4), (5, .int a5)] []) {σ : DD} {a4 : Int32} {a5 : Int32} (h : w_M_parts_b23 o_parts K12 a1 a2 a3 K23 post σ a4 a5) : gW X w (lim0 w) 6 (QI X w post) σ 23 [(0, .ref (wAd w 0)), (1, .int a1), (2, .int a2), (3, .int a3), (4, .int a4), (5, .int a5)] [] := by
  unfold w_M_parts_b23 at h
  refine r_iload C 5 rfl (dk_at dk_M_parts_0 15 rfl) ?_
  refine r_iload_n C 1 rfl (dk_at dk_M_parts_0 16 rfl) ?_
  refine r_icmp_ge C 78 rfl (dk_at dk_M_parts_0 17 rfl) (fun c8 => ?_) (fun c8 => ?_)
  · replace h := h.1 c8
    refine r_lv [0, 1, 2, 3, 4] rfl ?_
    exact t_M_parts_j78 C hL hr0 hr_parts ho_parts k12 h
  · replace h := h.2 c8
    refine r_iload C 4 rfl (dk_at dk_M_parts_0 18 rfl) ?_
    refine r_if_eq C 78 rfl (dk_at dk_M_parts_0 19 rfl) (fun c9 => ?_) (fun c9 => ?_)
    · replace h := h.1 c9
      refine r_lv [0, 1, 2, 3, 4] rfl ?_
      exact t_M_parts_j78 C hL hr0 hr_parts ho_parts k12 h
    · replace h := h.2 c9
      refine r_aload_n C 0 rfl (dk_at dk_M_parts_0 20 rfl) ?_
      refine r_getR C fl_M_79 0 (hL 0 _ rfl) rfl (dk_at dk_M_parts_0 21 rfl) ?_
      refine r_iload C 5 rfl (dk_at dk_M_parts_0 22 rfl) ?_
      obtain ⟨q10, h⟩ := h
      refine r_iald C 42 (hL 42 _ rfl) q10 (dk_at dk_M_parts_0 23 rfl) ?_
      refine r_iload_n C 3 rfl (dk_at dk_M_parts_0 24 rfl) ?_
      refine r_icmp_ne C 65 rfl (dk_at dk_M_parts_0 25 rfl) (fun c11 => ?_) (fun c11 => ?_)
      · replace h := h.1 c11
        refine r_lv [0, 1, 2, 3, 5] rfl ?_
        exact t_M_parts_j65 C hL hr0 hr_parts ho_parts k12 k23 h
      · replace h := h.2 c11
        refine r_aload_n C 0 rfl (dk_at dk_M_parts_0 26 rfl) ?_
        refine r_aload_n C 0 rfl (dk_at dk_M_parts_0 27 rfl) ?_
        refine r_getR C fl_M_73 0 (hL 0 _ rfl) rfl (dk_at dk_M_parts_0 28 rfl) ?_
        refine r_iload C 5 rfl (dk_at dk_M_parts_0 29 rfl) ?_
        obtain ⟨q12, h⟩ := h
        refine r_iald C 39 (hL 39 _ rfl) q12 (dk_at dk_M_parts_0 30 rfl) ?_
        refine r_aload_n C 0 rfl (dk_at dk_M_parts_0 31 rfl) ?_
        refine r_getR C fl_M_73 0 (hL 0 _ rfl) rfl (dk_at dk_M_parts_0 32 rfl) ?_
        refine r_iload_n C 1 rfl (dk_at dk_M_parts_0 33 rfl) ?_
        obtain ⟨q13, h⟩ := h
        refine r_iald C 39 (hL 39 _ rfl) q13 (dk_at dk_M_parts_0 34 rfl) ?_
        refine r_cvI C cl_M_316 0 (hL 0 _ rfl) [.int (gI σ 39 a5.toNatClampNeg), .int (gI σ 39 a1.toNatClampNeg)] (m_M_gainsays hL h) (rmK_ok2 (f := f0) (q := q0) (f' := 0) (q' := 0) (by omega) (by omega)) rfl rfl (Nat.le_of_ble_eq_true rfl) (dk_at dk_M_parts_0 35 rfl) (fun r14 σ15 h => ?_)
        refine r_if_ne C 69 rfl (dk_at dk_M_parts_0 36 rfl) (fun c16 => ?_) (fun c16 => ?_)
        · replace h := h.1 c16
          refine r_iconst C 0 (dk_at dk_M_parts_0 39 rfl) ?_
          refine r_lv [0, 1, 2, 3, 5] rfl ?_
          exact t_M_parts_j70 C hL hr0 hr_parts ho_parts k12 k23 h
        · replace h := h.2 c16
          refine r_lv [0, 1, 2, 3, 5] rfl ?_
          exact t_M_parts_j65 C hL hr0 hr_parts ho_parts k12 k23 h
set_option maxRecDepth 20000 in
theorem t_M_parts_l23 {o_parts : DD → Int32 → Int32 → (Int32 → DD → Prop) → Prop} {f0 q0 f_parts q_parts : Nat} {X : CT} {w : WO} (C : CF X w (lim0 w) 6 cX11_parts RX11 (some .boolean) (.code yX11_parts cX11_parts 6 (some .boolean)) (rmK f0 q0)) (hL : LyM w) (hr0 : 1 ≤ f0 ∧ 22 ≤ q0) (hr_parts : f_parts + 1 ≤ f0 ∧ 8 + (6 + 11) + q_parts ≤ q0) (ho_parts : ∀ (σ : DD) (a1 : Int32) (a2 : Int32) (post : Int32 → DD → Prop), o_parts σ a1 a2 post → MI X.l w yX11_parts cX11_parts 6 .boolean (rmK f_parts q_parts) σ [.ref (wAd w 0), .int a1, .int a2] post) {K12 : DD → Int32 → Prop} {a1 : Int32} {a2 : Int32} {a3 : Int32} {post : Int32 → DD → Prop} (k12 : ∀ (σ : DD) (a3 : Int32), K12 σ a3 → gW X w (lim0 w) 6 (QI X w post) σ 12 [(0, .ref (wAd w 0)), (1, .int a1), (2, .int a2), (3, .int a3)] []) {σ : DD} {a4 : Int32} {a5 : Int32} (h : w_M_parts_l23 o_parts K12 post σ a1 a2 a3 a4 a5) : gW X w (lim0 w) 6 (QI X w post) σ 23 [(0, .ref (wAd w 0)), (1, .int a1), (2, .int a2), (3, .int a3), (4, .int a4), (5, .int a5)] [] :=
  LoopW (G := fun x : DD × Int32 × Int32 => gW X w (lim0 w) 6 (QI X w post) x.1 23 [(0, .ref (wAd w 0)), (1, .int a1), (2, .int a2), (3, .int a3), (4, .int x.2.1), (5, .int x.2.2)] []) (fun K x hK hF => t_M_parts_b23 C hL hr0 hr_parts ho_parts k12 (fun σ a4 a5 q => hK (σ, a4, a5) q) hF) h
set_option maxRecDepth 20000 in
theorem t_M_parts_b12 {o_parts : DD → Int32 → Int32 → (Int32 → DD → Prop) → Prop} {f0 q0 f_parts q_parts : Nat} {X : CT} {w : WO} (C : CF X w (lim0 w) 6 cX11_parts RX11 (some .boolean) (.code yX11_parts cX11_parts 6 (some .boolean)) (rmK f0 q0)) (hL : LyM w) (hr0 : 1 ≤ f0 ∧ 22 ≤ q0) (hr_parts : f_parts + 1 ≤ f0 ∧ 8 + (6 + 11) + q_parts ≤ q0) (ho_parts : ∀ (σ : DD) (a1 : Int32) (a2 : Int32) (post : Int32 → DD → Prop), o_parts σ a1 a2 post → MI X.l w yX11_parts cX11_parts 6 .boolean (rmK f_parts q_parts) σ [.ref (wAd w 0), .int a1, .int a2] post) {a1 : Int32} {a2 : Int32} {K12 : DD → Int32 → Prop} {post : Int32 → DD → Prop} (k12 : ∀ (σ : DD) (a3 : Int32), K12 σ a3 → gW X w (lim0 w) 6 (QI X w post) σ 12 [(0, .ref (wAd w 0)), (1, .int a1), (2, .int a2), (3, .int a3)] []) {σ : DD} {a3 : Int32} (h : w_M_parts_b12 o_parts a1 a2 K12 post σ a3) : gW X w (lim0 w) 6 (QI X w post) σ 12 [(0, .ref (wAd w 0)), (1, .int a1), (2, .int a2), (3, .int a3)] [] := by
  unfold w_M_parts_b12 at h
  refine r_iload_n C 3 rfl (dk_at dk_M_parts_0 8 rfl) ?_
  refine r_iload_n C 2 rfl (dk_at dk_M_parts_0 9 rfl) ?_
  refine r_icmp_ge C 112 rfl (dk_at dk_M_parts_0 10 rfl) (fun c17 => ?_) (fun c17 => ?_)
  · replace h := h.1 c17
    refine r_iconst C 0 (dk_at dk_M_parts_1 22 rfl) ?_
    exact r_zret C (Or.inl rfl) h (dk_at dk_M_parts_1 23 rfl)
  · replace h := h.2 c17
    refine r_iconst C 1 (dk_at dk_M_parts_0 11 rfl) ?_
    refine r_istore C [(4, .int 1), (0, .ref (wAd w 0)), (1, .int a1), (2, .int a2), (3, .int a3)] rfl rfl (dk_at dk_M_parts_0 12 rfl) ?_
    refine r_iconst C 0 (dk_at dk_M_parts_0 13 rfl) ?_
    refine r_istore C [(5, .int 0), (4, .int 1), (0, .ref (wAd w 0)), (1, .int a1), (2, .int a2), (3, .int a3)] rfl rfl (dk_at dk_M_parts_0 14 rfl) ?_
    refine r_lv [2, 3, 4, 5, 1, 0] rfl ?_
    exact t_M_parts_l23 C hL hr0 hr_parts ho_parts k12 h
set_option maxRecDepth 20000 in
theorem t_M_parts_l12 {o_parts : DD → Int32 → Int32 → (Int32 → DD → Prop) → Prop} {f0 q0 f_parts q_parts : Nat} {X : CT} {w : WO} (C : CF X w (lim0 w) 6 cX11_parts RX11 (some .boolean) (.code yX11_parts cX11_parts 6 (some .boolean)) (rmK f0 q0)) (hL : LyM w) (hr0 : 1 ≤ f0 ∧ 22 ≤ q0) (hr_parts : f_parts + 1 ≤ f0 ∧ 8 + (6 + 11) + q_parts ≤ q0) (ho_parts : ∀ (σ : DD) (a1 : Int32) (a2 : Int32) (post : Int32 → DD → Prop), o_parts σ a1 a2 post → MI X.l w yX11_parts cX11_parts 6 .boolean (rmK f_parts q_parts) σ [.ref (wAd w 0), .int a1, .int a2] post) {a1 : Int32} {a2 : Int32} {post : Int32 → DD → Prop} {σ : DD} {a3 : Int32} (h : w_M_parts_l12 o_parts post σ a1 a2 a3) : gW X w (lim0 w) 6 (QI X w post) σ 12 [(0, .ref (wAd w 0)), (1, .int a1), (2, .int a2), (3, .int a3)] [] :=
  LoopW (G := fun x : DD × Int32 => gW X w (lim0 w) 6 (QI X w post) x.1 12 [(0, .ref (wAd w 0)), (1, .int a1), (2, .int a2), (3, .int x.2)] []) (fun K x hK hF => t_M_parts_b12 C hL hr0 hr_parts ho_parts (fun σ a3 q => hK (σ, a3) q) hF) h
set_option maxRecDepth 20000 in
theorem m_M_parts_o {l : Launch} {w : WO} (hL : LyM w) {o_parts : DD → Int32 → Int32 → (Int32 → DD → Prop) → Prop} {f0 q0 f_parts q_parts : Nat} (hr0 : 1 ≤ f0 ∧ 22 ≤ q0) (hr_parts : f_parts + 1 ≤ f0 ∧ 8 + (6 + 11) + q_parts ≤ q0) (ho_parts : ∀ (σ : DD) (a1 : Int32) (a2 : Int32) (post : Int32 → DD → Prop), o_parts σ a1 a2 post → MI l w yX11_parts cX11_parts 6 .boolean (rmK f_parts q_parts) σ [.ref (wAd w 0), .int a1, .int a2] post) {σ : DD} {a1 : Int32} {a2 : Int32} {post : Int32 → DD → Prop} (h : w_M_parts_o o_parts σ a1 a2 post) : MI l w yX11_parts cX11_parts 6 .boolean (rmK f0 q0) σ [.ref (wAd w 0), .int a1, .int a2] post :=
  met_head (rt := (some .boolean)) (by decide) rfl (fun X hX C => by
  subst hX
  unfold w_M_parts_o at h
  show gW X w (lim0 w) 6 (QI X w post) σ 0 [(0, .ref (wAd w 0)), (1, .int a1), (2, .int a2)] []
  refine r_iload_n C 1 rfl (dk_at dk_M_parts_0 0 rfl) ?_
  refine r_aload_n C 0 rfl (dk_at dk_M_parts_0 1 rfl) ?_
  refine r_getI C fl_M_372 0 (hL 0 _ rfl) rfl (dk_at dk_M_parts_0 2 rfl) ?_
  refine r_icmp_ne C 10 rfl (dk_at dk_M_parts_0 3 rfl) (fun c18 => ?_) (fun c18 => ?_)
  · replace h := h.1 c18
    refine r_iconst C 0 (dk_at dk_M_parts_0 6 rfl) ?_
    refine r_istore_n C [(3, .int 0), (0, .ref (wAd w 0)), (1, .int a1), (2, .int a2)] rfl rfl (dk_at dk_M_parts_0 7 rfl) ?_
    refine r_lv [1, 2, 3, 0] rfl ?_
    exact t_M_parts_l12 C hL hr0 hr_parts ho_parts h
  · replace h := h.2 c18
    refine r_iconst C 1 (dk_at dk_M_parts_0 4 rfl) ?_
    exact r_zret C (Or.inr rfl) h (dk_at dk_M_parts_0 5 rfl)
  )
set_option maxRecDepth 20000 in
theorem m_M_parts_d {l : Launch} {w : WO} (hL : LyM w) : ∀ d : Nat, ∀ (σ : DD) (a1 : Int32) (a2 : Int32) (post : Int32 → DD → Prop), w_M_parts_d d σ a1 a2 post → MI l w yX11_parts cX11_parts 6 .boolean (rmK (1 + 1 * d) (22 + 25 * d)) σ [.ref (wAd w 0), .int a1, .int a2] post := by
  intro d
  induction d with
  | zero => exact fun _ _ _ _ h => h.elim
  | succ n ih =>
    rw [show 1 + 1 * (n + 1) = 1 + 1 * n + 1 by omega, show 22 + 25 * (n + 1) = 22 + 25 * n + 25 by omega]
    exact (fun _ _ _ _ h => m_M_parts_o hL (f0 := 1 + 1 * n + 1) (q0 := 22 + 25 * n + 25) (f_parts := 1 + 1 * n + 0) (q_parts := 22 + 25 * n + 0) (by omega) (by omega) ih h)
set_option maxRecDepth 20000 in
theorem m_M_parts {l : Launch} {w : WO} (hL : LyM w) {σ : DD} {a1 : Int32} {a2 : Int32} {post : Int32 → DD → Prop} (h : w_M_parts σ a1 a2 post) : MI l w yX11_parts cX11_parts 6 .boolean (rmK 13 322) σ [.ref (wAd w 0), .int a1, .int a2] post :=
  m_M_parts_d hL 12 _ _ _ _ h
set_option maxRecDepth 20000 in
theorem t_M_days_b35 {X : CT} {w : WO} (C : CF X w (lim0 w) 4 cX11_days RX11 (some .int) (.code yX11_days cX11_days 4 (some .int)) (rmK 14 347)) (hL : LyM w) {a2 : Int32} {K35 : DD → Int32 → Prop} {post : Int32 → DD → Prop} (k35 : ∀ (σ : DD) (a3 : Int32), K35 σ a3 → gW X w (lim0 w) 4 (QI X w post) σ 35 [(0, .ref (wAd w 0)), (2, .int a2), (3, .int a3)] []) {σ : DD} {a3 : Int32} (h : w_M_days_b35 a2 K35 post σ a3) : gW X w (lim0 w) 4 (QI X w post) σ 35 [(0, .ref (wAd w 0)), (2, .int a2), (3, .int a3)] [] := by
  unfold w_M_days_b35 at h
  refine r_aload_n C 0 rfl (dk_at dk_M_days_0 21 rfl) ?_
  refine r_iconst C 0 (dk_at dk_M_days_0 22 rfl) ?_
  refine r_iload_n C 2 rfl (dk_at dk_M_days_0 23 rfl) ?_
  refine r_cvI C cl_M_381 0 (hL 0 _ rfl) [.int 0, .int a3] (m_M_parts hL h) (rmK_ok rfl rfl) rfl rfl (Nat.le_of_ble_eq_true rfl) (dk_at dk_M_days_0 24 rfl) (fun r1 σ2 h => ?_)
  refine r_if_ne C 50 rfl (dk_at dk_M_days_0 25 rfl) (fun c3 => ?_) (fun c3 => ?_)
  · replace h := h.1 c3
    refine r_iload_n C 1 rfl (dk_at dk_M_days_0 28 rfl) ?_
    refine r_iconst C (-1) (dk_at dk_M_days_0 29 rfl) ?_
    refine r_icmp_ne C 59 rfl (dk_at dk_M_days_0 30 rfl) (fun c4 => ?_) (fun c4 => ?_)
    · replace h := h.1 c4
      refine r_aload_n C 0 rfl (dk_at dk_M_days_0 33 rfl) ?_
      refine r_getR C fl_M_79 0 (hL 0 _ rfl) rfl (dk_at dk_M_days_0 34 rfl) ?_
      refine r_iload_n C 1 rfl (dk_at dk_M_days_0 35 rfl) ?_
      obtain ⟨q5, h⟩ := h
      refine r_iald C 42 (hL 42 _ rfl) q5 (dk_at dk_M_days_0 36 rfl) ?_
      exact r_iret C h (dk_at dk_M_days_0 37 rfl)
    · replace h := h.2 c4
      refine r_iload_n C 2 rfl (dk_at dk_M_days_0 31 rfl) ?_
      refine r_goto C 65 rfl (dk_at dk_M_days_0 32 rfl) ?_
      exact r_iret C h (dk_at dk_M_days_0 37 rfl)
  · replace h := h.2 c3
    refine r_iinc C 2 rfl rfl [(3, .int (a3 + 1)), (0, .ref (wAd w 0)), (2, .int a2)] rfl rfl (dk_at dk_M_days_0 26 rfl) ?_
    refine r_goto C 35 rfl (dk_at dk_M_days_0 27 rfl) ?_
    refine r_lv [1, 2, 0] rfl ?_
    exact k35 _ _ h
set_option maxRecDepth 20000 in
theorem t_M_days_l35 {X : CT} {w : WO} (C : CF X w (lim0 w) 4 cX11_days RX11 (some .int) (.code yX11_days cX11_days 4 (some .int)) (rmK 14 347)) (hL : LyM w) {a2 : Int32} {post : Int32 → DD → Prop} {σ : DD} {a3 : Int32} (h : w_M_days_l35 post σ a2 a3) : gW X w (lim0 w) 4 (QI X w post) σ 35 [(0, .ref (wAd w 0)), (2, .int a2), (3, .int a3)] [] :=
  LoopW (G := fun x : DD × Int32 => gW X w (lim0 w) 4 (QI X w post) x.1 35 [(0, .ref (wAd w 0)), (2, .int a2), (3, .int x.2)] []) (fun K x hK hF => t_M_days_b35 C hL (fun σ a3 q => hK (σ, a3) q) hF) h
set_option maxRecDepth 20000 in
theorem m_M_days {l : Launch} {w : WO} (hL : LyM w) {σ : DD} {a1 : Int32} {a2 : Int32} {post : Int32 → DD → Prop} (h : w_M_days σ a1 a2 post) : MI l w yX11_days cX11_days 4 .int (rmK 14 347) σ [.ref (wAd w 0), .int a1, .int a2] post :=
  met_head (rt := (some .int)) (by decide) rfl (fun X hX C => by
  subst hX
  unfold w_M_days at h
  show gW X w (lim0 w) 4 (QI X w post) σ 0 [(0, .ref (wAd w 0)), (1, .int a1), (2, .int a2)] []
  refine r_aload_n C 0 rfl (dk_at dk_M_days_0 0 rfl) ?_
  refine r_iload_n C 1 rfl (dk_at dk_M_days_0 1 rfl) ?_
  refine r_cvI C cl_M_359 0 (hL 0 _ rfl) [.int a1] (m_M_areActs hL h) (rmK_ok rfl rfl) rfl rfl (Nat.le_of_ble_eq_true rfl) (dk_at dk_M_days_0 2 rfl) (fun r6 σ7 h => ?_)
  refine r_if_eq C 26 rfl (dk_at dk_M_days_0 3 rfl) (fun c8 => ?_) (fun c8 => ?_)
  · replace h := h.1 c8
    refine r_iconst C (-1) (dk_at dk_M_days_0 14 rfl) ?_
    exact r_iret C h (dk_at dk_M_days_0 15 rfl)
  · replace h := h.2 c8
    refine r_iload_n C 1 rfl (dk_at dk_M_days_0 4 rfl) ?_
    refine r_if_eq C 26 rfl (dk_at dk_M_days_0 5 rfl) (fun c9 => ?_) (fun c9 => ?_)
    · replace h := h.1 c9
      refine r_iconst C (-1) (dk_at dk_M_days_0 14 rfl) ?_
      exact r_iret C h (dk_at dk_M_days_0 15 rfl)
    · replace h := h.2 c9
      refine r_iload_n C 2 rfl (dk_at dk_M_days_0 6 rfl) ?_
      refine r_iconst C (-1) (dk_at dk_M_days_0 7 rfl) ?_
      refine r_iload_n C 1 rfl (dk_at dk_M_days_0 8 rfl) ?_
      refine r_csI C cs_M_288 [.int a1] (m_M_ones hL h) (rmK_ok rfl rfl) rfl rfl (Nat.le_of_ble_eq_true rfl) (dk_at dk_M_days_0 9 rfl) (fun r10 σ11 h => ?_)
      refine r_iconst C 1 (dk_at dk_M_days_0 10 rfl) ?_
      refine r_isub C (dk_at dk_M_days_0 11 rfl) ?_
      refine r_csI C cs_M_101 [.int a2, .int (-1), .int (r10 - 1)] (m_M_lies hL h) (rmK_ok rfl rfl) rfl rfl (Nat.le_of_ble_eq_true rfl) (dk_at dk_M_days_0 12 rfl) (fun r12 σ13 h => ?_)
      refine r_if_ne C 28 rfl (dk_at dk_M_days_0 13 rfl) (fun c14 => ?_) (fun c14 => ?_)
      · replace h := h.1 c14
        refine r_aload_n C 0 rfl (dk_at dk_M_days_0 16 rfl) ?_
        refine r_iload_n C 1 rfl (dk_at dk_M_days_0 17 rfl) ?_
        refine r_cvV C cl_M_378 0 (hL 0 _ rfl) [.int a1] (m_M_lists hL h) (rmK_ok rfl rfl) rfl rfl (Nat.le_of_ble_eq_true rfl) (dk_at dk_M_days_0 18 rfl) (fun σ16 h => ?_)
        refine r_iconst C 1 (dk_at dk_M_days_0 19 rfl) ?_
        refine r_istore_n C [(3, .int 1), (0, .ref (wAd w 0)), (1, .int a1), (2, .int a2)] rfl rfl (dk_at dk_M_days_0 20 rfl) ?_
        refine r_lv [1, 3, 0] rfl ?_
        exact t_M_days_l35 C hL h
      · replace h := h.2 c14
        refine r_iconst C (-1) (dk_at dk_M_days_0 14 rfl) ?_
        exact r_iret C h (dk_at dk_M_days_0 15 rfl)
  )
set_option maxRecDepth 20000 in
theorem m_M_startsWith {l : Launch} {w : WO} (hL : LyM w) {σ : DD} {a1 : Int32} {post : Int32 → DD → Prop} (h : w_M_startsWith σ a1 post) : MI l w yX11_startsWith cX11_startsWith 4 .int (rmK 91 2201) σ [.ref (wAd w 0), .int a1] post :=
  met_head (rt := (some .int)) (by decide) rfl (fun X hX C => by
  subst hX
  unfold w_M_startsWith at h
  show gW X w (lim0 w) 4 (QI X w post) σ 0 [(0, .ref (wAd w 0)), (1, .int a1)] []
  refine r_aload_n C 0 rfl (dk_at dk_M_startsWith_0 0 rfl) ?_
  refine r_iload_n C 1 rfl (dk_at dk_M_startsWith_0 1 rfl) ?_
  refine r_aload_n C 0 rfl (dk_at dk_M_startsWith_0 2 rfl) ?_
  refine r_getR C fl_M_20 0 (hL 0 _ rfl) rfl (dk_at dk_M_startsWith_0 3 rfl) ?_
  refine r_sipush C 395 (dk_at dk_M_startsWith_0 4 rfl) ?_
  refine r_ialdK C 4 (hL 4 _ rfl) lk_395 (vk_395_6012) (dk_at dk_M_startsWith_0 5 rfl) ?_
  refine r_iconst C 1 (dk_at dk_M_startsWith_0 6 rfl) ?_
  refine r_isub C (dk_at dk_M_startsWith_0 7 rfl) ?_
  refine r_cvI C cl_M_300 0 (hL 0 _ rfl) [.int a1, .int ((gI σ 4 395) - 1)] (m_M_latestOf hL h) (rmK_ok rfl rfl) rfl rfl (Nat.le_of_ble_eq_true rfl) (dk_at dk_M_startsWith_0 8 rfl) (fun r1 σ2 h => ?_)
  refine r_istore_n C [(2, .int r1), (0, .ref (wAd w 0)), (1, .int a1)] rfl rfl (dk_at dk_M_startsWith_0 9 rfl) ?_
  refine r_iload_n C 0 rfl (dk_at dk_M_startsWith_0 10 rfl) ?_
  refine r_iconst C (-1) (dk_at dk_M_startsWith_0 11 rfl) ?_
  refine r_icmp_ne C 23 rfl (dk_at dk_M_startsWith_0 12 rfl) (fun c3 => ?_) (fun c3 => ?_)
  · replace h := h.1 c3
    refine r_aload_n C 1 rfl (dk_at dk_M_startsWith_0 15 rfl) ?_
    refine r_iload_n C 2 rfl (dk_at dk_M_startsWith_0 16 rfl) ?_
    refine r_aload_n C 1 rfl (dk_at dk_M_startsWith_0 17 rfl) ?_
    refine r_iload_n C 0 rfl (dk_at dk_M_startsWith_0 18 rfl) ?_
    refine r_iconst C 1 (dk_at dk_M_startsWith_0 19 rfl) ?_
    refine r_cvI C cl_M_137 0 (hL 0 _ rfl) [.int r1, .int 1] (m_M_reading hL h) (rmK_ok rfl rfl) rfl rfl (Nat.le_of_ble_eq_true rfl) (dk_at dk_M_startsWith_0 20 rfl) (fun r4 σ5 h => ?_)
    refine r_aload_n C 1 rfl (dk_at dk_M_startsWith_0 21 rfl) ?_
    refine r_iload_n C 0 rfl (dk_at dk_M_startsWith_0 22 rfl) ?_
    refine r_iconst C 2 (dk_at dk_M_startsWith_0 23 rfl) ?_
    refine r_cvI C cl_M_137 0 (hL 0 _ rfl) [.int r1, .int 2] (m_M_reading hL h) (rmK_ok rfl rfl) rfl rfl (Nat.le_of_ble_eq_true rfl) (dk_at dk_M_startsWith_0 24 rfl) (fun r6 σ7 h => ?_)
    refine r_cvI C cl_M_303 0 (hL 0 _ rfl) [.int a1, .int r4, .int r6] (m_M_lastsFor hL h) (rmK_ok rfl rfl) rfl rfl (Nat.le_of_ble_eq_true rfl) (dk_at dk_M_startsWith_0 25 rfl) (fun r8 σ9 h => ?_)
    refine r_aload_n C 1 rfl (dk_at dk_M_startsWith_0 26 rfl) ?_
    refine r_getR C fl_M_20 0 (hL 0 _ rfl) rfl (dk_at dk_M_startsWith_0 27 rfl) ?_
    refine r_sipush C 395 (dk_at dk_M_startsWith_0 28 rfl) ?_
    refine r_ialdK C 4 (hL 4 _ rfl) lk_395 (vk_395_6012) (dk_at dk_M_startsWith_0 29 rfl) ?_
    refine r_aload_n C 1 rfl (dk_at dk_M_startsWith_0 30 rfl) ?_
    refine r_iload_n C 0 rfl (dk_at dk_M_startsWith_0 31 rfl) ?_
    refine r_iconst C 2 (dk_at dk_M_startsWith_0 32 rfl) ?_
    refine r_cvI C cl_M_137 0 (hL 0 _ rfl) [.int r1, .int 2] (m_M_reading hL h) (rmK_ok rfl rfl) rfl rfl (Nat.le_of_ble_eq_true rfl) (dk_at dk_M_startsWith_0 33 rfl) (fun r10 σ11 h => ?_)
    refine r_isub C (dk_at dk_M_startsWith_0 34 rfl) ?_
    refine r_isub C (dk_at dk_M_startsWith_0 35 rfl) ?_
    refine r_topi (fun v12 e13 => ?_)
    replace h := h v12 e13
    refine r_istore_n C [(3, .int v12), (2, .int r1), (0, .ref (wAd w 0)), (1, .int a1)] rfl rfl (dk_at dk_M_startsWith_0 36 rfl) ?_
    refine r_iload_n C 0 rfl (dk_at dk_M_startsWith_0 37 rfl) ?_
    refine r_if_ge C 65 rfl (dk_at dk_M_startsWith_0 38 rfl) (fun c14 => ?_) (fun c14 => ?_)
    · replace h := h.1 c14
      refine r_iload_n C 0 rfl (dk_at dk_M_startsWith_1 1 rfl) ?_
      exact r_iret C h (dk_at dk_M_startsWith_1 2 rfl)
    · replace h := h.2 c14
      refine r_iconst C 0 (dk_at dk_M_startsWith_0 39 rfl) ?_
      refine r_goto C 66 rfl (dk_at dk_M_startsWith_1 0 rfl) ?_
      exact r_iret C h (dk_at dk_M_startsWith_1 2 rfl)
  · replace h := h.2 c3
    refine r_iconst C 0 (dk_at dk_M_startsWith_0 13 rfl) ?_
    exact r_iret C h (dk_at dk_M_startsWith_0 14 rfl)
  )
set_option maxRecDepth 20000 in
theorem m_M_triesOn {l : Launch} {w : WO} (hL : LyM w) {σ : DD} {a1 : Int32} {a2 : Int32} {a3 : Int32} {post : Int32 → DD → Prop} (h : w_M_triesOn σ a1 a2 a3 post) : MI l w yX11_triesOn cX11_triesOn 4 .boolean (rmK 91 2201) σ [.ref (wAd w 0), .int a1, .int a2, .int a3] post :=
  met_head (rt := (some .boolean)) (by decide) rfl (fun X hX C => by
  subst hX
  unfold w_M_triesOn at h
  show gW X w (lim0 w) 4 (QI X w post) σ 0 [(0, .ref (wAd w 0)), (1, .int a1), (2, .int a2), (3, .int a3)] []
  refine r_aload_n C 0 rfl (dk_at dk_M_triesOn_0 0 rfl) ?_
  refine r_iload_n C 1 rfl (dk_at dk_M_triesOn_0 1 rfl) ?_
  refine r_iload_n C 2 rfl (dk_at dk_M_triesOn_0 2 rfl) ?_
  refine r_iload_n C 3 rfl (dk_at dk_M_triesOn_0 3 rfl) ?_
  refine r_cvI C cl_M_313 0 (hL 0 _ rfl) [.int a1, .int a2, .int a3] (m_M_isBarred hL h) (rmK_ok rfl rfl) rfl rfl (Nat.le_of_ble_eq_true rfl) (dk_at dk_M_triesOn_0 4 rfl) (fun r1 σ2 h => ?_)
  refine r_if_ne C 57 rfl (dk_at dk_M_triesOn_0 5 rfl) (fun c3 => ?_) (fun c3 => ?_)
  · replace h := h.1 c3
    refine r_iconst C 0 (dk_at dk_M_triesOn_0 36 rfl) ?_
    exact r_zret C (Or.inl rfl) h (dk_at dk_M_triesOn_0 37 rfl)
  · replace h := h.2 c3
    refine r_aload_n C 0 rfl (dk_at dk_M_triesOn_0 6 rfl) ?_
    refine r_getR C fl_M_20 0 (hL 0 _ rfl) rfl (dk_at dk_M_triesOn_0 7 rfl) ?_
    refine r_bipush C 104 (dk_at dk_M_triesOn_0 8 rfl) ?_
    refine r_iload_n C 3 rfl (dk_at dk_M_triesOn_0 9 rfl) ?_
    refine r_bipush C 7 (dk_at dk_M_triesOn_0 10 rfl) ?_
    refine r_irem C (by decide) (dk_at dk_M_triesOn_0 11 rfl) ?_
    refine r_iadd C (dk_at dk_M_triesOn_0 12 rfl) ?_
    obtain ⟨q4, h⟩ := h
    refine r_iald C 4 (hL 4 _ rfl) q4 (dk_at dk_M_triesOn_0 13 rfl) ?_
    refine r_aload_n C 0 rfl (dk_at dk_M_triesOn_0 14 rfl) ?_
    refine r_iload_n C 1 rfl (dk_at dk_M_triesOn_0 15 rfl) ?_
    refine r_iconst C 2 (dk_at dk_M_triesOn_0 16 rfl) ?_
    refine r_cvI C cl_M_124 0 (hL 0 _ rfl) [.int a1, .int 2] (m_M_fact hL h) (rmK_ok rfl rfl) rfl rfl (Nat.le_of_ble_eq_true rfl) (dk_at dk_M_triesOn_0 17 rfl) (fun r5 σ6 h => ?_)
    refine r_iand C (dk_at dk_M_triesOn_0 18 rfl) ?_
    refine r_if_eq C 57 rfl (dk_at dk_M_triesOn_0 19 rfl) (fun c7 => ?_) (fun c7 => ?_)
    · replace h := h.1 c7
      refine r_iconst C 0 (dk_at dk_M_triesOn_0 36 rfl) ?_
      exact r_zret C (Or.inl rfl) h (dk_at dk_M_triesOn_0 37 rfl)
    · replace h := h.2 c7
      refine r_aload_n C 0 rfl (dk_at dk_M_triesOn_0 20 rfl) ?_
      refine r_iload_n C 1 rfl (dk_at dk_M_triesOn_0 21 rfl) ?_
      refine r_iload_n C 2 rfl (dk_at dk_M_triesOn_0 22 rfl) ?_
      refine r_iload_n C 3 rfl (dk_at dk_M_triesOn_0 23 rfl) ?_
      refine r_cvI C cl_M_310 0 (hL 0 _ rfl) [.int a1, .int a2, .int a3] (m_M_takesOf hL h) (rmK_ok rfl rfl) rfl rfl (Nat.le_of_ble_eq_true rfl) (dk_at dk_M_triesOn_0 24 rfl) (fun r8 σ9 h => ?_)
      refine r_aload_n C 0 rfl (dk_at dk_M_triesOn_0 25 rfl) ?_
      refine r_getR C fl_M_20 0 (hL 0 _ rfl) rfl (dk_at dk_M_triesOn_0 26 rfl) ?_
      refine r_bipush C 96 (dk_at dk_M_triesOn_0 27 rfl) ?_
      refine r_iconst C 2 (dk_at dk_M_triesOn_0 28 rfl) ?_
      refine r_iload_n C 2 rfl (dk_at dk_M_triesOn_0 29 rfl) ?_
      refine r_imul C (dk_at dk_M_triesOn_0 30 rfl) ?_
      refine r_iadd C (dk_at dk_M_triesOn_0 31 rfl) ?_
      obtain ⟨q10, h⟩ := h
      refine r_iald C 4 (hL 4 _ rfl) q10 (dk_at dk_M_triesOn_0 32 rfl) ?_
      refine r_icmp_gt C 57 rfl (dk_at dk_M_triesOn_0 33 rfl) (fun c11 => ?_) (fun c11 => ?_)
      · replace h := h.1 c11
        refine r_iconst C 0 (dk_at dk_M_triesOn_0 36 rfl) ?_
        exact r_zret C (Or.inl rfl) h (dk_at dk_M_triesOn_0 37 rfl)
      · replace h := h.2 c11
        refine r_iconst C 1 (dk_at dk_M_triesOn_0 34 rfl) ?_
        refine r_goto C 58 rfl (dk_at dk_M_triesOn_0 35 rfl) ?_
        exact r_zret C (Or.inr rfl) h (dk_at dk_M_triesOn_0 37 rfl)
  )
set_option maxRecDepth 20000 in
theorem t_M_passesDay_j191 {X : CT} {w : WO} (C : CF X w (lim0 w) 12 cX11_passesDay RX11 none (.code yX11_passesDay cX11_passesDay 12 none) (rmK 92 2224)) (hL : LyM w) {K70 : DD → Int32 → Prop} {post : DD → Prop} {a4 : Int32} {a5 : Int32} {a6 : Int32} {a7 : Int32} {a10 : Int64} (k70 : ∀ (σ : DD) (a7 : Int32), K70 σ a7 → gW X w (lim0 w) 12 (QV X w post) σ 70 [(0, .ref (wAd w 0)), (4, .int a4), (5, .int a5), (6, .int a6), (7, .int a7)] []) {σ : DD} (h : w_M_passesDay_j191 K70 post σ a4 a5 a6 a7 a10) : gW X w (lim0 w) 12 (QV X w post) σ 191 [(0, .ref (wAd w 0)), (4, .int a4), (5, .int a5), (6, .int a6), (7, .int a7), (10, .long a10)] [] := by
  unfold w_M_passesDay_j191 at h
  refine r_iload C 3 rfl (dk_at dk_M_passesDay_2 25 rfl) ?_
  refine r_if_le C 210 rfl (dk_at dk_M_passesDay_2 26 rfl) (fun c1 => ?_) (fun c1 => ?_)
  · replace h := h.1 c1
    refine r_iinc C 4 rfl rfl [(7, .int (a7 + 1)), (0, .ref (wAd w 0)), (4, .int a4), (5, .int a5), (6, .int a6), (10, .long a10)] rfl rfl (dk_at dk_M_passesDay_2 37 rfl) ?_
    refine r_goto C 70 rfl (dk_at dk_M_passesDay_2 38 rfl) ?_
    refine r_lv [1, 2, 3, 4, 0] rfl ?_
    exact k70 _ _ h
  · replace h := h.2 c1
    refine r_aload_n C 0 rfl (dk_at dk_M_passesDay_2 27 rfl) ?_
    refine r_getR C fl_M_86 0 (hL 0 _ rfl) rfl (dk_at dk_M_passesDay_2 28 rfl) ?_
    refine r_iload C 3 rfl (dk_at dk_M_passesDay_2 29 rfl) ?_
    refine r_iconst C 1 (dk_at dk_M_passesDay_2 30 rfl) ?_
    refine r_isub C (dk_at dk_M_passesDay_2 31 rfl) ?_
    refine r_dup2 C rfl rfl (dk_at dk_M_passesDay_2 32 rfl) ?_
    obtain ⟨q2, h⟩ := h
    refine r_lald C 44 (hL 44 _ rfl) q2 (dk_at dk_M_passesDay_2 33 rfl) ?_
    refine r_lload C 5 rfl (dk_at dk_M_passesDay_2 34 rfl) ?_
    refine r_ladd C (dk_at dk_M_passesDay_2 35 rfl) ?_
    obtain ⟨q5, h⟩ := h
    refine r_last C 44 (hL 44 _ rfl) q5 (dk_at dk_M_passesDay_2 36 rfl) (r_sg (fun σ3 e4 => ?_))
    replace h := h σ3 e4
    refine r_iinc C 4 rfl rfl [(7, .int (a7 + 1)), (0, .ref (wAd w 0)), (4, .int a4), (5, .int a5), (6, .int a6), (10, .long a10)] rfl rfl (dk_at dk_M_passesDay_2 37 rfl) ?_
    refine r_goto C 70 rfl (dk_at dk_M_passesDay_2 38 rfl) ?_
    refine r_lv [1, 2, 3, 4, 0] rfl ?_
    exact k70 _ _ h
set_option maxRecDepth 20000 in
theorem t_M_passesDay_j172 {X : CT} {w : WO} (C : CF X w (lim0 w) 12 cX11_passesDay RX11 none (.code yX11_passesDay cX11_passesDay 12 none) (rmK 92 2224)) (hL : LyM w) {K70 : DD → Int32 → Prop} {post : DD → Prop} {a4 : Int32} {a5 : Int32} {a6 : Int32} {a7 : Int32} {a8 : Int64} {a10 : Int64} (k70 : ∀ (σ : DD) (a7 : Int32), K70 σ a7 → gW X w (lim0 w) 12 (QV X w post) σ 70 [(0, .ref (wAd w 0)), (4, .int a4), (5, .int a5), (6, .int a6), (7, .int a7)] []) {σ : DD} (h : w_M_passesDay_j172 K70 post σ a4 a5 a6 a7 a8 a10) : gW X w (lim0 w) 12 (QV X w post) σ 172 [(0, .ref (wAd w 0)), (4, .int a4), (5, .int a5), (6, .int a6), (7, .int a7), (8, .long a8), (10, .long a10)] [] := by
  unfold w_M_passesDay_j172 at h
  refine r_iload C 4 rfl (dk_at dk_M_passesDay_2 13 rfl) ?_
  refine r_if_le C 191 rfl (dk_at dk_M_passesDay_2 14 rfl) (fun c6 => ?_) (fun c6 => ?_)
  · replace h := h.1 c6
    refine r_lv [0, 1, 2, 3, 4, 6] rfl ?_
    exact t_M_passesDay_j191 C hL k70 h
  · replace h := h.2 c6
    refine r_aload_n C 0 rfl (dk_at dk_M_passesDay_2 15 rfl) ?_
    refine r_getR C fl_M_86 0 (hL 0 _ rfl) rfl (dk_at dk_M_passesDay_2 16 rfl) ?_
    refine r_iload C 4 rfl (dk_at dk_M_passesDay_2 17 rfl) ?_
    refine r_iconst C 1 (dk_at dk_M_passesDay_2 18 rfl) ?_
    refine r_isub C (dk_at dk_M_passesDay_2 19 rfl) ?_
    refine r_dup2 C rfl rfl (dk_at dk_M_passesDay_2 20 rfl) ?_
    obtain ⟨q7, h⟩ := h
    refine r_lald C 44 (hL 44 _ rfl) q7 (dk_at dk_M_passesDay_2 21 rfl) ?_
    refine r_lload C 5 rfl (dk_at dk_M_passesDay_2 22 rfl) ?_
    refine r_ladd C (dk_at dk_M_passesDay_2 23 rfl) ?_
    obtain ⟨q10, h⟩ := h
    refine r_last C 44 (hL 44 _ rfl) q10 (dk_at dk_M_passesDay_2 24 rfl) (r_sg (fun σ8 e9 => ?_))
    replace h := h σ8 e9
    refine r_lv [0, 1, 2, 3, 4, 6] rfl ?_
    exact t_M_passesDay_j191 C hL k70 h
set_option maxRecDepth 20000 in
theorem t_M_passesDay_j111 {X : CT} {w : WO} (C : CF X w (lim0 w) 12 cX11_passesDay RX11 none (.code yX11_passesDay cX11_passesDay 12 none) (rmK 92 2224)) (hL : LyM w) {K70 : DD → Int32 → Prop} {post : DD → Prop} {a4 : Int32} {a5 : Int32} {a6 : Int32} {a7 : Int32} {a8 : Int64} {t0 : Int64} (k70 : ∀ (σ : DD) (a7 : Int32), K70 σ a7 → gW X w (lim0 w) 12 (QV X w post) σ 70 [(0, .ref (wAd w 0)), (4, .int a4), (5, .int a5), (6, .int a6), (7, .int a7)] []) {σ : DD} (h : w_M_passesDay_j111 K70 post σ a4 a5 a6 a7 a8 t0) : gW X w (lim0 w) 12 (QV X w post) σ 111 [(0, .ref (wAd w 0)), (4, .int a4), (5, .int a5), (6, .int a6), (7, .int a7), (8, .long a8)] [.long t0] := by
  unfold w_M_passesDay_j111 at h
  refine r_lstore C [(10, .long t0), (0, .ref (wAd w 0)), (4, .int a4), (5, .int a5), (6, .int a6), (7, .int a7), (8, .long a8)] rfl rfl (dk_at dk_M_passesDay_1 20 rfl) ?_
  refine r_iload C 2 rfl (dk_at dk_M_passesDay_1 21 rfl) ?_
  refine r_if_eq C 172 rfl (dk_at dk_M_passesDay_1 22 rfl) (fun c11 => ?_) (fun c11 => ?_)
  · replace h := h.1 c11
    refine r_lv [1, 2, 3, 4, 5, 6, 0] rfl ?_
    exact t_M_passesDay_j172 C hL k70 h
  · replace h := h.2 c11
    refine r_iload C 3 rfl (dk_at dk_M_passesDay_1 23 rfl) ?_
    refine r_if_eq C 172 rfl (dk_at dk_M_passesDay_1 24 rfl) (fun c12 => ?_) (fun c12 => ?_)
    · replace h := h.1 c12
      refine r_lv [1, 2, 3, 4, 5, 6, 0] rfl ?_
      exact t_M_passesDay_j172 C hL k70 h
    · replace h := h.2 c12
      refine r_aload_n C 1 rfl (dk_at dk_M_passesDay_1 25 rfl) ?_
      refine r_getR C fl_M_82 0 (hL 0 _ rfl) rfl (dk_at dk_M_passesDay_1 26 rfl) ?_
      refine r_iload C 5 rfl (dk_at dk_M_passesDay_1 27 rfl) ?_
      obtain ⟨q13, h⟩ := h
      refine r_lald C 43 (hL 43 _ rfl) q13 (dk_at dk_M_passesDay_1 28 rfl) ?_
      refine r_aload_n C 1 rfl (dk_at dk_M_passesDay_1 29 rfl) ?_
      refine r_getR C fl_M_20 0 (hL 0 _ rfl) rfl (dk_at dk_M_passesDay_1 30 rfl) ?_
      refine r_sipush C 396 (dk_at dk_M_passesDay_1 31 rfl) ?_
      refine r_ialdK C 4 (hL 4 _ rfl) lk_396 (vk_396_6012) (dk_at dk_M_passesDay_1 32 rfl) ?_
      refine r_i2l C (dk_at dk_M_passesDay_1 33 rfl) ?_
      refine r_lmul C (dk_at dk_M_passesDay_1 34 rfl) ?_
      refine r_ldc2 C tw_1747 (dk_at dk_M_passesDay_1 35 rfl) ?_
      refine r_ldiv C (by decide) (dk_at dk_M_passesDay_1 36 rfl) ?_
      refine r_topl (fun v14 e15 => ?_)
      replace h := h v14 e15
      refine r_lstore C [(8, .long v14), (10, .long t0), (0, .ref (wAd w 0)), (4, .int a4), (5, .int a5), (6, .int a6), (7, .int a7)] rfl rfl (dk_at dk_M_passesDay_1 37 rfl) ?_
      refine r_aload_n C 2 rfl (dk_at dk_M_passesDay_1 38 rfl) ?_
      refine r_getR C fl_M_82 0 (hL 0 _ rfl) rfl (dk_at dk_M_passesDay_1 39 rfl) ?_
      refine r_iload C 6 rfl (dk_at dk_M_passesDay_2 0 rfl) ?_
      obtain ⟨q16, h⟩ := h
      refine r_lald C 43 (hL 43 _ rfl) q16 (dk_at dk_M_passesDay_2 1 rfl) ?_
      refine r_bipush C 10 (dk_at dk_M_passesDay_2 2 rfl) ?_
      refine r_aload_n C 2 rfl (dk_at dk_M_passesDay_2 3 rfl) ?_
      refine r_getR C fl_M_20 0 (hL 0 _ rfl) rfl (dk_at dk_M_passesDay_2 4 rfl) ?_
      refine r_sipush C 396 (dk_at dk_M_passesDay_2 5 rfl) ?_
      refine r_ialdK C 4 (hL 4 _ rfl) lk_396 (vk_396_6012) (dk_at dk_M_passesDay_2 6 rfl) ?_
      refine r_isub C (dk_at dk_M_passesDay_2 7 rfl) ?_
      refine r_i2l C (dk_at dk_M_passesDay_2 8 rfl) ?_
      refine r_lmul C (dk_at dk_M_passesDay_2 9 rfl) ?_
      refine r_ldc2 C tw_1747 (dk_at dk_M_passesDay_2 10 rfl) ?_
      refine r_ldiv C (by decide) (dk_at dk_M_passesDay_2 11 rfl) ?_
      refine r_topl (fun v17 e18 => ?_)
      replace h := h v17 e18
      refine r_lstore C [(10, .long v17), (8, .long v14), (0, .ref (wAd w 0)), (4, .int a4), (5, .int a5), (6, .int a6), (7, .int a7)] rfl rfl (dk_at dk_M_passesDay_2 12 rfl) ?_
      refine r_lv [2, 3, 4, 5, 6, 1, 0] rfl ?_
      exact t_M_passesDay_j172 C hL k70 h
set_option maxRecDepth 20000 in
theorem t_M_passesDay_j93 {X : CT} {w : WO} (C : CF X w (lim0 w) 12 cX11_passesDay RX11 none (.code yX11_passesDay cX11_passesDay 12 none) (rmK 92 2224)) (hL : LyM w) {K70 : DD → Int32 → Prop} {post : DD → Prop} {a4 : Int32} {a5 : Int32} {a6 : Int32} {a7 : Int32} {t0 : Int64} (k70 : ∀ (σ : DD) (a7 : Int32), K70 σ a7 → gW X w (lim0 w) 12 (QV X w post) σ 70 [(0, .ref (wAd w 0)), (4, .int a4), (5, .int a5), (6, .int a6), (7, .int a7)] []) {σ : DD} (h : w_M_passesDay_j93 K70 post σ a4 a5 a6 a7 t0) : gW X w (lim0 w) 12 (QV X w post) σ 93 [(0, .ref (wAd w 0)), (4, .int a4), (5, .int a5), (6, .int a6), (7, .int a7)] [.long t0] := by
  unfold w_M_passesDay_j93 at h
  refine r_lstore C [(8, .long t0), (0, .ref (wAd w 0)), (4, .int a4), (5, .int a5), (6, .int a6), (7, .int a7)] rfl rfl (dk_at dk_M_passesDay_1 11 rfl) ?_
  refine r_iload C 2 rfl (dk_at dk_M_passesDay_1 12 rfl) ?_
  refine r_if_eq C 110 rfl (dk_at dk_M_passesDay_1 13 rfl) (fun c19 => ?_) (fun c19 => ?_)
  · replace h := h.1 c19
    refine r_lconst C 0 (dk_at dk_M_passesDay_1 19 rfl) ?_
    refine r_lv [1, 2, 3, 4, 5, 0] rfl ?_
    exact t_M_passesDay_j111 C hL k70 h
  · replace h := h.2 c19
    refine r_aload_n C 1 rfl (dk_at dk_M_passesDay_1 14 rfl) ?_
    refine r_getR C fl_M_82 0 (hL 0 _ rfl) rfl (dk_at dk_M_passesDay_1 15 rfl) ?_
    refine r_iload C 5 rfl (dk_at dk_M_passesDay_1 16 rfl) ?_
    obtain ⟨q20, h⟩ := h
    refine r_lald C 43 (hL 43 _ rfl) q20 (dk_at dk_M_passesDay_1 17 rfl) ?_
    refine r_goto C 111 rfl (dk_at dk_M_passesDay_1 18 rfl) ?_
    refine r_lv [1, 2, 3, 4, 5, 0] rfl ?_
    exact t_M_passesDay_j111 C hL k70 h
set_option maxRecDepth 20000 in
theorem t_M_passesDay_b219 {X : CT} {w : WO} (C : CF X w (lim0 w) 12 cX11_passesDay RX11 none (.code yX11_passesDay cX11_passesDay 12 none) (rmK 92 2224)) (hL : LyM w) {K219 : DD → Int32 → Prop} {post : DD → Prop} (k219 : ∀ (σ : DD) (a7 : Int32), K219 σ a7 → gW X w (lim0 w) 12 (QV X w post) σ 219 [(0, .ref (wAd w 0)), (7, .int a7)] []) {σ : DD} {a7 : Int32} (h : w_M_passesDay_b219 K219 post σ a7) : gW X w (lim0 w) 12 (QV X w post) σ 219 [(0, .ref (wAd w 0)), (7, .int a7)] [] := by
  unfold w_M_passesDay_b219 at h
  refine r_iload C 1 rfl (dk_at dk_M_passesDay_3 1 rfl) ?_
  refine r_bipush C 99 (dk_at dk_M_passesDay_3 2 rfl) ?_
  refine r_icmp_gt C 246 rfl (dk_at dk_M_passesDay_3 3 rfl) (fun c21 => ?_) (fun c21 => ?_)
  · replace h := h.1 c21
    exact r_vret C h (dk_at dk_M_passesDay_3 14 rfl)
  · replace h := h.2 c21
    refine r_aload_n C 0 rfl (dk_at dk_M_passesDay_3 4 rfl) ?_
    refine r_getR C fl_M_82 0 (hL 0 _ rfl) rfl (dk_at dk_M_passesDay_3 5 rfl) ?_
    refine r_iload C 1 rfl (dk_at dk_M_passesDay_3 6 rfl) ?_
    refine r_aload_n C 0 rfl (dk_at dk_M_passesDay_3 7 rfl) ?_
    refine r_getR C fl_M_86 0 (hL 0 _ rfl) rfl (dk_at dk_M_passesDay_3 8 rfl) ?_
    refine r_iload C 1 rfl (dk_at dk_M_passesDay_3 9 rfl) ?_
    obtain ⟨q22, h⟩ := h
    refine r_lald C 44 (hL 44 _ rfl) q22 (dk_at dk_M_passesDay_3 10 rfl) ?_
    obtain ⟨q25, h⟩ := h
    refine r_last C 43 (hL 43 _ rfl) q25 (dk_at dk_M_passesDay_3 11 rfl) (r_sg (fun σ23 e24 => ?_))
    replace h := h σ23 e24
    refine r_iinc C 1 rfl rfl [(7, .int (a7 + 1)), (0, .ref (wAd w 0))] rfl rfl (dk_at dk_M_passesDay_3 12 rfl) ?_
    refine r_goto C 219 rfl (dk_at dk_M_passesDay_3 13 rfl) ?_
    refine r_lv [1, 0] rfl ?_
    exact k219 _ _ h
set_option maxRecDepth 20000 in
theorem t_M_passesDay_l219 {X : CT} {w : WO} (C : CF X w (lim0 w) 12 cX11_passesDay RX11 none (.code yX11_passesDay cX11_passesDay 12 none) (rmK 92 2224)) (hL : LyM w) {post : DD → Prop} {σ : DD} {a7 : Int32} (h : w_M_passesDay_l219 post σ a7) : gW X w (lim0 w) 12 (QV X w post) σ 219 [(0, .ref (wAd w 0)), (7, .int a7)] [] :=
  LoopW (G := fun x : DD × Int32 => gW X w (lim0 w) 12 (QV X w post) x.1 219 [(0, .ref (wAd w 0)), (7, .int x.2)] []) (fun K x hK hF => t_M_passesDay_b219 C hL (fun σ a7 q => hK (σ, a7) q) hF) h
set_option maxRecDepth 20000 in
theorem t_M_passesDay_b70 {X : CT} {w : WO} (C : CF X w (lim0 w) 12 cX11_passesDay RX11 none (.code yX11_passesDay cX11_passesDay 12 none) (rmK 92 2224)) (hL : LyM w) {a4 : Int32} {a5 : Int32} {a6 : Int32} {K70 : DD → Int32 → Prop} {post : DD → Prop} (k70 : ∀ (σ : DD) (a7 : Int32), K70 σ a7 → gW X w (lim0 w) 12 (QV X w post) σ 70 [(0, .ref (wAd w 0)), (4, .int a4), (5, .int a5), (6, .int a6), (7, .int a7)] []) {σ : DD} {a7 : Int32} (h : w_M_passesDay_b70 a4 a5 a6 K70 post σ a7) : gW X w (lim0 w) 12 (QV X w post) σ 70 [(0, .ref (wAd w 0)), (4, .int a4), (5, .int a5), (6, .int a6), (7, .int a7)] [] := by
  unfold w_M_passesDay_b70 at h
  refine r_iload C 4 rfl (dk_at dk_M_passesDay_1 0 rfl) ?_
  refine r_bipush C 99 (dk_at dk_M_passesDay_1 1 rfl) ?_
  refine r_icmp_gt C 216 rfl (dk_at dk_M_passesDay_1 2 rfl) (fun c26 => ?_) (fun c26 => ?_)
  · replace h := h.1 c26
    refine r_iconst C 0 (dk_at dk_M_passesDay_2 39 rfl) ?_
    refine r_istore C [(7, .int 0), (0, .ref (wAd w 0)), (4, .int a4), (5, .int a5), (6, .int a6)] rfl rfl (dk_at dk_M_passesDay_3 0 rfl) ?_
    refine r_lv [1, 0] rfl ?_
    exact t_M_passesDay_l219 C hL h
  · replace h := h.2 c26
    refine r_iload C 1 rfl (dk_at dk_M_passesDay_1 3 rfl) ?_
    refine r_if_eq C 86 rfl (dk_at dk_M_passesDay_1 4 rfl) (fun c27 => ?_) (fun c27 => ?_)
    · replace h := h.1 c27
      refine r_aload_n C 0 rfl (dk_at dk_M_passesDay_1 7 rfl) ?_
      refine r_getR C fl_M_82 0 (hL 0 _ rfl) rfl (dk_at dk_M_passesDay_1 8 rfl) ?_
      refine r_iload C 4 rfl (dk_at dk_M_passesDay_1 9 rfl) ?_
      obtain ⟨q28, h⟩ := h
      refine r_lald C 43 (hL 43 _ rfl) q28 (dk_at dk_M_passesDay_1 10 rfl) ?_
      refine r_lv [0, 1, 2, 3, 4] rfl ?_
      exact t_M_passesDay_j93 C hL k70 h
    · replace h := h.2 c27
      refine r_lconst C 0 (dk_at dk_M_passesDay_1 5 rfl) ?_
      refine r_goto C 93 rfl (dk_at dk_M_passesDay_1 6 rfl) ?_
      refine r_lv [0, 1, 2, 3, 4] rfl ?_
      exact t_M_passesDay_j93 C hL k70 h
set_option maxRecDepth 20000 in
theorem t_M_passesDay_l70 {X : CT} {w : WO} (C : CF X w (lim0 w) 12 cX11_passesDay RX11 none (.code yX11_passesDay cX11_passesDay 12 none) (rmK 92 2224)) (hL : LyM w) {a4 : Int32} {a5 : Int32} {a6 : Int32} {post : DD → Prop} {σ : DD} {a7 : Int32} (h : w_M_passesDay_l70 post σ a4 a5 a6 a7) : gW X w (lim0 w) 12 (QV X w post) σ 70 [(0, .ref (wAd w 0)), (4, .int a4), (5, .int a5), (6, .int a6), (7, .int a7)] [] :=
  LoopW (G := fun x : DD × Int32 => gW X w (lim0 w) 12 (QV X w post) x.1 70 [(0, .ref (wAd w 0)), (4, .int a4), (5, .int a5), (6, .int a6), (7, .int x.2)] []) (fun K x hK hF => t_M_passesDay_b70 C hL (fun σ a7 q => hK (σ, a7) q) hF) h
set_option maxRecDepth 20000 in
theorem t_M_passesDay_b46 {X : CT} {w : WO} (C : CF X w (lim0 w) 12 cX11_passesDay RX11 none (.code yX11_passesDay cX11_passesDay 12 none) (rmK 92 2224)) (hL : LyM w) {a4 : Int32} {a5 : Int32} {a6 : Int32} {K46 : DD → Int32 → Prop} {post : DD → Prop} (k46 : ∀ (σ : DD) (a7 : Int32), K46 σ a7 → gW X w (lim0 w) 12 (QV X w post) σ 46 [(0, .ref (wAd w 0)), (4, .int a4), (5, .int a5), (6, .int a6), (7, .int a7)] []) {σ : DD} {a7 : Int32} (h : w_M_passesDay_b46 a4 a5 a6 K46 post σ a7) : gW X w (lim0 w) 12 (QV X w post) σ 46 [(0, .ref (wAd w 0)), (4, .int a4), (5, .int a5), (6, .int a6), (7, .int a7)] [] := by
  unfold w_M_passesDay_b46 at h
  refine r_iload C 4 rfl (dk_at dk_M_passesDay_0 28 rfl) ?_
  refine r_bipush C 99 (dk_at dk_M_passesDay_0 29 rfl) ?_
  refine r_icmp_gt C 67 rfl (dk_at dk_M_passesDay_0 30 rfl) (fun c29 => ?_) (fun c29 => ?_)
  · replace h := h.1 c29
    refine r_iconst C 0 (dk_at dk_M_passesDay_0 38 rfl) ?_
    refine r_istore C [(7, .int 0), (0, .ref (wAd w 0)), (4, .int a4), (5, .int a5), (6, .int a6)] rfl rfl (dk_at dk_M_passesDay_0 39 rfl) ?_
    refine r_lv [1, 2, 3, 4, 0] rfl ?_
    exact t_M_passesDay_l70 C hL h
  · replace h := h.2 c29
    refine r_aload_n C 0 rfl (dk_at dk_M_passesDay_0 31 rfl) ?_
    refine r_getR C fl_M_86 0 (hL 0 _ rfl) rfl (dk_at dk_M_passesDay_0 32 rfl) ?_
    refine r_iload C 4 rfl (dk_at dk_M_passesDay_0 33 rfl) ?_
    refine r_lconst C 0 (dk_at dk_M_passesDay_0 34 rfl) ?_
    obtain ⟨q32, h⟩ := h
    refine r_last C 44 (hL 44 _ rfl) q32 (dk_at dk_M_passesDay_0 35 rfl) (r_sg (fun σ30 e31 => ?_))
    replace h := h σ30 e31
    refine r_iinc C 4 rfl rfl [(7, .int (a7 + 1)), (0, .ref (wAd w 0)), (4, .int a4), (5, .int a5), (6, .int a6)] rfl rfl (dk_at dk_M_passesDay_0 36 rfl) ?_
    refine r_goto C 46 rfl (dk_at dk_M_passesDay_0 37 rfl) ?_
    refine r_lv [1, 2, 3, 4, 0] rfl ?_
    exact k46 _ _ h
set_option maxRecDepth 20000 in
theorem t_M_passesDay_l46 {X : CT} {w : WO} (C : CF X w (lim0 w) 12 cX11_passesDay RX11 none (.code yX11_passesDay cX11_passesDay 12 none) (rmK 92 2224)) (hL : LyM w) {a4 : Int32} {a5 : Int32} {a6 : Int32} {post : DD → Prop} {σ : DD} {a7 : Int32} (h : w_M_passesDay_l46 post σ a4 a5 a6 a7) : gW X w (lim0 w) 12 (QV X w post) σ 46 [(0, .ref (wAd w 0)), (4, .int a4), (5, .int a5), (6, .int a6), (7, .int a7)] [] :=
  LoopW (G := fun x : DD × Int32 => gW X w (lim0 w) 12 (QV X w post) x.1 46 [(0, .ref (wAd w 0)), (4, .int a4), (5, .int a5), (6, .int a6), (7, .int x.2)] []) (fun K x hK hF => t_M_passesDay_b46 C hL (fun σ a7 q => hK (σ, a7) q) hF) h
set_option maxRecDepth 20000 in
theorem t_M_passesDay_j32 {X : CT} {w : WO} (C : CF X w (lim0 w) 12 cX11_passesDay RX11 none (.code yX11_passesDay cX11_passesDay 12 none) (rmK 92 2224)) (hL : LyM w) {post : DD → Prop} {a1 : Int32} {a2 : Int32} {a3 : Int32} {a4 : Int32} {t0 : Int32} {σ : DD} (h : w_M_passesDay_j32 post σ a1 a2 a3 a4 t0) : gW X w (lim0 w) 12 (QV X w post) σ 32 [(0, .ref (wAd w 0)), (1, .int a1), (2, .int a2), (3, .int a3), (4, .int a4)] [.int t0] := by
  unfold w_M_passesDay_j32 at h
  refine r_istore C [(5, .int t0), (0, .ref (wAd w 0)), (1, .int a1), (2, .int a2), (3, .int a3), (4, .int a4)] rfl rfl (dk_at dk_M_passesDay_0 19 rfl) ?_
  refine r_aload_n C 1 rfl (dk_at dk_M_passesDay_0 20 rfl) ?_
  refine r_iload_n C 2 rfl (dk_at dk_M_passesDay_0 21 rfl) ?_
  refine r_iload_n C 3 rfl (dk_at dk_M_passesDay_0 22 rfl) ?_
  refine r_iload_n C 4 rfl (dk_at dk_M_passesDay_0 23 rfl) ?_
  refine r_cvI C cl_M_303 0 (hL 0 _ rfl) [.int a1, .int a2, .int a3] (m_M_lastsFor hL h) (rmK_ok rfl rfl) rfl rfl (Nat.le_of_ble_eq_true rfl) (dk_at dk_M_passesDay_0 24 rfl) (fun r33 σ34 h => ?_)
  refine r_istore C [(6, .int r33), (5, .int t0), (0, .ref (wAd w 0)), (1, .int a1), (2, .int a2), (3, .int a3), (4, .int a4)] rfl rfl (dk_at dk_M_passesDay_0 25 rfl) ?_
  refine r_iconst C 0 (dk_at dk_M_passesDay_0 26 rfl) ?_
  refine r_istore C [(7, .int 0), (6, .int r33), (5, .int t0), (0, .ref (wAd w 0)), (1, .int a1), (2, .int a2), (3, .int a3), (4, .int a4)] rfl rfl (dk_at dk_M_passesDay_0 27 rfl) ?_
  refine r_lv [3, 7, 2, 1, 0] rfl ?_
  exact t_M_passesDay_l46 C hL h
set_option maxRecDepth 20000 in
theorem m_M_passesDay {l : Launch} {w : WO} (hL : LyM w) {σ : DD} {a1 : Int32} {a2 : Int32} {a3 : Int32} {post : DD → Prop} (h : w_M_passesDay σ a1 a2 a3 post) : MV l w yX11_passesDay cX11_passesDay 12 (rmK 92 2224) σ [.ref (wAd w 0), .int a1, .int a2, .int a3] post :=
  met_head (rt := none) (by decide) rfl (fun X hX C => by
  subst hX
  unfold w_M_passesDay at h
  show gW X w (lim0 w) 12 (QV X w post) σ 0 [(0, .ref (wAd w 0)), (1, .int a1), (2, .int a2), (3, .int a3)] []
  refine r_aload_n C 0 rfl (dk_at dk_M_passesDay_0 0 rfl) ?_
  refine r_iload_n C 1 rfl (dk_at dk_M_passesDay_0 1 rfl) ?_
  refine r_iload_n C 2 rfl (dk_at dk_M_passesDay_0 2 rfl) ?_
  refine r_iload_n C 3 rfl (dk_at dk_M_passesDay_0 3 rfl) ?_
  refine r_cvI C cl_M_384 0 (hL 0 _ rfl) [.int a1, .int a2, .int a3] (m_M_triesOn hL h) (rmK_ok rfl rfl) rfl rfl (Nat.le_of_ble_eq_true rfl) (dk_at dk_M_passesDay_0 4 rfl) (fun r35 σ36 h => ?_)
  refine r_istore C [(4, .int r35), (0, .ref (wAd w 0)), (1, .int a1), (2, .int a2), (3, .int a3)] rfl rfl (dk_at dk_M_passesDay_0 5 rfl) ?_
  refine r_aload_n C 1 rfl (dk_at dk_M_passesDay_0 6 rfl) ?_
  refine r_iload_n C 2 rfl (dk_at dk_M_passesDay_0 7 rfl) ?_
  refine r_iload_n C 3 rfl (dk_at dk_M_passesDay_0 8 rfl) ?_
  refine r_iload_n C 4 rfl (dk_at dk_M_passesDay_0 9 rfl) ?_
  refine r_cvI C cl_M_310 0 (hL 0 _ rfl) [.int a1, .int a2, .int a3] (m_M_takesOf hL h) (rmK_ok rfl rfl) rfl rfl (Nat.le_of_ble_eq_true rfl) (dk_at dk_M_passesDay_0 10 rfl) (fun r37 σ38 h => ?_)
  refine r_aload_n C 1 rfl (dk_at dk_M_passesDay_0 11 rfl) ?_
  refine r_getR C fl_M_20 0 (hL 0 _ rfl) rfl (dk_at dk_M_passesDay_0 12 rfl) ?_
  refine r_sipush C 397 (dk_at dk_M_passesDay_0 13 rfl) ?_
  refine r_ialdK C 4 (hL 4 _ rfl) lk_397 (vk_397_6012) (dk_at dk_M_passesDay_0 14 rfl) ?_
  refine r_icmp_le C 31 rfl (dk_at dk_M_passesDay_0 15 rfl) (fun c39 => ?_) (fun c39 => ?_)
  · replace h := h.1 c39
    refine r_iconst C 0 (dk_at dk_M_passesDay_0 18 rfl) ?_
    refine r_lv [1, 2, 3, 4, 0] rfl ?_
    exact t_M_passesDay_j32 C hL h
  · replace h := h.2 c39
    refine r_iconst C 1 (dk_at dk_M_passesDay_0 16 rfl) ?_
    refine r_goto C 32 rfl (dk_at dk_M_passesDay_0 17 rfl) ?_
    refine r_lv [1, 2, 3, 4, 0] rfl ?_
    exact t_M_passesDay_j32 C hL h
  )
set_option maxRecDepth 20000 in
theorem t_M_likely_b105 {X : CT} {w : WO} (C : CF X w (lim0 w) 7 cX11_likely RX11 (some .long) (.code yX11_likely cX11_likely 7 (some .long)) (rmK 93 2255)) (hL : LyM w) {K105 : DD → Int64 → Int32 → Prop} {post : Int64 → DD → Prop} (k105 : ∀ (σ : DD) (a4 : Int64) (a6 : Int32), K105 σ a4 a6 → gW X w (lim0 w) 7 (QL X w post) σ 105 [(0, .ref (wAd w 0)), (4, .long a4), (6, .int a6)] []) {σ : DD} {a4 : Int64} {a6 : Int32} (h : w_M_likely_b105 K105 post σ a4 a6) : gW X w (lim0 w) 7 (QL X w post) σ 105 [(0, .ref (wAd w 0)), (4, .long a4), (6, .int a6)] [] := by
  unfold w_M_likely_b105 at h
  refine r_iload C 2 rfl (dk_at dk_M_likely_1 15 rfl) ?_
  refine r_bipush C 99 (dk_at dk_M_likely_1 16 rfl) ?_
  refine r_icmp_gt C 130 rfl (dk_at dk_M_likely_1 17 rfl) (fun c1 => ?_) (fun c1 => ?_)
  · replace h := h.1 c1
    refine r_lload C 1 rfl (dk_at dk_M_likely_1 27 rfl) ?_
    exact r_lret C h (dk_at dk_M_likely_1 28 rfl)
  · replace h := h.2 c1
    refine r_lload C 1 rfl (dk_at dk_M_likely_1 18 rfl) ?_
    refine r_aload_n C 0 rfl (dk_at dk_M_likely_1 19 rfl) ?_
    refine r_getR C fl_M_82 0 (hL 0 _ rfl) rfl (dk_at dk_M_likely_1 20 rfl) ?_
    refine r_iload C 2 rfl (dk_at dk_M_likely_1 21 rfl) ?_
    obtain ⟨q2, h⟩ := h
    refine r_lald C 43 (hL 43 _ rfl) q2 (dk_at dk_M_likely_1 22 rfl) ?_
    refine r_ladd C (dk_at dk_M_likely_1 23 rfl) ?_
    refine r_topl (fun v3 e4 => ?_)
    replace h := h v3 e4
    refine r_lstore C [(4, .long v3), (0, .ref (wAd w 0)), (6, .int a6)] rfl rfl (dk_at dk_M_likely_1 24 rfl) ?_
    refine r_iinc C 2 rfl rfl [(6, .int (a6 + 1)), (4, .long v3), (0, .ref (wAd w 0))] rfl rfl (dk_at dk_M_likely_1 25 rfl) ?_
    refine r_goto C 105 rfl (dk_at dk_M_likely_1 26 rfl) ?_
    refine r_lv [2, 1, 0] rfl ?_
    exact k105 _ _ _ h
