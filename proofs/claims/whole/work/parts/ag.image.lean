/-! ===== image of the class ===== -/
theorem LX_no {o b9 : Nat} {y : LY} (h9 : b9 = 230 ∨ b9 = 260) (h : LX o = some y) : ¬ (b9 ≤ o ∧ o ≤ b9 + 20) := by
  have : o < 230 := by
    unfold LX at h
    split at h <;> first | decide | cases h
  omega
theorem LR_le {b j : Nat} {y : LY} (h : LR b j = some y) : j ≤ 20 := by
  unfold LR at h
  split at h <;> first | decide | cases h
abbrev rmIm : Room := { frames := 2, cells := 15, slots := 369, locals := 82 }
/-- what image leaves of the world -/
def IMW (b : BZ) (T : TXT) (w : WO) (b9 : Nat) (w' : WO) : Prop := KX b T w' ∧ (∀ q, ¬ (b9 ≤ q ∧ q ≤ b9 + 20) → wLy w' q = wLy w q ∧ wAd w' q = wAd w q) ∧ (∀ j, j ≤ 20 → wLy w' (b9 + j) = LR b9 j) ∧ wFl w'
set_option maxRecDepth 20000 in
theorem i_image {l : Launch} {w : WO} {T : TXT} {z : EXa} {σ : DD} {sz k b9 : Nat} {b : BZ} {post : Int32 → DD → Prop} (hRC : RLC b9) (hK : KX b T w) (hbs : b.1 ≤ sz) (hZ : EXZ b z) (hFl : wFl w) (hk : prK k b9) (hT : ∀ q v, T q = some v → 300 ≤ q) (hI : gR σ 2 k = some b9 → LyR w b9) (hno : gR σ 2 k = none → ∀ j, j ≤ 20 → wLy w (b9 + j) = none) (hNR : gR σ 2 k = none → NRs w σ (fun o => b9 ≤ o ∧ o ≤ b9 + 20)) (h : wz_image T σ (nI k) post) : Met l yX10_image (.code yX10_image cX10_image 3 (some .int) :: TT) rmIm (wPc w σ [.ref (wAd w 0), .int (nI k)] sz) (wQmi w sz b (fun r u => ((u.1 = w ∧ ¬ gR σ 2 k = none) ∨ (gR σ 2 k = none ∧ IMW b T w b9 u.1)) ∧ post r u.2)) 15 369 (gA w sz) := by
  have hL := hK.ly hZ
  have k2 : k < 2 := by unfold prK at hk; omega
  have h9 : b9 = 230 ∨ b9 = 260 := by unfold prK at hk; omega
  obtain ⟨hd, hb⟩ := h.2 k b9 hk rfl
  refine mk_head (by decide) rfl hK.2.2 hbs (fun X hX hi hsz C => ?_)
  subst hX
  generalize hQ : MQ X.below (wQmi w sz b (fun r u => ((u.1 = w ∧ ¬ gR σ 2 k = none) ∨ (gR σ 2 k = none ∧ IMW b T w b9 u.1)) ∧ post r u.2)) X.args X.s 15 369 (gA w sz) = Q
  show gW X w (gA w sz, 0, 0) 3 Q σ 0 [(0, .ref (wAd w 0)), (1, .int (nI k))] []
  refine r_iload_n C.1 1 rfl (dk_at dk_Face_image_0 0 rfl) ?_
  refine r_if_lt C.1 9 rfl (dk_at dk_Face_image_0 1 rfl) (fun c => absurd c (by rw [show (0 : Int32) = nI 0 from rfl, nI_ltI (by omega) (by decide)]; omega)) (fun _ => ?_)
  refine r_iload_n C.1 1 rfl (dk_at dk_Face_image_0 2 rfl) ?_
  refine r_iconst C.1 2 (dk_at dk_Face_image_0 3 rfl) ?_
  refine r_icmp_lt C.1 15 rfl (dk_at dk_Face_image_0 4 rfl) (fun _ => ?_) (fun c => absurd (by rw [show (2 : Int32) = nI 2 from rfl, nI_ltI (by omega) (by decide)]; exact k2) c)
  refine r_aload_n C.1 0 rfl (dk_at dk_Face_image_0 9 rfl) ?_
  refine r_getR C.1 fl_Face_16 0 (hL.1 0 _ rfl) rfl (dk_at dk_Face_image_0 10 rfl) ?_
  refine r_iload_n C.1 1 rfl (dk_at dk_Face_image_0 11 rfl) ?_
  refine r_aald C.1 2 (hL.1 2 _ rfl) (Or.inr rfl) (vp_in_nI k2 (by decide)) (dk_at dk_Face_image_0 12 rfl) ?_
  rw [nI_clamp (by omega)]
  -- the end: the kept realm becomes the living one
  have fin : ∀ (w' : WO) (x1 : DD) (c s : Nat), c ≤ 15 → s ≤ 369 → CG X w' (gA w sz, c, s) 3 cX10_image yX10_image.cls (some .int) (.code yX10_image cX10_image 3 (some .int)) rmIm b → KX b T w' → wFl w' → LyR w' b9 → ((w' = w ∧ ¬ gR σ 2 k = none) ∨ (gR σ 2 k = none ∧ IMW b T w b9 w')) → wAd w' 0 = wAd w 0 → w_Real_become T b9 200 x1 (fun σ => w_Face_granted T σ 0 post) → gW X w' (gA w sz, c, s) 3 Q x1 41 [(2, .ref (wAd w' b9)), (0, .ref (wAd w 0)), (1, .int (nI k))] [] := by
    intro w' x1 c s hc hs C hK' hF' hR' hor h0 hbec
    have hL' := hK'.ly hZ
    rw [← h0]
    refine r_aload_n C.1 0 rfl (dk_at dk_Face_image_0 25 rfl) ?_
    refine r_aload_n C.1 1 rfl (dk_at dk_Face_image_0 26 rfl) ?_
    refine r_getR C.1 fl_Face_10 0 (hL'.1 0 _ rfl) rfl (dk_at dk_Face_image_0 27 rfl) ?_
    refine r_cvV C.1 cl_Face_309 b9 (hR' 0 _ rfl) [.ref (wAd w' 200)] (m_Real_become hL' hR' (lyR200 hL') hF' hbec) ⟨Nat.le_of_ble_eq_true rfl, Nat.le_of_ble_eq_true rfl, rfl, rfl⟩ rfl rfl (Nat.le_of_ble_eq_true rfl) (dk_at dk_Face_image_0 28 rfl) (fun σ3 h3 => ?_)
    refine r_aload_n C.1 1 rfl (dk_at dk_Face_image_0 29 rfl) ?_
    refine r_iconst C.1 0 (dk_at dk_Face_image_0 30 rfl) ?_
    refine r_cvI C.1 cl_Face_102 0 (hL'.1 0 _ rfl) [.int 0] (m_Face_granted hL' h3) ⟨Nat.le_of_ble_eq_true rfl, Nat.le_of_ble_eq_true rfl, rfl, rfl⟩ rfl rfl (Nat.le_of_ble_eq_true rfl) (dk_at dk_Face_image_0 31 rfl) (fun r σ4 h => ?_)
    rw [← hQ]
    exact r_miret C rfl hsz ⟨hc, hs⟩ ⟨hor, h⟩ (dk_at dk_Face_image_0 32 rfl)
  rcases hd with hd | hd
  · have hnn := hno hd
    have hN := hNR hd
    rw [hd]
    refine r_astore_nO (r := none) C.1 [(2, .null), (0, .ref (wAd w 0)), (1, .int (nI k))] rfl rfl (dk_at dk_Face_image_0 13 rfl) ?_
    refine r_aload_nN C.1 0 rfl (dk_at dk_Face_image_0 14 rfl) ?_
    refine r_ifnonnullN C.1 (dk_at dk_Face_image_0 15 rfl) ?_
    refine r_newO (c1 := 1) (s1 := 20) C no_Face_7 b9 (hnn 0 (by omega)) (hN b9 ⟨by omega, by omega⟩) ⟨rfl, rfl, Nat.le_of_ble_eq_true rfl, Nat.le_of_ble_eq_true rfl⟩ (dk_at dk_Face_image_0 16 rfl) (fun qr hqr C => ?_)
    have hN1 : NRs (wAdd w b9 qr (lR 5 [.int 0, .null, .null, .int 0, .null, .null, .null, .null, .int 0, .null, .null, .null, .int 0, .null, .null, .null, .null, .int 0, .null, .int 0])) (cle σ b9) (fun o => b9 ≤ o ∧ o ≤ b9 + 20) := hN.add (fun _ _ => nR_R)
    refine r_dup C.1 rfl (dk_at dk_Face_image_0 17 rfl) ?_
    refine r_mcI (rm' := { frames := 1, cells := 14, slots := 349, locals := 23 }) (mc := 14) (ms := 349) (c1 := 15) (s1 := 369) C ci_Face_9 [] (fun sz2 h2 => hRC C.2.1 h2 (fun U H hz => (hZ U H hz).2) wLy_ae wAd_ae hN1 (fun o h1 h2 => ⟨by omega, h2⟩) (fun j h1 h2 => no_an (by omega) (hnn j h2))) ⟨Nat.le_of_ble_eq_true rfl, Nat.le_of_ble_eq_true rfl, rfl, rfl, rfl, rfl, Nat.le_of_ble_eq_true rfl, Nat.le_of_ble_eq_true rfl⟩ rfl rfl (Nat.le_of_ble_eq_true rfl) (dk_at dk_Face_image_0 18 rfl) ?_
    rintro w2 σ2 hRP C2
    obtain ⟨p1, p2, ⟨fs, p3⟩, p4, p5, p6, p7⟩ := hRP
    have p1 : ∀ q, ¬ (b9 ≤ q ∧ q ≤ b9 + 20) → wLy w2 q = wLy (wAdd w b9 qr (lR 5 [.int 0, .null, .null, .int 0, .null, .null, .null, .null, .int 0, .null, .null, .null, .int 0, .null, .null, .null, .null, .int 0, .null, .int 0])) q ∧ wAd w2 q = wAd (wAdd w b9 qr (lR 5 [.int 0, .null, .null, .int 0, .null, .null, .null, .null, .int 0, .null, .null, .null, .int 0, .null, .null, .null, .null, .int 0, .null, .int 0])) q := p1
    have p2 : ∀ q k, ¬ (b9 ≤ q ∧ q ≤ b9 + 20) → gI σ2 q k = gI (cle σ b9) q k ∧ gL σ2 q k = gL (cle σ b9) q k ∧ gR σ2 q k = gR (cle σ b9) q k := p2
    have p4 : wAd w2 b9 = qr := Eq.trans p4 wAd_ae
    have p6 : ∀ j, j ≤ 20 → ¬ j = 0 → wLy w2 (b9 + j) = LR b9 j := p6
    have C3 := C2.set2 (y' := lO 5 (rfR b9) 20) p3 rfl rfl
    refine r_wd (w' := wSet w2 b9 (lO 5 (rfR b9) 20)) (σ' := rz σ2 b9) p5 ?_
    have o1 : ∀ q, ¬ (b9 ≤ q ∧ q ≤ b9 + 20) → wLy (wSet w2 b9 (lO 5 (rfR b9) 20)) q = wLy w q ∧ wAd (wSet w2 b9 (lO 5 (rfR b9) 20)) q = wAd w q := fun q hq => ⟨by rw [wLy_sn (by omega), (p1 q hq).1, wLy_an (by omega)], by show wAd w2 q = wAd w q; rw [(p1 q hq).2, wAd_an (by omega)]⟩
    have o2 : ∀ j, j ≤ 20 → wLy (wSet w2 b9 (lO 5 (rfR b9) 20)) (b9 + j) = LR b9 j := by
      intro j hj
      by_cases c : j = 0
      · subst c; exact wLy_se
      · rw [wLy_sn (by omega)]; exact p6 j hj c
    have o3 : wAd (wSet w2 b9 (lO 5 (rfR b9) 20)) b9 = qr := p4
    have x1 : ∀ a c, ¬ (b9 ≤ a ∧ a ≤ b9 + 20) → gI (rz σ2 b9) a c = gI σ a c := fun a c hq => by rw [rz_n (by omega), (p2 a c hq).1, (cle_n (by omega)).1]
    have x2 : ∀ a c, ¬ (b9 ≤ a ∧ a ≤ b9 + 20) → gR (rz σ2 b9) a c = gR σ a c := fun a c hq => by show gR σ2 a c = gR σ a c; rw [(p2 a c hq).2.2, (cle_n (by omega)).2.2]
    generalize rz σ2 b9 = σ3 at x1 x2 ⊢
    have hlo : ∀ o y, LX o = some y → ¬ (b9 ≤ o ∧ o ≤ b9 + 20) := fun o y ho => LX_no h9 ho
    have hK' : KX b T (wSet w2 b9 (lO 5 (rfR b9) 20)) := by
      refine ⟨fun o y ho => by rw [(o1 o (hlo o y ho)).1]; exact hK.1 o y ho, fun q n1 n2 hq => ?_, C3.2.1⟩
      have := hT q _ hq
      obtain ⟨y1, y2, y3⟩ := hK.2.1 q n1 n2 hq
      exact ⟨by rw [(o1 _ (by omega)).1]; exact y1, by rw [(o1 _ (by omega)).1]; exact y2, by rw [(o1 _ (by omega)).1]; exact y3⟩
    have hF2 : wFl (wSet w2 b9 (lO 5 (rfR b9) 20)) := fl_s (p7 (fl_a hFl))
    generalize wSet w2 b9 (lO 5 (rfR b9) 20) = w3 at C3 hK' hF2 o1 o2 o3 ⊢
    have hL3 := hK'.ly hZ
    have hR3 : LyR w3 b9 := fun j y hj => by
      have : j ≤ 20 := LR_le hj
      rw [o2 j this]; exact hj
    subst o3
    have a0 : wAd w3 0 = wAd w 0 := (o1 0 (by omega)).2
    refine r_astore_n C3.1 [(2, .ref (wAd w3 b9)), (0, .ref (wAd w 0)), (1, .int (nI k))] rfl rfl (dk_at dk_Face_image_0 19 rfl) ?_
    refine r_aload_n C3.1 1 rfl (dk_at dk_Face_image_0 20 rfl) ?_
    rw [← a0]
    refine r_getR C3.1 fl_Face_16 0 (hL3.1 0 _ rfl) rfl (dk_at dk_Face_image_0 21 rfl) ?_
    refine r_iload_n C3.1 2 rfl (dk_at dk_Face_image_0 22 rfl) ?_
    refine r_aload_n C3.1 0 rfl (dk_at dk_Face_image_0 23 rfl) ?_
    refine r_aast C3.1 hF2 2 b9 (hL3.1 2 _ rfl) (hR3 0 _ rfl) (Or.inr ⟨rfl, rfl⟩) (vp_in_nI k2 (by decide)) (dk_at dk_Face_image_0 24 rfl) ?_
    rw [nI_clamp (by omega), a0]
    refine fin w3 _ 15 369 (by omega) (by omega) C3 hK' hF2 hR3 (Or.inr ⟨hd, hK', o1, o2, hF2⟩) a0 (hb _ (fun a c hq => ?_) (fun a c h1 h2 => ?_) ?_)
    · exact x1 a c hq
    · show (if a = 2 ∧ c = k then _ else gR σ3 a c) = gR σ a c
      rw [if_neg h2]
      exact x2 a c h1
    · show (if 2 = 2 ∧ k = k then some b9 else _) = some b9
      rw [if_pos ⟨rfl, rfl⟩]
  · rw [hd]
    show gW X w (gA w sz, 0, 0) 3 _ σ 21 [(0, .ref (wAd w 0)), (1, .int (nI k))] [.ref (wAd w b9)]
    refine r_astore_n C.1 [(2, .ref (wAd w b9)), (0, .ref (wAd w 0)), (1, .int (nI k))] rfl rfl (dk_at dk_Face_image_0 13 rfl) ?_
    refine r_aload_n C.1 0 rfl (dk_at dk_Face_image_0 14 rfl) ?_
    refine r_ifnonnull C.1 41 rfl (dk_at dk_Face_image_0 15 rfl) ?_
    exact fin w σ 0 0 (by omega) (by omega) C hK hFl (hI hd) (Or.inl ⟨rfl, fun q => by rw [hd] at q; cases q⟩) rfl (hb σ (fun _ _ _ => rfl) (fun _ _ _ _ => rfl) hd)
