/-! ===== the class's world; law and orders ===== -/
theorem LX_lt {o : Nat} {y : LY} (h : LX o = some y) : o < 300 := by
  unfold LX at h
  split at h <;> first | decide | cases h
def KX (b : BZ) (T : TXT) (w : WO) : Prop := (∀ o y, LX o = some y → wLy w o = some y) ∧ (∀ t n1 n2, T t = some (n1, n2) → isT w t n1 n2) ∧ BW b w
def EXZ (b : BZ) (z : EXa) : Prop := ∀ U H, b.2 U H → EX (fun q => b.1 ≤ q) z U H ∧ EZ U
theorem EX.narrow {A B : Nat → Prop} {z : EXa} {U : State} {H : Heap} (h : EX A z U H) (hAB : ∀ q, B q → A q) : EX B z U H := by
  obtain ⟨h1, h2, h3, h4, h5, h6⟩ := h
  exact ⟨fun n hn => ⟨(h1 n hn).1.narrow hAB, (h1 n hn).2.narrow hAB⟩, h2.narrow hAB, h3.narrow hAB, h4.narrow hAB, h5, h6⟩
theorem KX.ly {b : BZ} {T : TXT} {w : WO} {z : EXa} (h : KX b T w) (hZ : EXZ b z) : LyX w T z := by
  refine ⟨h.1, h.2.1, fun U H hz => ?_⟩
  unfold wZ at hz
  rw [h.2.2.1] at hz
  exact (hZ U H hz).1.narrow h.2.2.2.2
section TXW
variable {w : WO} {t qt qc qh s c q : Nat}
theorem wTx_a (h : ¬ q = t ∧ ¬ q = t + 3 ∧ ¬ q = t + 4) : wAd (wTx w t qt qc qh s c) q = wAd w q := by
  show wAd (wAdd (wAdd (wAdd w (t + 4) qh (lI 0 (6 * c))) t qt (lR 8 [.int 0, .int 0, .null, .null])) (t + 3) qc (lI 0 s)) q = wAd w q
  rw [wAd_an h.2.1, wAd_an h.1, wAd_an h.2.2]
theorem wTx_l (h : ¬ q = t ∧ ¬ q = t + 3 ∧ ¬ q = t + 4) : wLy (wTx w t qt qc qh s c) q = wLy w q := by
  unfold wTx
  rw [wLy_sn h.1, wLy_an h.2.1, wLy_an h.1, wLy_an h.2.2]
theorem wTx_t : isT (wTx w t qt qc qh s c) t s (6 * c) := by
  unfold wTx
  refine ⟨wLy_se, ?_, ?_⟩
  · rw [wLy_sn (by omega), wLy_ae]
  · rw [wLy_sn (by omega), wLy_an (by omega), wLy_an (by omega), wLy_ae]
theorem wTx_at : wAd (wTx w t qt qc qh s c) t = qt := by
  show wAd (wAdd (wAdd (wAdd w (t + 4) qh (lI 0 (6 * c))) t qt (lR 8 [.int 0, .int 0, .null, .null])) (t + 3) qc (lI 0 s)) t = qt
  rw [wAd_an (by omega), wAd_ae]
theorem KX.tx {b : BZ} {T : TXT} (h : KX b T w) (hF : Fr T t) (hB : BW b (wTx w t qt qc qh s c)) : KX b (adT T t s (6 * c)) (wTx w t qt qc qh s c) := by
  have ht := hF.1
  refine ⟨fun o y ho => ?_, fun q n1 n2 hq => ?_, hB⟩
  · have := LX_lt ho
    rw [wTx_l (by omega)]; exact h.1 o y ho
  · unfold adT at hq
    by_cases e : q = t
    · rw [if_pos e] at hq
      cases hq
      rw [e]; exact wTx_t
    · rw [if_neg e] at hq
      have := hF.2 q _ hq
      obtain ⟨x1, x2, x3⟩ := h.2.1 q n1 n2 hq
      exact ⟨by rw [wTx_l (by omega)]; exact x1, by rw [wTx_l (by omega)]; exact x2, by rw [wTx_l (by omega)]; exact x3⟩
end TXW
abbrev rmLw : Room := { frames := 112, cells := 3, slots := 804, locals := 2606 }
set_option maxRecDepth 20000 in
theorem i_law {l : Launch} {w : WO} {T : TXT} {z : EXa} {σ : DD} {sz t : Nat} {b : BZ} {post : TXT → Int32 → DD → Prop} (hK : KX b T w) (hbs : b.1 ≤ sz) (hZ : EXZ b z) (hFl : wFl w) (hF : Fr T t) (hnt : wLy w t = none) (hn3 : wLy w (t + 3) = none) (hn4 : wLy w (t + 4) = none) (hNR : NRs w σ (fun o => o = t ∨ o = t + 3 ∨ o = t + 4)) (h : wz_law T σ post) : Met l yX10_law (.code yX10_law cX10_law 3 (some .int) :: TT) rmLw (wPc w σ [.ref (wAd w 0)] sz) (wQmi w sz b (fun r u => (u.1 = w ∧ post T r u.2) ∨ ∃ qt qc qh s c, u.1 = wTx w t qt qc qh s c ∧ s ≤ 400 ∧ c ≤ 12 ∧ post (adT T t s (6 * c)) r u.2)) 3 804 (gA w sz) := by
  have hL := hK.ly hZ
  have ht := hF.1
  refine mk_head (by decide) rfl hK.2.2 hbs (fun X hX hi hsz C => ?_)
  subst hX
  show gW X w (gA w sz, 0, 0) 3 _ σ 0 [(0, .ref (wAd w 0))] []
  refine r_aload_n C.1 0 rfl (dk_at dk_Face_law_0 0 rfl) ?_
  refine r_getR C.1 fl_Face_10 0 (hL.1 0 _ rfl) rfl (dk_at dk_Face_law_0 1 rfl) ?_
  refine r_getI C.1 fl_Face_176 200 (hL.1 200 _ rfl) rfl (dk_at dk_Face_law_0 2 rfl) ?_
  refine r_bipush C.1 6 (dk_at dk_Face_law_0 3 rfl) ?_
  refine r_icmp_lt C.1 27 rfl (dk_at dk_Face_law_0 4 rfl) (fun c => ?_) (fun c => ?_)
  rotate_left
  · replace h := h.1 (Int32.not_lt.mp c)
    refine r_aload_n C.1 0 rfl (dk_at dk_Face_law_0 5 rfl) ?_
    refine r_getR C.1 fl_Face_23 0 (hL.1 0 _ rfl) rfl (dk_at dk_Face_law_0 6 rfl) ?_
    refine r_iconst C.1 0 (dk_at dk_Face_law_0 7 rfl) ?_
    refine r_putI C.1 fl_Face_163 20 (hL.1 20 _ rfl) rfl (dk_at dk_Face_law_0 8 rfl) ?_
    refine r_aload_n C.1 0 rfl (dk_at dk_Face_law_0 9 rfl) ?_
    refine r_bipush C.1 (-5) (dk_at dk_Face_law_0 10 rfl) ?_
    refine r_cvI C.1 cl_Face_90 0 (hL.1 0 _ rfl) [.int (-5)] (m_Face_refused hL h) ⟨Nat.le_of_ble_eq_true rfl, Nat.le_of_ble_eq_true rfl, rfl, rfl⟩ rfl rfl (Nat.le_of_ble_eq_true rfl) (dk_at dk_Face_law_0 11 rfl) (fun r σ2 h => ?_)
    exact r_miret C rfl hsz ⟨Nat.zero_le _, Nat.zero_le _⟩ (Or.inl ⟨rfl, h⟩) (dk_at dk_Face_law_0 12 rfl)
  replace h := h.2 (fun z => absurd c (Int32.not_lt.mpr z))
  refine r_aload_n C.1 0 rfl (dk_at dk_Face_law_0 13 rfl) ?_
  refine r_getR C.1 fl_Face_32 0 (hL.1 0 _ rfl) rfl (dk_at dk_Face_law_0 14 rfl) ?_
  refine r_iconst C.1 1 (dk_at dk_Face_law_0 15 rfl) ?_
  refine r_mcvO (rm' := rmCp) (mc := 3) (ms := 804) (c1 := 3) (s1 := 804) C cx_Face_179 30 (hL.1 30 _ rfl) [.int 1] (fun sz2 h2 => i_compile C.2.1 h2 hL (fun U H hz => (hZ U H hz).1.2.2.2.2.2) ht hnt hn3 hn4 hNR (Or.inr rfl) h (fun σ1 h1 => ⟨h1.1, by obtain ⟨s, c, x1, x2, x3, x4, -⟩ := h1.2; exact ⟨s, c, x1, x2, x3, x4⟩⟩)) ⟨Nat.le_of_ble_eq_true rfl, Nat.le_of_ble_eq_true rfl, rfl, rfl, rfl, rfl, Nat.le_of_ble_eq_true rfl, Nat.le_of_ble_eq_true rfl⟩ rfl rfl (Nat.le_of_ble_eq_true rfl) (dk_at dk_Face_law_0 16 rfl) ?_
  rintro r w' σ' hpost C
  rcases hpost with ⟨hr, hw, h1⟩ | ⟨σ1, s, c, qt, qc, qh, h1, hs, hc, g4, g5, hr, hu⟩
  · subst hr
    have hw : w' = w := hw
    subst hw
    have h1 : w_Face_refused T (sI σ' 20 1 0) (-6) (post T) := h1
    refine r_astore_nO (r := none) C.1 [(1, .null), (0, .ref (wAd w' 0))] rfl rfl (dk_at dk_Face_law_0 17 rfl) ?_
    refine r_aload_n C.1 1 rfl (dk_at dk_Face_law_0 18 rfl) ?_
    refine r_getR C.1 fl_Face_23 0 (hL.1 0 _ rfl) rfl (dk_at dk_Face_law_0 19 rfl) ?_
    refine r_iconst C.1 0 (dk_at dk_Face_law_0 20 rfl) ?_
    refine r_putI C.1 fl_Face_163 20 (hL.1 20 _ rfl) rfl (dk_at dk_Face_law_0 21 rfl) ?_
    refine r_aload_nN C.1 0 rfl (dk_at dk_Face_law_0 22 rfl) ?_
    refine r_ifnonnullN C.1 (dk_at dk_Face_law_0 23 rfl) ?_
    refine r_aload_n C.1 1 rfl (dk_at dk_Face_law_0 24 rfl) ?_
    refine r_bipush C.1 (-6) (dk_at dk_Face_law_0 25 rfl) ?_
    refine r_cvI C.1 cl_Face_90 0 (hL.1 0 _ rfl) [.int (-6)] (m_Face_refused hL h1) ⟨Nat.le_of_ble_eq_true rfl, Nat.le_of_ble_eq_true rfl, rfl, rfl⟩ rfl rfl (Nat.le_of_ble_eq_true rfl) (dk_at dk_Face_law_0 26 rfl) (fun r σ2 h => ?_)
    exact r_miret C rfl hsz ⟨Nat.le_of_ble_eq_true rfl, Nat.le_of_ble_eq_true rfl⟩ (Or.inl ⟨rfl, h⟩) (dk_at dk_Face_law_0 27 rfl)
  · subst hr
    cases hu
    obtain ⟨-, s', c', x1, x2, x3, x4, h1⟩ := h1
    have es : s' = s := (nI_eq (by omega) (by omega)).1 (x3.symm.trans g4)
    have ec : c' = c := (nI_eq (by omega) (by omega)).1 (x4.symm.trans g5)
    subst es; subst ec
    have hK' : KX b (adT T t s' (6 * c')) (wTx w t qt qc qh s' c') := hK.tx hF C.2.1
    have hL' := hK'.ly hZ
    have hT' : isT (wTx w t qt qc qh s' c') t s' (6 * c') := wTx_t
    have hq : wAd (wTx w t qt qc qh s' c') t = qt := wTx_at
    have h0 : wAd (wTx w t qt qc qh s' c') 0 = wAd w 0 := wTx_a (by omega)
    have hFl' : wFl (wTx w t qt qc qh s' c') := hFl
    have h1 := h1 t hF _ rfl
    have fin : ∀ r σ2, post (adT T t s' (6 * c')) r σ2 → (fun r (u : WO × DD) => (u.1 = w ∧ post T r u.2) ∨ ∃ qt qc qh s c, u.1 = wTx w t qt qc qh s c ∧ s ≤ 400 ∧ c ≤ 12 ∧ post (adT T t s (6 * c)) r u.2) r (wTx w t qt qc qh s' c', σ2) := fun r σ2 hp => Or.inr ⟨qt, qc, qh, s', c', rfl, hs, hc, hp⟩
    generalize wTx w t qt qc qh s' c' = w' at C hK' hL' hT' hq h0 hFl' fin ⊢
    subst hq
    rw [← h0]
    show gW X w' (gA w sz, 3, 804) 3 _ _ 35 [(0, .ref (wAd w' 0))] [.ref (wAd w' t)]
    refine r_astore_n C.1 [(1, .ref (wAd w' t)), (0, .ref (wAd w' 0))] rfl rfl (dk_at dk_Face_law_0 17 rfl) ?_
    refine r_aload_n C.1 1 rfl (dk_at dk_Face_law_0 18 rfl) ?_
    refine r_getR C.1 fl_Face_23 0 (hL'.1 0 _ rfl) rfl (dk_at dk_Face_law_0 19 rfl) ?_
    refine r_iconst C.1 0 (dk_at dk_Face_law_0 20 rfl) ?_
    refine r_putI C.1 fl_Face_163 20 (hL'.1 20 _ rfl) rfl (dk_at dk_Face_law_0 21 rfl) ?_
    refine r_aload_n C.1 0 rfl (dk_at dk_Face_law_0 22 rfl) ?_
    refine r_ifnonnull C.1 55 rfl (dk_at dk_Face_law_0 23 rfl) ?_
    generalize sI (mkT σ1 t) 20 1 0 = σ2 at h1 ⊢
    refine r_aload_n C.1 1 rfl (dk_at dk_Face_law_0 28 rfl) ?_
    refine r_getR C.1 fl_Face_10 0 (hL'.1 0 _ rfl) rfl (dk_at dk_Face_law_0 29 rfl) ?_
    refine r_getI C.1 fl_Face_176 200 (hL'.1 200 _ rfl) rfl (dk_at dk_Face_law_0 30 rfl) ?_
    refine r_istore_n C.1 [(2, .int (gI σ2 200 17)), (1, .ref (wAd w' t)), (0, .ref (wAd w' 0))] rfl rfl (dk_at dk_Face_law_0 31 rfl) ?_
    refine r_aload_n C.1 2 rfl (dk_at dk_Face_law_0 32 rfl) ?_
    refine r_getR C.1 fl_Face_10 0 (hL'.1 0 _ rfl) rfl (dk_at dk_Face_law_0 33 rfl) ?_
    refine r_getR C.1 fx_Face_183 200 (hL'.1 200 _ rfl) rfl (dk_at dk_Face_law_0 34 rfl) ?_
    refine r_iload_n C.1 0 rfl (dk_at dk_Face_law_0 35 rfl) ?_
    refine r_aload_n C.1 1 rfl (dk_at dk_Face_law_0 36 rfl) ?_
    refine r_aast C.1 hFl' 219 t (hL'.1 219 _ rfl) hT'.1 (Or.inl ⟨rfl, rfl⟩) h1.1 (dk_at dk_Face_law_0 37 rfl) ?_
    have h1 := h1.2 _ rfl _ rfl
    generalize sR σ2 219 (gI σ2 200 17).toNatClampNeg (some t) = σ3 at h1 ⊢
    refine r_aload_n C.1 2 rfl (dk_at dk_Face_law_0 38 rfl) ?_
    refine r_getR C.1 fl_Face_10 0 (hL'.1 0 _ rfl) rfl (dk_at dk_Face_law_0 39 rfl) ?_
    refine r_dup C.1 rfl (dk_at dk_Face_law_1 0 rfl) ?_
    refine r_getI C.1 fl_Face_176 200 (hL'.1 200 _ rfl) rfl (dk_at dk_Face_law_1 1 rfl) ?_
    refine r_iconst C.1 1 (dk_at dk_Face_law_1 2 rfl) ?_
    refine r_iadd C.1 (dk_at dk_Face_law_1 3 rfl) ?_
    refine r_putI C.1 fl_Face_176 200 (hL'.1 200 _ rfl) rfl (dk_at dk_Face_law_1 4 rfl) ?_
    refine r_aload_n C.1 2 rfl (dk_at dk_Face_law_1 5 rfl) ?_
    refine r_iload_n C.1 0 rfl (dk_at dk_Face_law_1 6 rfl) ?_
    refine r_cvI C.1 cl_Face_102 0 (hL'.1 0 _ rfl) [.int (gI σ2 200 17)] (m_Face_granted hL' h1) ⟨Nat.le_of_ble_eq_true rfl, Nat.le_of_ble_eq_true rfl, rfl, rfl⟩ rfl rfl (Nat.le_of_ble_eq_true rfl) (dk_at dk_Face_law_1 7 rfl) (fun r σ4 h => ?_)
    exact r_miret C rfl hsz ⟨Nat.le_of_ble_eq_true rfl, Nat.le_of_ble_eq_true rfl⟩ (fin r σ4 h) (dk_at dk_Face_law_1 8 rfl)
set_option maxRecDepth 20000 in
theorem i_orders {l : Launch} {w : WO} {T : TXT} {z : EXa} {σ : DD} {sz t : Nat} {b : BZ} {post : TXT → Int32 → DD → Prop} (hK : KX b T w) (hbs : b.1 ≤ sz) (hZ : EXZ b z) (hF : Fr T t) (hnt : wLy w t = none) (hn3 : wLy w (t + 3) = none) (hn4 : wLy w (t + 4) = none) (hNR : NRs w σ (fun o => o = t ∨ o = t + 3 ∨ o = t + 4)) (h : wz_orders T σ post) : Met l yX10_orders (.code yX10_orders cX10_orders 3 (some .int) :: TT) rmLw (wPc w σ [.ref (wAd w 0)] sz) (wQmi w sz b (fun r u => (u.1 = w ∧ post T r u.2) ∨ ∃ qt qc qh s c, u.1 = wTx w t qt qc qh s c ∧ s ≤ 400 ∧ c ≤ 12 ∧ post (adT T t s (6 * c)) r u.2)) 3 804 (gA w sz) := by
  have hL := hK.ly hZ
  have ht := hF.1
  refine mk_head (by decide) rfl hK.2.2 hbs (fun X hX hi hsz C => ?_)
  subst hX
  show gW X w (gA w sz, 0, 0) 3 _ σ 0 [(0, .ref (wAd w 0))] []
  refine r_aload_n C.1 0 rfl (dk_at dk_Face_orders_0 0 rfl) ?_
  refine r_getR C.1 fl_Face_32 0 (hL.1 0 _ rfl) rfl (dk_at dk_Face_orders_0 1 rfl) ?_
  refine r_iconst C.1 0 (dk_at dk_Face_orders_0 2 rfl) ?_
  refine r_mcvO (rm' := rmCp) (mc := 3) (ms := 804) (c1 := 3) (s1 := 804) C cx_Face_179 30 (hL.1 30 _ rfl) [.int 0] (fun sz2 h2 => i_compile C.2.1 h2 hL (fun U H hz => (hZ U H hz).1.2.2.2.2.2) ht hnt hn3 hn4 hNR (Or.inl rfl) h (fun σ1 h1 => ⟨h1.1, by obtain ⟨s, c, x1, x2, x3, x4, -⟩ := h1.2; exact ⟨s, c, x1, x2, x3, x4⟩⟩)) ⟨Nat.le_of_ble_eq_true rfl, Nat.le_of_ble_eq_true rfl, rfl, rfl, rfl, rfl, Nat.le_of_ble_eq_true rfl, Nat.le_of_ble_eq_true rfl⟩ rfl rfl (Nat.le_of_ble_eq_true rfl) (dk_at dk_Face_orders_0 3 rfl) ?_
  rintro r w' σ' hpost C
  rcases hpost with ⟨hr, hw, h1⟩ | ⟨σ1, s, c, qt, qc, qh, h1, hs, hc, g4, g5, hr, hu⟩
  · subst hr
    have hw : w' = w := hw
    subst hw
    have h1 : w_Face_refused T (sI (sI σ' 20 1 0) 60 6 (-1)) (-6) (post T) := h1
    refine r_astore_nO (r := none) C.1 [(1, .null), (0, .ref (wAd w' 0))] rfl rfl (dk_at dk_Face_orders_0 4 rfl) ?_
    refine r_aload_n C.1 1 rfl (dk_at dk_Face_orders_0 5 rfl) ?_
    refine r_getR C.1 fl_Face_23 0 (hL.1 0 _ rfl) rfl (dk_at dk_Face_orders_0 6 rfl) ?_
    refine r_iconst C.1 0 (dk_at dk_Face_orders_0 7 rfl) ?_
    refine r_putI C.1 fl_Face_163 20 (hL.1 20 _ rfl) rfl (dk_at dk_Face_orders_0 8 rfl) ?_
    refine r_aload_n C.1 1 rfl (dk_at dk_Face_orders_0 9 rfl) ?_
    refine r_getR C.1 fl_Face_50 0 (hL.1 0 _ rfl) rfl (dk_at dk_Face_orders_0 10 rfl) ?_
    refine r_iconst C.1 (-1) (dk_at dk_Face_orders_0 11 rfl) ?_
    refine r_putI C.1 fl_Face_187 60 (hL.1 60 _ rfl) rfl (dk_at dk_Face_orders_0 12 rfl) ?_
    refine r_aload_nN C.1 0 rfl (dk_at dk_Face_orders_0 13 rfl) ?_
    refine r_ifnonnullN C.1 (dk_at dk_Face_orders_0 14 rfl) ?_
    refine r_aload_n C.1 1 rfl (dk_at dk_Face_orders_0 15 rfl) ?_
    refine r_bipush C.1 (-6) (dk_at dk_Face_orders_0 16 rfl) ?_
    refine r_cvI C.1 cl_Face_90 0 (hL.1 0 _ rfl) [.int (-6)] (m_Face_refused hL h1) ⟨Nat.le_of_ble_eq_true rfl, Nat.le_of_ble_eq_true rfl, rfl, rfl⟩ rfl rfl (Nat.le_of_ble_eq_true rfl) (dk_at dk_Face_orders_0 17 rfl) (fun r σ2 h => ?_)
    exact r_miret C rfl hsz ⟨Nat.le_of_ble_eq_true rfl, Nat.le_of_ble_eq_true rfl⟩ (Or.inl ⟨rfl, h⟩) (dk_at dk_Face_orders_0 18 rfl)
  · subst hr
    cases hu
    obtain ⟨-, s', c', x1, x2, x3, x4, h1⟩ := h1
    have es : s' = s := (nI_eq (by omega) (by omega)).1 (x3.symm.trans g4)
    have ec : c' = c := (nI_eq (by omega) (by omega)).1 (x4.symm.trans g5)
    subst es; subst ec
    have hK' : KX b (adT T t s' (6 * c')) (wTx w t qt qc qh s' c') := hK.tx hF C.2.1
    have hL' := hK'.ly hZ
    have hT' : isT (wTx w t qt qc qh s' c') t s' (6 * c') := wTx_t
    have hq : wAd (wTx w t qt qc qh s' c') t = qt := wTx_at
    have h0 : wAd (wTx w t qt qc qh s' c') 0 = wAd w 0 := wTx_a (by omega)
    have h1 := h1 t hF _ rfl
    have fin : ∀ r σ2, post (adT T t s' (6 * c')) r σ2 → (fun r (u : WO × DD) => (u.1 = w ∧ post T r u.2) ∨ ∃ qt qc qh s c, u.1 = wTx w t qt qc qh s c ∧ s ≤ 400 ∧ c ≤ 12 ∧ post (adT T t s (6 * c)) r u.2) r (wTx w t qt qc qh s' c', σ2) := fun r σ2 hp => Or.inr ⟨qt, qc, qh, s', c', rfl, hs, hc, hp⟩
    generalize wTx w t qt qc qh s' c' = w' at C hK' hL' hT' hq h0 fin ⊢
    subst hq
    rw [← h0]
    show gW X w' (gA w sz, 3, 804) 3 _ _ 8 [(0, .ref (wAd w' 0))] [.ref (wAd w' t)]
    refine r_astore_n C.1 [(1, .ref (wAd w' t)), (0, .ref (wAd w' 0))] rfl rfl (dk_at dk_Face_orders_0 4 rfl) ?_
    refine r_aload_n C.1 1 rfl (dk_at dk_Face_orders_0 5 rfl) ?_
    refine r_getR C.1 fl_Face_23 0 (hL'.1 0 _ rfl) rfl (dk_at dk_Face_orders_0 6 rfl) ?_
    refine r_iconst C.1 0 (dk_at dk_Face_orders_0 7 rfl) ?_
    refine r_putI C.1 fl_Face_163 20 (hL'.1 20 _ rfl) rfl (dk_at dk_Face_orders_0 8 rfl) ?_
    refine r_aload_n C.1 1 rfl (dk_at dk_Face_orders_0 9 rfl) ?_
    refine r_getR C.1 fl_Face_50 0 (hL'.1 0 _ rfl) rfl (dk_at dk_Face_orders_0 10 rfl) ?_
    refine r_iconst C.1 (-1) (dk_at dk_Face_orders_0 11 rfl) ?_
    refine r_putI C.1 fl_Face_187 60 (hL'.1 60 _ rfl) rfl (dk_at dk_Face_orders_0 12 rfl) ?_
    refine r_aload_n C.1 0 rfl (dk_at dk_Face_orders_0 13 rfl) ?_
    refine r_ifnonnull C.1 36 rfl (dk_at dk_Face_orders_0 14 rfl) ?_
    generalize sI (sI (mkT σ1 t) 20 1 0) 60 6 (-1) = σ2 at h1 ⊢
    refine r_aload_n C.1 1 rfl (dk_at dk_Face_orders_0 19 rfl) ?_
    refine r_getR C.1 fl_Face_50 0 (hL'.1 0 _ rfl) rfl (dk_at dk_Face_orders_0 20 rfl) ?_
    refine r_aload_n C.1 0 rfl (dk_at dk_Face_orders_0 21 rfl) ?_
    refine r_cvI C.1 cx_Face_190 60 (hL'.1 60 _ rfl) [.ref (wAd w' t)] (m_Ord_runWholly hL' hT' h1) ⟨Nat.le_of_ble_eq_true rfl, Nat.le_of_ble_eq_true rfl, rfl, rfl⟩ rfl rfl (Nat.le_of_ble_eq_true rfl) (dk_at dk_Face_orders_0 22 rfl) (fun r3 σ3 h1 => ?_)
    refine r_istore_n C.1 [(2, .int r3), (1, .ref (wAd w' t)), (0, .ref (wAd w' 0))] rfl rfl (dk_at dk_Face_orders_0 23 rfl) ?_
    refine r_iload_n C.1 0 rfl (dk_at dk_Face_orders_0 24 rfl) ?_
    refine r_if_ge C.1 57 rfl (dk_at dk_Face_orders_0 25 rfl) (fun c => ?_) (fun c => ?_)
    · replace h1 := h1.1 c
      refine r_aload_n C.1 2 rfl (dk_at dk_Face_orders_0 30 rfl) ?_
      refine r_iload_n C.1 0 rfl (dk_at dk_Face_orders_0 31 rfl) ?_
      refine r_cvI C.1 cl_Face_102 0 (hL'.1 0 _ rfl) [.int r3] (m_Face_granted hL' h1) ⟨Nat.le_of_ble_eq_true rfl, Nat.le_of_ble_eq_true rfl, rfl, rfl⟩ rfl rfl (Nat.le_of_ble_eq_true rfl) (dk_at dk_Face_orders_0 32 rfl) (fun r σ4 h => ?_)
      exact r_miret C rfl hsz ⟨Nat.le_of_ble_eq_true rfl, Nat.le_of_ble_eq_true rfl⟩ (fin r σ4 h) (dk_at dk_Face_orders_0 33 rfl)
    · replace h1 := h1.2 c
      refine r_aload_n C.1 2 rfl (dk_at dk_Face_orders_0 26 rfl) ?_
      refine r_iload_n C.1 0 rfl (dk_at dk_Face_orders_0 27 rfl) ?_
      refine r_cvI C.1 cl_Face_90 0 (hL'.1 0 _ rfl) [.int r3] (m_Face_refused hL' h1) ⟨Nat.le_of_ble_eq_true rfl, Nat.le_of_ble_eq_true rfl, rfl, rfl⟩ rfl rfl (Nat.le_of_ble_eq_true rfl) (dk_at dk_Face_orders_0 28 rfl) (fun r σ4 h => ?_)
      refine r_goto C.1 62 rfl (dk_at dk_Face_orders_0 29 rfl) ?_
      exact r_miret C rfl hsz ⟨Nat.le_of_ble_eq_true rfl, Nat.le_of_ble_eq_true rfl⟩ (fin r σ4 h) (dk_at dk_Face_orders_0 33 rfl)
