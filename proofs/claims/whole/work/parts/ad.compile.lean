/-! ===== compile: what it makes ===== -/
def wTx (w : WO) (t qt qc qh s c : Nat) : WO := wSet (wAdd (wAdd (wAdd w (t + 4) qh (lI 0 (6 * c))) t qt (lR 8 [.int 0, .int 0, .null, .null])) (t + 3) qc (lI 0 s)) t (lO 8 (rfT t) 4)
theorem wA_set2 {w : WO} {o q : Nat} {y y' : LY} (hy : wLy w o = some y) (h1 : isQ y = false) (h2 : isQ y' = false) : wA (wSet w o y') q ↔ wA w q := by
  constructor
  · rintro ⟨o', z, g1, g2, g3⟩
    by_cases c : o' = o
    · exact ⟨o', y, by rw [c]; exact hy, (fun z => by rw [h1] at z; cases z), g3⟩
    · rw [wLy_sn c] at g1
      exact ⟨o', z, g1, g2, g3⟩
  · rintro ⟨o', z, g1, g2, g3⟩
    by_cases c : o' = o
    · exact ⟨o', y', by rw [c]; exact wLy_se, (fun z => by rw [h2] at z; cases z), g3⟩
    · exact ⟨o', z, by rw [wLy_sn c]; exact g1, g2, g3⟩
theorem CG.set2 {X : CT} {w : WO} {L : LIM} {nL : Nat} {cc : ByteArray} {own : String} {rt : Option FieldType} {cw : Cond} {rm : Room} {b : BZ} (C : CG X w L nL cc own rt cw rm b) {o : Nat} {y y' : LY} (hy : wLy w o = some y) (h1 : isQ y = false) (h2 : isQ y' = false) : CG X (wSet w o y') L nL cc own rt cw rm b := by
  obtain ⟨⟨c1, c2, c3, c4, c5, c6, c7, c8, c9, c10, c11, c12, c13⟩, ⟨e, z, k⟩, hb, hl⟩ := C
  have hBW : BW b (wSet w o y') := ⟨e, z, fun q hq => k q ((wA_set2 hy h1 h2).1 hq)⟩
  exact ⟨⟨c1, c2, c3, c4, c5, ⟨c6.1, hBW.zc⟩, c7, c8, c9, fun q hq => c10 q ((wA_set2 hy h1 h2).1 hq), fun q h1' h2' => (wA_set2 hy h1 h2).2 (c11 q h1' h2'), c12, c13⟩, hBW, hb, hl⟩
theorem r_wd {X : CT} {w w' : WO} {L : LIM} {nL : Nat} {Q : State → Prop} {σ σ' : DD} {pc : Nat} {lv : List (Nat × Value)} {st : List Value} (h : ∀ H, Wd w σ H → Wd w' σ' H) (k : gW X w' L nL Q σ' pc lv st) : gW X w L nL Q σ pc lv st := fun H locs ls a b d => k H locs ls (h H a) b d
/-- the made text, told as a text -/
theorem wd_text {w : WO} {σ : DD} {H : Heap} {t qt qc qh s c : Nat} (ht : 300 ≤ t) (h : Wd (wSet (wAdd (wAdd (wAdd w (t + 4) qh (lI 0 (6 * c))) t qt (lR 8 [.int 0, .int 0, .null, .null])) (t + 3) qc (lI 0 s)) t (lR 8 [.int (gI σ 30 5), .int (gI σ 30 7), .ref qc, .ref qh])) (cpA (cle (cpA σ 33 (t + 4)) t) 32 (t + 3)) H) : Wd (wTx w t qt qc qh s c) (mkT σ t) H := by
  have a3 : wAd (wTx w t qt qc qh s c) (t + 3) = qc := by
    show wAd (wAdd (wAdd (wAdd w (t + 4) qh (lI 0 (6 * c))) t qt (lR 8 [.int 0, .int 0, .null, .null])) (t + 3) qc (lI 0 s)) (t + 3) = qc
    exact wAd_ae
  have a4 : wAd (wTx w t qt qc qh s c) (t + 4) = qh := by
    show wAd (wAdd (wAdd (wAdd w (t + 4) qh (lI 0 (6 * c))) t qt (lR 8 [.int 0, .int 0, .null, .null])) (t + 3) qc (lI 0 s)) (t + 4) = qh
    rw [wAd_an (by omega), wAd_an (by omega)]; exact wAd_ae
  refine h.to (fun q y' hq => ⟨rfl, ?_⟩)
  by_cases ct : q = t
  · subst ct
    have e : y' = lO 8 (rfT q) 4 := by
      have := (wLy_se (w := (wAdd (wAdd (wAdd w (q + 4) qh (lI 0 (6 * c))) q qt (lR 8 [.int 0, .int 0, .null, .null])) (q + 3) qc (lI 0 s))) (o := q) (y := lO 8 (rfT q) 4))
      exact (Option.some.inj (this.symm.trans hq)).symm
    subst e
    refine ⟨_, wLy_se, fun k => ?_⟩
    have e2 : celV (wTx w q qt qc qh s c) (mkT σ q) q (lO 8 (rfT q) 4) = .inr (8, [.int (gI σ 30 5), .int (gI σ 30 7), .ref qc, .ref qh]) := by
      show Sum.inr (8, (List.range 4).map (fun k => fldV (wTx w q qt qc qh s c) (mkT σ q) q (rfT q k) k)) = _
      have e3 : (List.range 4).map (fun k => fldV (wTx w q qt qc qh s c) (mkT σ q) q (rfT q k) k) = [.int (gI (mkT σ q) q 0), .int (gI (mkT σ q) q 1), .ref (wAd (wTx w q qt qc qh s c) (q + 3)), .ref (wAd (wTx w q qt qc qh s c) (q + 4))] := rfl
      rw [e3, a3, a4, mkT_0, mkT_1]
    rw [e2]; exact k
  · have hq' : wLy (wAdd (wAdd (wAdd w (t + 4) qh (lI 0 (6 * c))) t qt (lR 8 [.int 0, .int 0, .null, .null])) (t + 3) qc (lI 0 s)) q = some y' := (wLy_sn ct).symm.trans hq
    refine ⟨y', (wLy_sn ct).trans hq', fun k => ?_⟩
    have cg : ∀ {a : Nat}, (∀ k, gI (mkT σ t) q k = gI (cpA (cle (cpA σ 33 (t + 4)) t) 32 (t + 3)) q k) → va_at w.1 cls12 (a, celV (wTx w t qt qc qh s c) (cpA (cle (cpA σ 33 (t + 4)) t) 32 (t + 3)) q y') H → va_at w.1 cls12 (a, celV (wTx w t qt qc qh s c) (mkT σ t) q y') H := by
      intro a e1 hh
      rw [cel_same (w := wTx w t qt qc qh s c) (σ := cpA (cle (cpA σ 33 (t + 4)) t) 32 (t + 3)) (σ' := mkT σ t) e1 (fun k => (cle_n ct).2.1.symm) (fun k => (cle_n ct).2.2.symm)]
      exact hh
    have k' : va_at w.1 cls12 (wAd (wTx w t qt qc qh s c) q, celV (wTx w t qt qc qh s c) (cpA (cle (cpA σ 33 (t + 4)) t) 32 (t + 3)) q y') H := by
      rcases y' with ⟨ci, rf, N⟩ | ⟨t, n⟩ | n | ⟨t, n⟩ | ⟨ci, fs⟩ <;> exact k
    refine cg (fun j => ?_) k'
    by_cases c3 : q = t + 3
    · subst c3
      rw [mkT_c, cpA_e, (cle_n (by omega)).1, cpA_n (by omega)]
    · rw [cpA_n c3, (cle_n ct).1]
      by_cases c4 : q = t + 4
      · subst c4
        rw [mkT_h, cpA_e]
      · rw [cpA_n c4, mkT_i ⟨ct, c3, c4⟩]
abbrev rmCp : Room := { frames := 111, cells := 3, slots := 804, locals := 2583 }
set_option maxRecDepth 20000 in
theorem i_compile {l : Launch} {w : WO} {T : TXT} {z : EXa} {σ : DD} {sz t : Nat} {b : BZ} {a1 : Int32} {p0 p1 : DD → Prop} (hb : BW b w) (hbs : b.1 ≤ sz) (hL : LyX w T z) (hE : ∀ U H, b.2 U H → va_Nw (.castable "[I" "java/lang/Cloneable") U) (ht : 300 ≤ t) (hnt : wLy w t = none) (hn3 : wLy w (t + 3) = none) (hn4 : wLy w (t + 4) = none) (hNR : NRs w σ (fun o => o = t ∨ o = t + 3 ∨ o = t + 4)) (hz : bz a1) (h : cp_all T σ a1 p0 p1) (hp : ∀ σ1, p1 σ1 → σ1.2.2 = σ.2.2 ∧ ∃ s c, s ≤ 400 ∧ c ≤ 12 ∧ gI σ1 30 4 = nI s ∧ gI σ1 30 5 = nI c) : Met l yX4_compile (.code yX4_compile cX4_compile 4 (some (.object "FadingActs$Text")) :: TT) rmCp (wPc w σ [.ref (wAd w 30), .int a1] sz) (wQmo w sz b (fun r u => (r = none ∧ u.1 = w ∧ p0 u.2) ∨ ∃ σ1 s c qt qc qh, p1 σ1 ∧ s ≤ 400 ∧ c ≤ 12 ∧ gI σ1 30 4 = nI s ∧ gI σ1 30 5 = nI c ∧ r = some qt ∧ u = (wTx w t qt qc qh s c, mkT σ1 t))) 3 804 (gA w sz) := by
  refine mk_head (by decide) rfl hb hbs (fun X hX hi hsz C => ?_)
  subst hX
  generalize hQ : MQ X.below (wQmo w sz b (fun r u => (r = none ∧ u.1 = w ∧ p0 u.2) ∨ ∃ σ1 s c qt qc qh, p1 σ1 ∧ s ≤ 400 ∧ c ≤ 12 ∧ gI σ1 30 4 = nI s ∧ gI σ1 30 5 = nI c ∧ r = some qt ∧ u = (wTx w t qt qc qh s c, mkT σ1 t))) X.args X.s 3 804 (gA w sz) = Q
  have k0 : ∀ σ1, p0 σ1 → gW X w (gA w sz, 0, 0) 4 Q σ1 107 [(0, .ref (wAd w 30))] [] := by
    intro σ1 h1
    rw [← hQ]
    refine r_null C.1 (dk_at dk_Pars_compile_1 15 rfl) ?_
    exact r_moret (r := none) C (Or.inl ⟨_, rfl⟩) rfl hsz ⟨Nat.zero_le _, Nat.zero_le _⟩ (Or.inl ⟨rfl, rfl, h1⟩) (dk_at dk_Pars_compile_1 16 rfl)
  have k1 : ∀ σ1, p1 σ1 → gW X w (gA w sz, 0, 0) 4 Q σ1 109 [(0, .ref (wAd w 30))] [] := by
    intro σ1 h1
    obtain ⟨eR, s, c, hs, hc, g4, g5⟩ := hp σ1 h1
    have hN1 : NRs w σ1 (fun o => o = t ∨ o = t + 3 ∨ o = t + 4) := hNR.gr (fun q k => by unfold gR; rw [eR])
    have y30 := hL.1 30 _ rfl
    have y32 := hL.1 32 _ rfl
    have y33 := hL.1 33 _ rfl
    rw [← hQ]
    refine r_aload_n C.1 0 rfl (dk_at dk_Pars_compile_1 17 rfl) ?_
    refine r_getR C.1 fl_Pars_19 30 y30 rfl (dk_at dk_Pars_compile_1 18 rfl) ?_
    refine r_aload_n C.1 0 rfl (dk_at dk_Pars_compile_1 19 rfl) ?_
    refine r_getI C.1 fl_Pars_37 30 y30 rfl (dk_at dk_Pars_compile_1 20 rfl) ?_
    refine r_bipush C.1 6 (dk_at dk_Pars_compile_1 21 rfl) ?_
    refine r_imul C.1 (dk_at dk_Pars_compile_1 22 rfl) ?_
    rw [g5, show nI c * 6 = nI (6 * c) from by rw [show (6 : Int32) = nI 6 from rfl, pk_mul, Nat.mul_comm]]
    refine r_mcO (rm' := { frames := 1, cells := 1, slots := 400, locals := 60 }) (mc := 1) (ms := 400) (c1 := 1) (s1 := 400) C cx_copyOf [.ref (wAd w 33), .int (nI (6 * c))] (fun sz2 h2 => i_copyOf (o1 := 33) (o := t + 4) (n1 := 72) (N := 6 * c) C.2.1 h2 hE y33 hn4 (hN1 _ (Or.inr (Or.inr rfl))) (by omega) (by decide)) ⟨Nat.le_of_ble_eq_true rfl, Nat.le_of_ble_eq_true rfl, rfl, rfl, rfl, rfl, Nat.le_of_ble_eq_true rfl, Nat.le_of_ble_eq_true rfl⟩ rfl rfl (Nat.le_of_ble_eq_true rfl) (dk_at dk_Pars_compile_1 23 rfl) ?_
    rintro r w1 σ2 ⟨qh, rfl, hu⟩ C
    cases hu
    have hN2 : NRs (wAdd w (t + 4) qh (lI 0 (6 * c))) (cpA σ1 33 (t + 4)) (fun o => o = t ∨ o = t + 3 ∨ o = t + 4) := by
      have := hN1.add (o := t + 4) (a := qh) (y := lI 0 (6 * c)) (fun _ _ => nR_I)
      intro o1 ho q y hy
      have h9 := this o1 ho q y hy
      rcases y with ⟨ci, rf, N⟩ | ⟨t', n⟩ | n | ⟨t', n⟩ | ⟨ci, fs⟩
      · exact h9
      · trivial
      · trivial
      · intro k hk
        by_cases c4 : q = t + 4
        · rw [c4, wLy_ae] at hy; cases hy
        · have := h9 k hk
          rw [(cle_n c4).2.2] at this
          exact this
      · trivial
    generalize hw1 : wAdd w (t + 4) qh (lI 0 (6 * c)) = w1 at C hN2 ⊢
    have ad1 : ∀ j, ¬ j = t + 4 → wAd w1 j = wAd w j := fun j hj => by rw [← hw1]; exact wAd_an hj
    have ly1 : ∀ j, ¬ j = t + 4 → wLy w1 j = wLy w j := fun j hj => by rw [← hw1]; exact wLy_an hj
    show gW X w1 (gA w sz, 1, 400) 4 _ (cpA σ1 33 (t + 4)) 123 [(0, .ref (wAd w 30))] [.ref qh]
    refine r_astore_n C.1 [(3, .ref qh), (0, .ref (wAd w 30))] rfl rfl (dk_at dk_Pars_compile_1 24 rfl) ?_
    refine r_newO (c1 := 2) (s1 := 404) C no_Pars_17 t (by rw [ly1 _ (by omega)]; exact hnt) (hN2 _ (Or.inl rfl)) ⟨rfl, rfl, Nat.le_of_ble_eq_true rfl, Nat.le_of_ble_eq_true rfl⟩ (dk_at dk_Pars_compile_1 25 rfl) (fun qt hqt C => ?_)
    have hN3 : NRs (wAdd w1 t qt (lR 8 [.int 0, .int 0, .null, .null])) (cle (cpA σ1 33 (t + 4)) t) (fun o => o = t ∨ o = t + 3 ∨ o = t + 4) := hN2.add (fun _ _ => nR_R)
    generalize hw2 : wAdd w1 t qt (lR 8 [.int 0, .int 0, .null, .null]) = w2 at C hN3 ⊢
    have ad2 : ∀ j, ¬ j = t → ¬ j = t + 4 → wAd w2 j = wAd w j := fun j h1 h2 => by rw [← hw2, wAd_an h1]; exact ad1 j h2
    have ly2 : ∀ j, ¬ j = t → ¬ j = t + 4 → wLy w2 j = wLy w j := fun j h1 h2 => by rw [← hw2, wLy_an h1]; exact ly1 j h2
    have x30 : wLy w2 30 = some (lO 4 rfX_30 9) := by rw [ly2 30 (by omega) (by omega)]; exact y30
    have x32 : wLy w2 32 = some (lI 0 400) := by rw [ly2 32 (by omega) (by omega)]; exact y32
    have g4' : gI (cle (cpA σ1 33 (t + 4)) t) 30 4 = nI s := by rw [(cle_n (by omega)).1, cpA_n (by omega)]; exact g4
    rw [← ad2 30 (by omega) (by omega)]
    refine r_dup C.1 rfl (dk_at dk_Pars_compile_1 26 rfl) ?_
    refine r_aload_n C.1 1 rfl (dk_at dk_Pars_compile_1 27 rfl) ?_
    refine r_getR C.1 fl_Pars_11 30 x30 rfl (dk_at dk_Pars_compile_1 28 rfl) ?_
    refine r_aload_n C.1 1 rfl (dk_at dk_Pars_compile_1 29 rfl) ?_
    refine r_getI C.1 fl_Pars_34 30 x30 rfl (dk_at dk_Pars_compile_1 30 rfl) ?_
    rw [g4']
    refine r_mcO (rm' := { frames := 1, cells := 1, slots := 400, locals := 60 }) (mc := 1) (ms := 400) (c1 := 3) (s1 := 804) C cx_copyOf [.ref (wAd w2 32), .int (nI s)] (fun sz2 h2 => i_copyOf (o1 := 32) (o := t + 3) (n1 := 400) (N := s) C.2.1 h2 hE x32 (by rw [ly2 _ (by omega) (by omega)]; exact hn3) (hN3 _ (Or.inr (Or.inl rfl))) hs (by decide)) ⟨Nat.le_of_ble_eq_true rfl, Nat.le_of_ble_eq_true rfl, rfl, rfl, rfl, rfl, Nat.le_of_ble_eq_true rfl, Nat.le_of_ble_eq_true rfl⟩ rfl rfl (Nat.le_of_ble_eq_true rfl) (dk_at dk_Pars_compile_1 31 rfl) ?_
    rintro r w3 σ3 ⟨qc, rfl, hu⟩ C
    cases hu
    generalize hw3 : wAdd w2 (t + 3) qc (lI 0 s) = w3 at C ⊢
    have x30' : wLy w3 30 = some (lO 4 rfX_30 9) := by rw [← hw3, wLy_an (by omega)]; exact x30
    have xt : wLy w3 t = some (lR 8 [.int 0, .int 0, .null, .null]) := by rw [← hw3, wLy_an (by omega), ← hw2]; exact wLy_ae
    have at3 : wAd w3 t = qt := by rw [← hw3, wAd_an (by omega), ← hw2]; exact wAd_ae
    have a30 : wAd w3 30 = wAd w2 30 := by rw [← hw3]; exact wAd_an (by omega)
    have G : ∀ k, gI (cpA (cle (cpA σ1 33 (t + 4)) t) 32 (t + 3)) 30 k = gI σ1 30 k := fun k => by rw [cpA_n (by omega), (cle_n (by omega)).1, cpA_n (by omega)]
    rw [← a30]
    show gW X w3 (gA w sz, 3, 804) 4 _ _ 139 _ [.ref qc, .ref qt, .ref qt]
    refine r_aload_n C.1 0 rfl (dk_at dk_Pars_compile_1 32 rfl) ?_
    refine r_aload_n C.1 1 rfl (dk_at dk_Pars_compile_1 33 rfl) ?_
    refine r_getI C.1 fl_Pars_37 30 x30' rfl (dk_at dk_Pars_compile_1 34 rfl) ?_
    refine r_aload_n C.1 1 rfl (dk_at dk_Pars_compile_1 35 rfl) ?_
    refine r_getI C.1 fl_Pars_43 30 x30' rfl (dk_at dk_Pars_compile_1 36 rfl) ?_
    rw [G, G]
    refine r_mcI (rm' := { frames := 1, cells := 0, slots := 0, locals := 12 }) (mc := 0) (ms := 0) (c1 := 3) (s1 := 804) C ci_Pars_72 [.ref qc, .ref qh, .int (gI σ1 30 5), .int (gI σ1 30 7)] (fun sz2 h2 => i_Text (t := t) C.2.1 h2 xt at3) ⟨Nat.le_of_ble_eq_true rfl, Nat.le_of_ble_eq_true rfl, rfl, rfl, rfl, rfl, Nat.le_of_ble_eq_true rfl, Nat.le_of_ble_eq_true rfl⟩ rfl rfl (Nat.le_of_ble_eq_true rfl) (dk_at dk_Pars_compile_1 37 rfl) ?_
    rintro w4 σ4 hu C4
    cases hu
    have C5 : CG X (wSet w3 t (lO 8 (rfT t) 4)) (gA w sz, 3, 804) 4 cX4_compile yX4_compile.cls (some (.object "FadingActs$Text")) (.code yX4_compile cX4_compile 4 (some (.object "FadingActs$Text"))) rmCp b := C.set2 xt rfl rfl
    have ew : wSet w3 t (lO 8 (rfT t) 4) = wTx w t qt qc qh s c := by rw [← hw3, ← hw2, ← hw1]; rfl
    rw [ew] at C5
    refine r_wd (w' := wTx w t qt qc qh s c) (σ' := mkT σ1 t) (fun H hH => wd_text ht ?_) ?_
    · rw [← hw3, ← hw2, ← hw1] at hH; exact hH
    exact r_moret (r := some qt) C5 (Or.inl ⟨_, rfl⟩) rfl hsz ⟨Nat.le_of_ble_eq_true rfl, Nat.le_of_ble_eq_true rfl⟩ (Or.inr ⟨σ1, s, c, qt, qc, qh, h1, hs, hc, g4, g5, rfl, rfl⟩) (dk_at dk_Pars_compile_1 38 rfl)
  have j103 : ∀ σ1 a2, cp_j103 p0 p1 σ1 a2 → gW X w (gA w sz, 0, 0) 4 Q σ1 103 [(0, .ref (wAd w 30)), (2, .int a2)] [] := by
    intro σ1 a2 h1
    refine r_iload_n C.1 1 rfl (dk_at dk_Pars_compile_1 13 rfl) ?_
    refine r_if_ne C.1 109 rfl (dk_at dk_Pars_compile_1 14 rfl) (fun c => ?_) (fun c => ?_)
    · exact r_lv [0] rfl (k1 σ1 (h1.1 c))
    · exact r_lv [0] rfl (k0 σ1 (h1.2 c))
  have j84 : ∀ σ1 a2, cp_j84 T p0 p1 σ1 a2 → gW X w (gA w sz, 0, 0) 4 Q σ1 84 [(0, .ref (wAd w 30)), (2, .int a2)] [] := by
    intro σ1 a2 h1
    refine r_iload_n C.1 1 rfl (dk_at dk_Pars_compile_1 4 rfl) ?_
    refine r_if_eq C.1 103 rfl (dk_at dk_Pars_compile_1 5 rfl) (fun c => j103 σ1 a2 (h1.1 c)) (fun c => ?_)
    replace h1 := h1.2 c
    refine r_aload_n C.1 0 rfl (dk_at dk_Pars_compile_1 6 rfl) ?_
    refine r_getR C.1 fl_Pars_26 30 (hL.1 30 _ rfl) rfl (dk_at dk_Pars_compile_1 7 rfl) ?_
    refine r_cvI C.1 cx_Pars_60 20 (hL.1 20 _ rfl) [] (m_Tape_isAtEnd hL h1) ⟨Nat.le_of_ble_eq_true rfl, Nat.le_of_ble_eq_true rfl, rfl, rfl⟩ rfl rfl (Nat.le_of_ble_eq_true rfl) (dk_at dk_Pars_compile_1 8 rfl) (fun r σ2 h1 => ?_)
    refine r_if_ne C.1 103 rfl (dk_at dk_Pars_compile_1 9 rfl) (fun c => j103 σ2 a2 (h1.1 c)) (fun c => ?_)
    replace h1 := h1.2 c
    refine r_aload_n C.1 0 rfl (dk_at dk_Pars_compile_1 10 rfl) ?_
    refine r_cvI C.1 cl_Pars_63 30 (hL.1 30 _ rfl) [] (m_Pars_halt hL h1) ⟨Nat.le_of_ble_eq_true rfl, Nat.le_of_ble_eq_true rfl, rfl, rfl⟩ rfl rfl (Nat.le_of_ble_eq_true rfl) (dk_at dk_Pars_compile_1 11 rfl) (fun r3 σ3 h1 => ?_)
    refine r_istore_n C.1 [(2, .int r3), (0, .ref (wAd w 30))] rfl rfl (dk_at dk_Pars_compile_1 12 rfl) ?_
    exact r_lv [1, 0] rfl (j103 σ3 r3 h1)
  have l44 : ∀ σ1 a2 a3, cp_l44 T p0 p1 σ1 a2 a3 → gW X w (gA w sz, 0, 0) 4 Q σ1 44 [(0, .ref (wAd w 30)), (2, .int a2), (3, .int a3)] [] := by
    intro σ1 a2 a3 h1
    refine LoopW (G := fun x : DD × Int32 × Int32 => gW X w (gA w sz, 0, 0) 4 Q x.1 44 [(0, .ref (wAd w 30)), (2, .int x.2.1), (3, .int x.2.2)] []) (fun K x hK hF => ?_) h1
    obtain ⟨σ2, b2, b3⟩ := x
    have hF : cp_b44 T p0 p1 (fun σ a2 a3 => K (σ, a2, a3)) σ2 b2 b3 := hF
    show gW X w (gA w sz, 0, 0) 4 Q σ2 44 [(0, .ref (wAd w 30)), (2, .int b2), (3, .int b3)] []
    refine r_iload_n C.1 2 rfl (dk_at dk_Pars_compile_0 26 rfl) ?_
    refine r_bipush C.1 12 (dk_at dk_Pars_compile_0 27 rfl) ?_
    refine r_icmp_ge C.1 84 rfl (dk_at dk_Pars_compile_0 28 rfl) (fun c => r_lv [0, 1] rfl (j84 σ2 b2 (hF.1 c))) (fun c => ?_)
    replace hF := hF.2 c
    refine r_iload_n C.1 1 rfl (dk_at dk_Pars_compile_0 29 rfl) ?_
    refine r_if_eq C.1 84 rfl (dk_at dk_Pars_compile_0 30 rfl) (fun c => r_lv [0, 1] rfl (j84 σ2 b2 (hF.1 c))) (fun c => ?_)
    replace hF := hF.2 c
    refine r_aload_n C.1 0 rfl (dk_at dk_Pars_compile_0 31 rfl) ?_
    refine r_getR C.1 fl_Pars_26 30 (hL.1 30 _ rfl) rfl (dk_at dk_Pars_compile_0 32 rfl) ?_
    refine r_bipush C.1 59 (dk_at dk_Pars_compile_0 33 rfl) ?_
    refine r_cvI C.1 cl_Pars_53 20 (hL.1 20 _ rfl) [.int 59] (m_Tape_isSign hL hF) ⟨Nat.le_of_ble_eq_true rfl, Nat.le_of_ble_eq_true rfl, rfl, rfl⟩ rfl rfl (Nat.le_of_ble_eq_true rfl) (dk_at dk_Pars_compile_0 34 rfl) (fun r σ3 hF => ?_)
    refine r_if_eq C.1 84 rfl (dk_at dk_Pars_compile_0 35 rfl) (fun c => r_lv [0, 1] rfl (j84 σ3 b2 (hF.1 c))) (fun c => ?_)
    replace hF := hF.2 c
    refine r_aload_n C.1 0 rfl (dk_at dk_Pars_compile_0 36 rfl) ?_
    refine r_getR C.1 fl_Pars_26 30 (hL.1 30 _ rfl) rfl (dk_at dk_Pars_compile_0 37 rfl) ?_
    refine r_cvV C.1 cl_Pars_57 20 (hL.1 20 _ rfl) [] (m_Tape_advance hL hF) ⟨Nat.le_of_ble_eq_true rfl, Nat.le_of_ble_eq_true rfl, rfl, rfl⟩ rfl rfl (Nat.le_of_ble_eq_true rfl) (dk_at dk_Pars_compile_0 38 rfl) (fun σ4 hF => ?_)
    refine r_aload_n C.1 0 rfl (dk_at dk_Pars_compile_0 39 rfl) ?_
    refine r_cvI C.1 cx_Pars_49 30 (hL.1 30 _ rfl) [] (m_Pars_clause hL hF) ⟨Nat.le_of_ble_eq_true rfl, Nat.le_of_ble_eq_true rfl, rfl, rfl⟩ rfl rfl (Nat.le_of_ble_eq_true rfl) (dk_at dk_Pars_compile_1 0 rfl) (fun r5 σ5 hF => ?_)
    refine r_istore_n C.1 [(2, .int r5), (0, .ref (wAd w 30)), (3, .int b3)] rfl rfl (dk_at dk_Pars_compile_1 1 rfl) ?_
    refine r_iinc C.1 2 rfl (v := b3 + 1) (iincM (by decide)) [(3, .int (b3 + 1)), (2, .int r5), (0, .ref (wAd w 30))] rfl rfl (dk_at dk_Pars_compile_1 2 rfl) ?_
    refine r_goto C.1 44 rfl (dk_at dk_Pars_compile_1 3 rfl) ?_
    exact r_lv [2, 1, 0] rfl (hK (σ5, r5, b3 + 1) hF)
  show gW X w (gA w sz, 0, 0) 4 Q σ 0 [(0, .ref (wAd w 30)), (1, .int a1)] []
  refine r_aload_n C.1 0 rfl (dk_at dk_Pars_compile_0 0 rfl) ?_
  refine r_iload_n C.1 1 rfl (dk_at dk_Pars_compile_0 1 rfl) ?_
  refine r_putZ C.1 fl_Pars_30 30 (hL.1 30 _ rfl) rfl hz (dk_at dk_Pars_compile_0 2 rfl) ?_
  refine r_aload_n C.1 0 rfl (dk_at dk_Pars_compile_0 3 rfl) ?_
  refine r_iconst C.1 0 (dk_at dk_Pars_compile_0 4 rfl) ?_
  refine r_putI C.1 fl_Pars_34 30 (hL.1 30 _ rfl) rfl (dk_at dk_Pars_compile_0 5 rfl) ?_
  refine r_aload_n C.1 0 rfl (dk_at dk_Pars_compile_0 6 rfl) ?_
  refine r_iconst C.1 0 (dk_at dk_Pars_compile_0 7 rfl) ?_
  refine r_putI C.1 fl_Pars_37 30 (hL.1 30 _ rfl) rfl (dk_at dk_Pars_compile_0 8 rfl) ?_
  refine r_aload_n C.1 0 rfl (dk_at dk_Pars_compile_0 9 rfl) ?_
  refine r_iconst C.1 0 (dk_at dk_Pars_compile_0 10 rfl) ?_
  refine r_putI C.1 fl_Pars_40 30 (hL.1 30 _ rfl) rfl (dk_at dk_Pars_compile_0 11 rfl) ?_
  refine r_aload_n C.1 0 rfl (dk_at dk_Pars_compile_0 12 rfl) ?_
  refine r_iconst C.1 0 (dk_at dk_Pars_compile_0 13 rfl) ?_
  refine r_putI C.1 fl_Pars_43 30 (hL.1 30 _ rfl) rfl (dk_at dk_Pars_compile_0 14 rfl) ?_
  refine r_aload_n C.1 0 rfl (dk_at dk_Pars_compile_0 15 rfl) ?_
  refine r_iconst C.1 (-1) (dk_at dk_Pars_compile_0 16 rfl) ?_
  refine r_putI C.1 fl_Pars_22 30 (hL.1 30 _ rfl) rfl (dk_at dk_Pars_compile_0 17 rfl) ?_
  refine r_aload_n C.1 0 rfl (dk_at dk_Pars_compile_0 18 rfl) ?_
  refine r_getR C.1 fl_Pars_26 30 (hL.1 30 _ rfl) rfl (dk_at dk_Pars_compile_0 19 rfl) ?_
  unfold cp_all at h
  refine r_cvV C.1 cx_Pars_46 20 (hL.1 20 _ rfl) [] (m_Tape_rewind hL h) ⟨Nat.le_of_ble_eq_true rfl, Nat.le_of_ble_eq_true rfl, rfl, rfl⟩ rfl rfl (Nat.le_of_ble_eq_true rfl) (dk_at dk_Pars_compile_0 20 rfl) (fun σ4 h => ?_)
  refine r_aload_n C.1 0 rfl (dk_at dk_Pars_compile_0 21 rfl) ?_
  refine r_cvI C.1 cx_Pars_49 30 (hL.1 30 _ rfl) [] (m_Pars_clause hL h) ⟨Nat.le_of_ble_eq_true rfl, Nat.le_of_ble_eq_true rfl, rfl, rfl⟩ rfl rfl (Nat.le_of_ble_eq_true rfl) (dk_at dk_Pars_compile_0 22 rfl) (fun r5 σ5 h => ?_)
  refine r_istore_n C.1 [(2, .int r5), (0, .ref (wAd w 30)), (1, .int a1)] rfl rfl (dk_at dk_Pars_compile_0 23 rfl) ?_
  refine r_iconst C.1 0 (dk_at dk_Pars_compile_0 24 rfl) ?_
  refine r_istore_n C.1 [(3, .int 0), (2, .int r5), (0, .ref (wAd w 30)), (1, .int a1)] rfl rfl (dk_at dk_Pars_compile_0 25 rfl) ?_
  exact r_lv [2, 1, 0] rfl (l44 σ5 r5 0 h)
