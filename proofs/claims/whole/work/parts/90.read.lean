/-! ===== both told: readings, days, terms, the tape ===== -/
def tapE (m x : DD) : Prop := ∃ sz, sz ≤ 400 ∧ gI x 20 1 = nI sz ∧ gI m 0 13 = nI sz ∧ ∀ i, i < sz → ∃ b, b < 256 ∧ gI x 21 i = nI b ∧ gI m 12 i = i2b (nI b)
def drwE (m x : DD) : Prop := ∃ dm, dm ≤ 8 ∧ gI x 110 2 = nI dm ∧ gI m 0 55 = nI dm ∧ ∀ a, a < dm → gI x 114 a = gI m 54 a ∧ gI x 115 a = gI m 55 a
def tlX (o p : Nat) : Prop := xq o p ∨ wrP o p
def rkP (o p : Nat) : Prop := qP o p ∨ lgP o p
def canS (K : Nat → Int32) (L : List RD) (d : Nat) (a1 a2 : Int32) : Bool := can K L a1.toNatClampNeg a2.toNatClampNeg d
theorem snoc_or (L : List RD) : L = [] ∨ ∃ M y, L = M ++ [y] := by
  induction L with
  | nil => left; rfl
  | cons a L ih =>
    right
    rcases ih with h | ⟨M, y, h⟩
    · exact ⟨[], a, by rw [h]; rfl⟩
    · exact ⟨a :: M, y, by rw [h]; rfl⟩
section CR
variable {m x m' x' σ τ : DD} {T : TXT} {n G : Nat} {K K' : Nat → Int32} {L L' : List RD} {d d' : Nat}
theorem RSX.gen (h : RSX m x) {P Q : Nat → Nat → Prop} (am : ∀ o p, ¬ P o p → gI m' o p = gI m o p) (ax : ∀ o p, ¬ Q o p → gI x' o p = gI x o p)
    (c1 : gI x' 0 12 = gI m' 0 6 ∨ (¬ P 0 6 ∧ ¬ Q 0 12)) (c2 : gI x' 30 8 = gI m' 0 14 ∨ (¬ P 0 14 ∧ ¬ Q 30 8)) (c3 : gI x' 60 6 = gI m' 0 44 ∨ (¬ P 0 44 ∧ ¬ Q 60 6))
    (c4 : (∀ p, ¬ P 3 p) ∧ ∀ p, ¬ Q 11 p) (c5 : tapE m' x' ∨ (¬ P 0 13 ∧ (∀ p, ¬ P 12 p) ∧ ¬ Q 20 1 ∧ ∀ p, ¬ Q 21 p)) (c6 : drwE m' x' ∨ (¬ P 0 55 ∧ (∀ p, ¬ P 54 p ∧ ¬ P 55 p) ∧ ¬ Q 110 2 ∧ ∀ p, ¬ Q 114 p ∧ ¬ Q 115 p))
    (c7 : ∀ p, ¬ P 40 p ∧ ¬ P 8 p) : RSX m' x' := by
  obtain ⟨⟨h2, h3, h4⟩, ⟨r1, r2, r3, r4, r5⟩, ht, hdr, s0, w0⟩ := h
  refine ⟨⟨?_, ?_, ?_⟩, ⟨?_, ?_, ?_, ?_, ?_⟩, ?_, ?_, ?_, ?_⟩
  · rcases c1 with z | z
    · exact z
    · rw [am _ _ z.1, ax _ _ z.2]; exact h2
  · rcases c2 with z | z
    · exact z
    · rw [am _ _ z.1, ax _ _ z.2]; exact h3
  · rcases c3 with z | z
    · exact z
    · rw [am _ _ z.1, ax _ _ z.2]; exact h4
  · rw [am _ _ (c4.1 _), ax _ _ (c4.2 _)]; exact r1
  · rw [am _ _ (c4.1 _), ax _ _ (c4.2 _)]; exact r2
  · rw [am _ _ (c4.1 _), ax _ _ (c4.2 _)]; exact r3
  · rw [am _ _ (c4.1 _), ax _ _ (c4.2 _)]; exact r4
  · rw [am _ _ (c4.1 _), ax _ _ (c4.2 _)]; exact r5
  · rcases c5 with z | ⟨z1, z2, z3, z4⟩
    · exact z
    · obtain ⟨sz, t1, t2, t3, t4⟩ := ht
      refine ⟨sz, t1, ?_, ?_, fun i hi => ?_⟩
      · rw [ax _ _ z3]; exact t2
      · rw [am _ _ z1]; exact t3
      · rw [ax _ _ (z4 i), am _ _ (z2 i)]; exact t4 i hi
  · rcases c6 with z | ⟨z1, z2, z3, z4⟩
    · exact z
    · obtain ⟨dm, d1, d2, d3, d4⟩ := hdr
      refine ⟨dm, d1, ?_, ?_, fun a ha => ?_⟩
      · rw [ax _ _ z3]; exact d2
      · rw [am _ _ z1]; exact d3
      · rw [ax _ _ (z4 a).1, ax _ _ (z4 a).2, am _ _ (z2 a).1, am _ _ (z2 a).2]; exact d4 a ha
  · intro r hr; rw [am _ _ (c7 r).1]; exact s0 r hr
  · intro i hi; rw [am _ _ (c7 i).2]; exact w0 i hi
theorem INB.gen (h : INB T m x n G K L d) {P P2 : Nat → Nat → Prop} {Q : Nat → Prop} {G' : Nat} (am : ∀ o p, ¬ P o p → gI m' o p = gI m o p) (hP : (∀ p, ¬ P 5 p ∧ ¬ P 6 p) ∧ ¬ P 0 1) (ax : AgX P2 Q x x') (hP2 : ∀ o p, 230 ≤ o → ¬ P2 o p) (hX' : XS x' T K' L') (h1 : gI m' 4 395 = nI d') (h2 : gI x' 208 0 = nI d') (h3 : d' ≤ 999) (h4 : ∀ y, y ∈ L' → y.2.2 ≤ d') (h5 : L'.length ≤ 24) (hr : RSX m' x') (hg : ∃ g, g ≤ G' ∧ gI x' 50 5 = nI g) : INB T m' x' n G' K' L' d' := by
  obtain ⟨-, -, -, -, -, -, h6, h7, h8, ⟨v, g1, g2⟩, -⟩ := h
  refine ⟨hX', h1, h2, h3, h4, h5, hr, h7.q (Or.inl rfl) (fun p => am _ _ (hP.1 p).1) (fun p => am _ _ (hP.1 p).2) ax hP2, h8.q (Or.inr rfl) (fun p => am _ _ (hP.1 p).1) (fun p => am _ _ (hP.1 p).2) ax hP2, ⟨v, g1, ?_⟩, hg⟩
  rw [am _ _ hP.2]; exact g2
theorem left_e {a r d : Nat} : left K (L ++ [(a, r, d)]) r d = left K L r d - nI (takN K a r (d % 7)) := by
  unfold left
  rw [List.foldl_append]
  simp only [List.foldl_cons, List.foldl_nil]
  generalize L.foldl (lefF K r d) (K (96 + 2 * r)) = z
  unfold lefF
  simp
theorem left_snoc {a r d : Nat} (hI : KI K) (ha : a < nA K) (h : can K L a r d = true) : 0 ≤ left K (L ++ [(a, r, d)]) r d := by
  unfold can at h
  rw [Bool.and_eq_true] at h
  have h2 := of_decide_eq_true h.2
  have h3 := takN_e hI (r := r) (w := d % 7) ha
  have h4 : (0 : Int32) ≤ nI (takN K a r (d % 7)) := nI_pos' (by omega)
  have h5 : nI (takN K a r (d % 7)) ≤ 99 := by rw [show (99 : Int32) = nI 99 from rfl]; exact nI_le h3.2 (by decide)
  rw [left_e]
  grind
theorem s_tell {a1 a2 : Int32} {post : Int32 → DD → Prop} (hS : XS σ T K L) (hday : gI σ 208 0 = nI d) (hd : d ≤ 999) (hLd : ∀ y, y ∈ L → y.2.2 ≤ d) (k2 : (actB K a1 && rdrB K a2) = false → post (-2) σ) (k3 : ∀ τ, (actB K a1 && rdrB K a2) = true → canS K L d a1 a2 = false → AgX xq xl σ τ → XS τ T K L → post (-3) τ) (k5 : ∀ τ, (actB K a1 && rdrB K a2) = true → canS K L d a1 a2 = true → ¬ L.length < 24 → AgX xq xl σ τ → XS τ T K L → post (-5) τ) (k0 : ∀ a r τ, (actB K a1 && rdrB K a2) = true → canS K L d a1 a2 = true → a1 = nI a → a2 = nI r → a < nA K → r < nR K → can K L a r d = true → L.length < 24 → AgX tlX xl σ τ → XS τ T K (L ++ [(a, r, d)]) → post (left K (L ++ [(a, r, d)]) r d) τ) : w_Court_tell T σ a1 a2 post := by
  have hI := hS.1.2.2
  have ha8 := hI.a
  have hr4 := hI.r
  unfold w_Court_tell
  refine s_XisAct hS.1.1 hI (br0 (fun e => k2 (by rw [e]; rfl)) (fun e => s_XisReader hS.1.1 hI (br1 (fun e2 => ?_) (fun e2 => k2 (by rw [e, e2]; rfl)))))
  have eb : (actB K a1 && rdrB K a2) = true := by rw [e, e2]; rfl
  obtain ⟨a, ha, ea⟩ := actB_e hI e
  obtain ⟨r, hr, er⟩ := rdrB_e hI e2
  intro v7 e7
  rw [hday] at e7
  have ec : canS K L d a1 a2 = can K L a r d := by unfold canS; rw [ea, er, nI_clamp (by omega), nI_clamp (by omega)]
  rw [ec] at k3 k5 k0
  subst ea; subst er; subst e7
  refine s_canBut hS ha hr (by omega) ?_
  intro τ1 ax1 hS1
  refine br0 (fun c => k3 τ1 eb (by rw [can_B, c]; rfl) ax1 hS1) (fun c => ?_)
  refine s_isNeedHeld hS1 ha (by omega) ?_
  intro τ2 ax2 hS2
  refine br1 (fun c2 => ?_) (fun c2 => k3 τ2 eb (by rw [can_B, c, c2]; rfl) (ax1.trans ax2) hS2)
  have hcan : can K L a r d = true := by rw [can_B, c, c2]; rfl
  have h84 := hS.2.1.2.1
  rw [hS2.2.1.len, show (24 : Int32) = nI 24 from rfl, nI_ltI (by omega) (by decide)]
  refine ⟨fun q => ?_, fun q => k5 τ2 eb hcan q (ax1.trans ax2) hS2⟩
  refine s_write hS2 ha hr (by omega) (by omega) hLd ?_
  intro τ3 ax3 hS3
  refine s_voiceLeft hS3 hr (by omega) ?_
  intro τ4 ax4 hS4
  exact k0 a r τ4 eb hcan rfl rfl ha hr hcan q (((ax1.trans ax2).mono (fun o p z => Or.inl z) (fun o z => z)).trans ((ax3.mono (fun o p z => Or.inr z) (fun o z => z.elim)).trans (ax4.mono (fun o p z => Or.inl z) (fun o z => z)))) hS4
theorem s_readsKept {a1 a2 : Int32} {post : Int32 → DD → Prop} (hS : MS σ K L) (hday : gI σ 4 395 = nI d) (hd : d ≤ 999) (k2 : (actB K a1 && rdrB K a2) = false → post (-2) σ) (k3 : ∀ τ, (actB K a1 && rdrB K a2) = true → canS K L d a1 a2 = false → Ag qP σ τ → MS τ K L → post (-3) τ) (k5 : ∀ τ, (actB K a1 && rdrB K a2) = true → canS K L d a1 a2 = true → ¬ L.length < 24 → Ag qP σ τ → MS τ K L → post (-5) τ) (k0 : ∀ a r τ, (actB K a1 && rdrB K a2) = true → canS K L d a1 a2 = true → a1 = nI a → a2 = nI r → a < nA K → r < nR K → L.length < 24 → Ag rkP σ τ → MS τ K (L ++ [(a, r, d)]) → post 0 τ) : w_M_readsKept σ a1 a2 post := by
  have hI := hS.2.1
  have ha8 := hI.a
  have hr4 := hI.r
  unfold w_M_readsKept
  refine s_isAct hS.1.1 hI (br0 (fun e => k2 (by rw [e]; rfl)) (fun e => s_isReader hS.1.1 hI (br1 (fun e2 => ?_) (fun e2 => k2 (by rw [e, e2]; rfl)))))
  have eb : (actB K a1 && rdrB K a2) = true := by rw [e, e2]; rfl
  obtain ⟨a, ha, ea⟩ := actB_e hI e
  obtain ⟨r, hr, er⟩ := rdrB_e hI e2
  have ec : canS K L d a1 a2 = can K L a r d := by unfold canS; rw [ea, er, nI_clamp (by omega), nI_clamp (by omega)]
  rw [ec] at k3 k5 k0
  subst ea; subst er
  rw [hday]
  refine s_canRead hS ha hr (by omega) ?_
  intro τ1 ag1 hS1
  refine br1 (fun c => ?_) (fun c => k3 τ1 eb c ag1 hS1)
  have h84 := hS.2.2.1.2.1
  have hday1 : gI τ1 4 395 = nI d := by rw [ag1.at 4 395 (qP4 _)]; exact hday
  rw [hS1.2.2.1.1, hday1, show (24 : Int32) = nI 24 from rfl, nI_ltI (by omega) (by decide)]
  refine ⟨fun q => ?_, fun q => k5 τ1 eb c q ag1 hS1⟩
  refine s_logs hS1 ha hr (by omega) (by omega) ?_
  intro τ2 ag2 hS2
  exact k0 a r τ2 eb c rfl rfl ha hr q ((ag1.mono (fun o p z => Or.inl z)).trans (ag2.mono (fun o p z => Or.inr z))) hS2
theorem p_read {a1 a2 : Int32} (h : INV T m x n) (hn : n < 2 ^ 20) : w_Face_read T x a1 a2 (fun r x' => w_M_read m a1 a2 (fun r' m' => r = r' ∧ INV T m' x' (n + 1))) := by
  obtain ⟨K, L, d, hM, hB, -⟩ := h.b
  have hX := hB.1
  have hI := hX.1.2.2
  have h1 := hB.2.1
  have h2 := hB.2.2.1
  have h3 := hB.2.2.2.1
  have h4 := hB.2.2.2.2.1
  obtain ⟨g, hg1, hg2⟩ := hB.2.2.2.2.2.2.2.2.2.2
  unfold w_Face_read
  refine s_tell hX h2 h3 h4 (fun e => ⟨fun z => absurd z (by decide), fun _ => ?_⟩) (fun τ e c ax hX' => ⟨fun z => absurd z (by decide), fun _ => ?_⟩) (fun τ e c q ax hX' => ⟨fun z => absurd z (by decide), fun _ => ?_⟩) (fun a r τ e c e1 e2 ha hr hc q ax hX' => ⟨fun _ => ?_, fun z => absurd (left_snoc hI ha hc) z⟩)
  · refine s_refused (Or.inr (Or.inl rfl)) ?_
    unfold w_M_read
    refine s_readsKept hM h1 h3 (fun _ => ⟨fun z => absurd z (by decide), fun _ => s_refuses (Or.inr (Or.inl rfl)) ⟨rfl, hB.ref hM (Or.inr (Or.inl rfl))⟩⟩) (fun τ z => absurd (e.symm.trans z) (by decide)) (fun τ z => absurd (e.symm.trans z) (by decide)) (fun a r τ z => absurd (e.symm.trans z) (by decide))
  · refine s_refused (Or.inr (Or.inr (Or.inl rfl))) ?_
    unfold w_M_read
    refine s_readsKept hM h1 h3 (fun z => absurd (e.symm.trans z) (by decide)) (fun τ2 _ _ ag hM' => ⟨fun z => absurd z (by decide), fun _ => s_refuses (Or.inr (Or.inr (Or.inl rfl))) ⟨rfl, (hB.fr (PM.q ag) ax.scr hX').ref hM' (Or.inr (Or.inr (Or.inl rfl)))⟩⟩) (fun τ _ z => absurd (c.symm.trans z) (by decide)) (fun a r τ _ z => absurd (c.symm.trans z) (by decide))
  · refine s_refused (Or.inr (Or.inr (Or.inr (Or.inl rfl)))) ?_
    unfold w_M_read
    refine s_readsKept hM h1 h3 (fun z => absurd (e.symm.trans z) (by decide)) (fun τ _ z => absurd (c.symm.trans z) (by decide)) (fun τ2 _ _ _ ag hM' => ⟨fun z => absurd z (by decide), fun _ => s_refuses (Or.inr (Or.inr (Or.inr (Or.inl rfl)))) ⟨rfl, (hB.fr (PM.q ag) ax.scr hX').ref hM' (Or.inr (Or.inr (Or.inr (Or.inl rfl))))⟩⟩) (fun a r τ _ _ _ _ _ _ z => absurd z q)
  · refine s_granted ?_
    unfold w_M_read
    refine s_readsKept hM h1 h3 (fun z => absurd (e.symm.trans z) (by decide)) (fun τ _ z => absurd (c.symm.trans z) (by decide)) (fun τ2 _ _ z => absurd q z) (fun a' r' τ2 _ _ e1' e2' _ _ _ ag hM' => ⟨fun _ => ?_, fun z => absurd (by decide) z⟩)
    have ha8 := hI.a
    have hr4 := hI.r
    have ea : a' = a := (nI_eq (by omega) (by omega)).1 (e1'.symm.trans e1)
    have er : r' = r := (nI_eq (by omega) (by omega)).1 (e2'.symm.trans e2)
    subst ea; subst er; subst e1
    rw [e2]
    have hday' : gI τ2 4 395 = nI d := by rw [ag.at 4 395 (by unfold rkP qP lgP; omega)]; exact h1
    rw [hday']
    refine s_leftOn hM' hr (by omega) ?_
    intro τ3 ag3 hM3
    refine s_good ⟨rfl, ?_⟩
    have ag4 : Ag rkP m τ3 := ag.trans (ag3.mono (fun o p z => Or.inl z))
    refine INB.good hM3.z (hB.ch (fun o p z w => ag4.at o p (by unfold rkP qP lgP; unfold pers at z; omega)) (ax.mono (fun o p z => by unfold tlX xq wrP at z; unfold chX scrX; omega) (fun o z => xl_scr z)) hX' ?_ ?_ h3 ?_ ?_ ⟨g, by omega, ?_⟩) hn
    · rw [ag4.at 4 395 (by unfold rkP qP lgP; omega)]; exact h1
    · rw [ax.i 208 0 (by unfold tlX xq wrP; omega)]; exact h2
    · intro y hy
      rw [List.mem_append] at hy
      rcases hy with z | z
      · exact h4 y z
      · rw [List.mem_singleton] at z; subst z; exact Nat.le_refl _
    · rw [List.length_append]; simp; omega
    · rw [ax.i 50 5 (by unfold tlX xq wrP; omega)]; exact hg2
theorem p_undo (h : INV T m x n) (hn : n < 2 ^ 20) : w_Face_undo T x (fun r x' => w_M_undo m (fun r' m' => r = r' ∧ INV T m' x' (n + 1))) := by
  obtain ⟨K, L, d, hM, hB, -⟩ := h.b
  have hX := hB.1
  have h1 := hB.2.1
  have h2 := hB.2.2.1
  have h3 := hB.2.2.2.1
  have h4 := hB.2.2.2.2.1
  have h5 := hB.2.2.2.2.2.1
  obtain ⟨g, hg1, hg2⟩ := hB.2.2.2.2.2.2.2.2.2.2
  unfold w_Face_undo
  rw [hX.2.1.len]
  rcases snoc_or L with e | ⟨M, y, e⟩
  · refine ⟨fun z => absurd (by rw [e]; rfl) z, fun _ => rff hM hB (Or.inr (Or.inr (Or.inl rfl))) (w_M_undo m) (fun post hp => ?_)⟩
    unfold w_M_undo
    rw [hM.2.2.1.1]
    exact ⟨fun z => absurd (by rw [e]; rfl) z, fun _ => hp⟩
  · subst e
    have hl : (M ++ [y]).length = M.length + 1 := by rw [List.length_append]; rfl
    rw [hl] at h5
    have nz : ¬ nI (M ++ [y]).length = 0 := by
      rw [hl, show (0 : Int32) = nI 0 from rfl, nI_eq (by omega) (by decide)]; omega
    have hy : (M ++ [y])[M.length]? = some y := by rw [List.getElem?_append_right (Nat.le_refl _), Nat.sub_self]; rfl
    refine ⟨fun _ σ2 e2 => ?_, fun z => absurd z nz⟩
    rw [hl, nI_pred] at e2
    subst e2
    have v10 : gI (sI x 200 8 (nI M.length)) 210 M.length = nI y.1 := by rw [gI_sI, if_neg (by omega)]; exact (hX.2.1.x hy).1
    rw [gI_same, nI_clamp (by omega), v10]
    refine ⟨vp_in_nI (by omega) (by decide), s_granted ?_⟩
    unfold w_M_undo
    rw [hM.2.2.1.1]
    refine ⟨fun _ σ2 e2 => ?_, fun z => absurd z nz⟩
    rw [hl, nI_pred] at e2
    subst e2
    have hM' := hM.cut (v := nI M.length) rfl
    rw [gI_same]
    have hrd := hM.2.2.1.2.2 M.length y hy
    have r10 : w_M_reading (sI m 4 401 (nI M.length)) (nI M.length) 0 (fun r4 σ5 => w_M_good σ5 r4 (fun r6 σ7 => nI y.1 = r6 ∧ INV T σ7 (sI (sI x 200 8 (nI M.length)) 0 11 0) (n + 1))) := by
      unfold w_M_reading
      have ei : (111 + (3 * nI M.length)) + 0 = nI (111 + 3 * M.length) := by
        rw [show (111 : Int32) = nI 111 from rfl, show (3 : Int32) = nI 3 from rfl, pk_mul, nI_add]; exact nI_add _ 0
      rw [ei, nI_clamp (by omega), gI_sI, if_neg (by omega), hrd.1]
      refine ⟨vp_in_nI (by omega) (by decide), s_good ⟨rfl, ?_⟩⟩
      have ax : AgX (fun o p => o = 200 ∧ p = 8) (fun _ => False) x (sI x 200 8 (nI M.length)) := AgX.put (by omega)
      have ag : Ag (fun o p => o = 4 ∧ p = 401) m (sI m 4 401 (nI M.length)) := Ag.put (by omega)
      refine INB.good hM'.z (hB.ch (fun o p z w => ag.at o p (by omega)) (ax.mono (fun o p z => by unfold chX; omega) (fun o z => z.elim)) hX.cut ?_ ?_ h3 (fun w hw => h4 w (List.mem_append_left _ hw)) (by omega) ⟨g, by omega, ?_⟩) hn
      · rw [ag.at 4 395 (by omega)]; exact h1
      · rw [ax.i 208 0 (by omega)]; exact h2
      · rw [ax.i 50 5 (by omega)]; exact hg2
    exact r10
theorem XS.day {v : Int32} (hS : XS σ T K L) : XS (sI σ 208 0 v) T K L := by
  have ag : AgX (fun o p => o = 208 ∧ p = 0) (fun _ => False) σ (sI σ 208 0 v) := AgX.put (by omega)
  refine ⟨hS.1.ag2 ag (by intro o k h; unfold logP; omega) (by omega) (by omega) (by omega), ⟨?_, hS.2.1.2.1, fun i y hy => ?_⟩, hS.2.2⟩
  · rw [ag.i _ _ (by omega)]; exact hS.2.1.1
  · rw [ag.i _ _ (by omega), ag.i _ _ (by omega), ag.i _ _ (by omega)]; exact hS.2.1.2.2 i y hy
theorem and_lt {a : Nat} (h : a < 256) (y : Int32) : ∃ k, k < 256 ∧ nI a &&& y = nI k := by
  have e : y = nI y.toBitVec.toNat := by
    apply Int32.toBitVec_inj.1
    show y.toBitVec = BitVec.ofNat 32 y.toBitVec.toNat
    simp
  refine ⟨a &&& y.toBitVec.toNat, Nat.lt_of_le_of_lt Nat.and_le_left h, ?_⟩
  rw [← nI_and, ← e]
theorem held_n (hI : KI K) (d : Nat) : ∃ k, k < 256 ∧ held K L d = nI k := by
  have h8 := hI.a
  refine ⟨bitsN (fun a => hold K L a d) (nA K), Nat.lt_of_lt_of_le (bitsN_lt _ _) (pow8 h8.2), ?_⟩
  unfold held
  exact bits_N _ _ (by omega)
/-- how many hold no more -/
def lapS (K : Nat → Int32) (L : List RD) (d : Nat) : Int32 := ones8 (held K L d &&& (held K L (d + 1) ^^^ (-1)))
theorem lap_n (hI : KI K) (d : Nat) : ∃ k, k < 256 ∧ held K L d &&& (held K L (d + 1) ^^^ (-1)) = nI k := by
  obtain ⟨a, ha, ea⟩ := held_n (L := L) hI d
  rw [ea]
  exact and_lt ha _
theorem lap_pos (hI : KI K) (d : Nat) : 0 ≤ lapS K L d := by
  unfold lapS
  obtain ⟨k, hk, ek⟩ := lap_n (L := L) hI d
  rw [ek]
  obtain ⟨j, -, hj, ej⟩ := ones8_in hk
  rw [ej]
  exact nI_pos' (by omega)
theorem s_nextDay {post : Int32 → DD → Prop} (hS : XS σ T K L) (hday : gI σ 208 0 = nI d) (hd : d ≤ 999) (k3 : d = 999 → post (-3) σ) (k0 : ∀ τ, d < 999 → AgX (fun o p => xq o p ∨ (o = 208 ∧ p = 0)) xl σ τ → gI τ 208 0 = nI (d + 1) → XS τ T K L → post (lapS K L d) τ) : w_Court_nextDay T σ post := by
  have hI := hS.1.2.2
  unfold w_Court_nextDay
  intro v1 e1
  rw [hday] at e1
  subst e1
  rw [show (999 : Int32) = nI 999 from rfl, nI_ltI (by omega) (by decide), nI_1]
  refine ⟨fun q σ4 e4 => ?_, fun q => k3 (by omega)⟩
  subst e4
  refine s_heldBits hS.day (by omega) ?_
  intro τ1 ax1 hS1
  refine s_heldBits hS1 (by omega) ?_
  intro τ2 ax2 hS2
  have kk : post (lapS K L d) τ2 := by
    refine k0 τ2 q ((AgX.put (Or.inr ⟨rfl, rfl⟩)).trans ((ax1.trans ax2).mono (fun o p z => Or.inl z) (fun o z => z))) ?_ hS2
    rw [ax2.i _ _ (by unfold xq; omega), ax1.i _ _ (by unfold xq; omega), gI_same]
  unfold lapS at kk
  obtain ⟨k, hk, ek⟩ := lap_n (L := L) hI d
  rw [ek] at kk ⊢
  exact s_bitCount hk kk
theorem p_await (h : INV T m x n) (hn : n < 2 ^ 20) : w_Face_await T x (fun r x' => w_M_await m (fun r' m' => r = r' ∧ INV T m' x' (n + 1))) := by
  obtain ⟨K, L, d, hM, hB, -⟩ := h.b
  have hX := hB.1
  have hI := hX.1.2.2
  have h1 := hB.2.1
  have h2 := hB.2.2.1
  have h3 := hB.2.2.2.1
  have h4 := hB.2.2.2.2.1
  have h5 := hB.2.2.2.2.2.1
  obtain ⟨g, hg1, hg2⟩ := hB.2.2.2.2.2.2.2.2.2.2
  unfold w_Face_await
  refine s_nextDay hX h2 h3 (fun e => ⟨fun z => absurd z (by decide), fun _ => ?_⟩) (fun τ q ax hd' hX' => ⟨fun _ => ?_, fun z => absurd (lap_pos hI d) z⟩)
  · refine rff hM hB (Or.inr (Or.inr (Or.inl rfl))) (w_M_await m) (fun post hp => ?_)
    unfold w_M_await
    rw [h1, e]
    exact ⟨fun z => absurd rfl z, fun _ => hp⟩
  · refine s_granted ?_
    unfold w_M_await
    rw [h1]
    refine ⟨fun _ => ?_, fun z => absurd (show d = 999 from (nI_eq (by omega) (by decide)).1 z) (by omega)⟩
    refine s_heldOn hM (by omega) ?_
    intro τ1 ag1 hM1
    intro σ4 e4
    rw [ag1.at 4 395 (qP4 _), h1, nI_1] at e4
    have e4' : gI σ4 4 395 = nI (d + 1) := by rw [e4, gI_same]
    rw [e4']
    have hM4 : MS σ4 K L := by rw [e4]; exact hM1.day
    refine s_heldOn hM4 (by omega) ?_
    intro τ2 ag2 hM2
    refine s_ones (s_good ⟨rfl, ?_⟩)
    have ag : Ag (fun o p => qP o p ∨ (o = 4 ∧ p = 395)) m τ2 := by
      refine (ag1.mono (fun o p z => Or.inl z)).trans (Ag.trans ?_ (ag2.mono (fun o p z => Or.inl z)))
      rw [e4]; exact Ag.put (Or.inr ⟨rfl, rfl⟩)
    refine INB.good hM2.z (hB.ch (fun o p z w => ag.at o p (by unfold qP; unfold pers at z; omega)) (ax.mono (fun o p z => by unfold xq at z; unfold chX scrX; omega) (fun o z => xl_scr z)) hX' ?_ hd' (by omega) (fun y hy => by have := h4 y hy; omega) h5 ⟨g, by omega, ?_⟩) hn
    · rw [ag2.at 4 395 (qP4 _)]; exact e4'
    · rw [ax.i 50 5 (by unfold xq; omega)]; exact hg2
end CR
