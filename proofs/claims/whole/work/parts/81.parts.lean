/-! ===== the realm by its parts ===== -/
def PtA (σ : DD) (b : Nat) (K : Nat → Int32) : Prop := gI σ b 0 = K 399 ∧ (K 399 = nI (nA K) ∧ nA K ≤ 8) ∧ (∀ a, a < nA K → rng (K (4 * a)) 1 60 ∧ rng (K (4 * a + 1)) 1 30 ∧ rng (K (4 * a + 2)) 1 63 ∧ (K (4 * a + 3) = -1 ∨ ∃ m, m < nA K ∧ K (4 * a + 3) = nI m)) ∧ ∀ a j, a < nA K → j < 4 → gI σ (b + 2) (4 * a + j) = K (4 * a + j)
def PtG (σ : DD) (b : Nat) (K : Nat → Int32) : Prop := (∀ a c, a < 8 → c < 8 → (K (32 + 8 * a + c) = 0 ∨ K (32 + 8 * a + c) = 1) ∧ K (32 + 8 * a + c) = K (32 + 8 * c + a) ∧ K (32 + 8 * a + a) = 0) ∧ ∀ a, a < 8 → gI σ (b + 3) a = bits (gsy K a) 8
def PtR (σ : DD) (b : Nat) (K : Nat → Int32) : Prop := gI σ b 3 = K 400 ∧ (K 400 = nI (nR K) ∧ nR K ≤ 4) ∧ (∀ r, r < nR K → rng (K (96 + 2 * r)) 1 99 ∧ rng (K (96 + 2 * r + 1)) 0 5) ∧ ∀ r, r < nR K → gI σ (b + 5) r = K (96 + 2 * r) ∧ gI σ (b + 6) r = K (96 + 2 * r + 1)
def PtW (σ : DD) (b : Nat) (K : Nat → Int32) : Prop := ∀ w, w < 7 → rng (K (104 + w)) 0 63 ∧ gI σ (b + 7) w = K (104 + w)
def PtT (σ : DD) (b : Nat) (K : Nat → Int32) : Prop := (rng (K 396) 0 10 ∧ rng (K 397) 1 60 ∧ rng (K 398) 0 9) ∧ gI σ (b + 8) 1 = K 396 ∧ gI σ (b + 8) 2 = K 397 ∧ gI σ (b + 8) 3 = K 398
def PtF (σ : DD) (b : Nat) (K : Nat → Int32) : Prop := gI σ b 12 = K 402 ∧ (K 402 = nI (nF K) ∧ nF K ≤ 8) ∧ (∀ i, i < nF K → rng (K (363 + 4 * i)) 0 999 ∧ rng (K (363 + 4 * i + 1)) 0 5 ∧ (∃ m, m < nA K ∧ K (363 + 4 * i + 2) = nI m) ∧ (K (363 + 4 * i + 3) = 0 ∨ K (363 + 4 * i + 3) = 1)) ∧ ∀ i, i < nF K → gI σ (b + 14) i = K (363 + 4 * i) ∧ gI σ (b + 15) i = K (363 + 4 * i + 1) ∧ gI σ (b + 16) i = K (363 + 4 * i + 2) ∧ gI σ (b + 17) i = K (363 + 4 * i + 3)
def PtL (σ : DD) (b : Nat) (T : TXT) (K : Nat → Int32) : Prop := gI σ b 17 = K 403 ∧ gI σ b 19 = K 404 ∧ (K 403 = nI (nLw K) ∧ nLw K ≤ 6) ∧ (K 404 = -1 ∨ ∃ f, f < nLw K ∧ K 404 = nI f) ∧ (∀ f, f < nLw K → LawOK K f) ∧ ∀ f, f < nLw K → ∃ t, 300 ≤ t ∧ gR σ (b + 19) f = some t ∧ TxtOK σ T t false (clsOf K f)
def PTS (σ : DD) (b : Nat) (T : TXT) (K : Nat → Int32) : Prop := PtA σ b K ∧ PtG σ b K ∧ PtR σ b K ∧ PtW σ b K ∧ PtT σ b K ∧ PtF σ b K ∧ PtL σ b T K
section PT
variable {σ τ : DD} {b b' : Nat} {T T' : TXT} {K K' : Nat → Int32}
theorem pts_of (h : RXs σ b T K) (i : KI K) : PTS σ b T K := by
  obtain ⟨a1, a2, a3, a4, a5, a6, a7, a8, a9, a10, a11, a12⟩ := h
  obtain ⟨i1, i2, i3, i4, i5, i6, i7, i8, i9, i10, i11, i12⟩ := i
  exact ⟨⟨a1, i1, i5, a6⟩, ⟨i6, a7⟩, ⟨a2, i2, i7, a8⟩, fun w hw => ⟨i8 w hw, a9 w hw⟩, ⟨i9, a10⟩, ⟨a3, i3, i10, a11⟩, ⟨a4, a5, i4, i11, i12, a12⟩⟩
theorem of_pts (h : PTS σ b T K) : RXs σ b T K ∧ KI K := by
  obtain ⟨⟨a1, i1, i5, a6⟩, ⟨i6, a7⟩, ⟨a2, i2, i7, a8⟩, hw, ⟨i9, a10⟩, ⟨a3, i3, i10, a11⟩, ⟨a4, a5, i4, i11, i12, a12⟩⟩ := h
  exact ⟨⟨a1, a2, a3, a4, a5, a6, a7, a8, fun w q => (hw w q).2, a10, a11, a12⟩, ⟨i1, i2, i3, i4, i5, i6, i7, fun w q => (hw w q).1, i9, i10, i11, i12⟩⟩
theorem nA_cg (h : K' 399 = K 399) : nA K' = nA K := by unfold nA; rw [h]
theorem nR_cg (h : K' 400 = K 400) : nR K' = nR K := by unfold nR; rw [h]
theorem nF_cg (h : K' 402 = K 402) : nF K' = nF K := by unfold nF; rw [h]
theorem nL_cg (h : K' 403 = K 403) : nLw K' = nLw K := by unfold nLw; rw [h]
theorem PtA.cg (h : PtA σ b K) (h0 : gI τ b' 0 = gI σ b 0) (h2 : ∀ k, k < 32 → gI τ (b' + 2) k = gI σ (b + 2) k) (hK : ∀ p, p < 32 ∨ p = 399 → K' p = K p) : PtA τ b' K' := by
  obtain ⟨a1, i1, i5, a6⟩ := h
  have e := nA_cg (hK 399 (by omega))
  refine ⟨?_, ?_, ?_, ?_⟩
  · rw [h0, hK 399 (by omega)]; exact a1
  · rw [e, hK 399 (by omega)]; exact i1
  · intro a ha
    rw [e] at ha ⊢
    rw [hK (4 * a) (by omega), hK (4 * a + 1) (by omega), hK (4 * a + 2) (by omega), hK (4 * a + 3) (by omega)]
    exact i5 a ha
  · intro a j ha hj
    rw [e] at ha
    rw [h2 _ (by omega), hK _ (by omega)]; exact a6 a j ha hj
theorem PtG.cg (h : PtG σ b K) (h2 : ∀ k, k < 8 → gI τ (b' + 3) k = gI σ (b + 3) k) (hK : ∀ p, 32 ≤ p → p < 96 → K' p = K p) : PtG τ b' K' := by
  obtain ⟨i6, a7⟩ := h
  refine ⟨?_, ?_⟩
  · intro a c ha hc
    rw [hK (32 + 8 * a + c) (by omega) (by omega), hK (32 + 8 * c + a) (by omega) (by omega), hK (32 + 8 * a + a) (by omega) (by omega)]
    exact i6 a c ha hc
  · intro a ha
    rw [h2 a ha, a7 a ha]
    refine bits_congr 8 (fun i hi => ?_)
    unfold gsy
    rw [hK _ (by omega) (by omega)]
theorem PtR.cg (h : PtR σ b K) (h0 : gI τ b' 3 = gI σ b 3) (h5 : ∀ k, k < 4 → gI τ (b' + 5) k = gI σ (b + 5) k) (h6 : ∀ k, k < 4 → gI τ (b' + 6) k = gI σ (b + 6) k) (hK : ∀ p, (96 ≤ p ∧ p < 104) ∨ p = 400 → K' p = K p) : PtR τ b' K' := by
  obtain ⟨a2, i2, i7, a8⟩ := h
  have e := nR_cg (hK 400 (by omega))
  refine ⟨?_, ?_, ?_, ?_⟩
  · rw [h0, hK 400 (by omega)]; exact a2
  · rw [e, hK 400 (by omega)]; exact i2
  · intro r hr
    rw [e] at hr
    rw [hK (96 + 2 * r) (by omega), hK (96 + 2 * r + 1) (by omega)]; exact i7 r hr
  · intro r hr
    rw [e] at hr
    rw [h5 r (by omega), h6 r (by omega), hK (96 + 2 * r) (by omega), hK (96 + 2 * r + 1) (by omega)]; exact a8 r hr
theorem PtW.cg (h : PtW σ b K) (h2 : ∀ k, k < 7 → gI τ (b' + 7) k = gI σ (b + 7) k) (hK : ∀ p, 104 ≤ p → p < 111 → K' p = K p) : PtW τ b' K' := by
  intro w hw
  rw [h2 w hw, hK (104 + w) (by omega) (by omega)]; exact h w hw
theorem PtT.cg (h : PtT σ b K) (h2 : ∀ k, 1 ≤ k → k < 4 → gI τ (b' + 8) k = gI σ (b + 8) k) (hK : ∀ p, 396 ≤ p → p < 399 → K' p = K p) : PtT τ b' K' := by
  unfold PtT
  rw [h2 1 (by omega) (by omega), h2 2 (by omega) (by omega), h2 3 (by omega) (by omega), hK 396 (by omega) (by omega), hK 397 (by omega) (by omega), hK 398 (by omega) (by omega)]
  exact h
theorem PtF.cg (h : PtF σ b K) (h0 : gI τ b' 12 = gI σ b 12) (h2 : ∀ k, k < nF K → gI τ (b' + 14) k = gI σ (b + 14) k ∧ gI τ (b' + 15) k = gI σ (b + 15) k ∧ gI τ (b' + 16) k = gI σ (b + 16) k ∧ gI τ (b' + 17) k = gI σ (b + 17) k) (hK : ∀ p, (363 ≤ p ∧ p < 395) ∨ p = 402 → K' p = K p) (hA : nA K ≤ nA K') : PtF τ b' K' := by
  obtain ⟨a3, i3, i10, a11⟩ := h
  have e := nF_cg (hK 402 (by omega))
  refine ⟨?_, ?_, ?_, ?_⟩
  · rw [h0, hK 402 (by omega)]; exact a3
  · rw [e, hK 402 (by omega)]; exact i3
  · intro i hi
    rw [e] at hi
    rw [hK (363 + 4 * i) (by omega), hK (363 + 4 * i + 1) (by omega), hK (363 + 4 * i + 2) (by omega), hK (363 + 4 * i + 3) (by omega)]
    obtain ⟨z1, z2, ⟨m, hm, em⟩, z4⟩ := i10 i hi
    exact ⟨z1, z2, ⟨m, by omega, em⟩, z4⟩
  · intro i hi
    rw [e] at hi
    have := h2 i hi
    rw [this.1, this.2.1, this.2.2.1, this.2.2.2, hK (363 + 4 * i) (by omega), hK (363 + 4 * i + 1) (by omega), hK (363 + 4 * i + 2) (by omega), hK (363 + 4 * i + 3) (by omega)]
    exact a11 i hi
/-- a law's text stands as it was -/
def LwE (K K' : Nat → Int32) (f : Nat) : Prop := K' (405 + f) = K (405 + f) ∧ ∀ k, k < 400 → K' (412 + (400 * f + k)) = K (412 + (400 * f + k)) ∧ K' (3212 + (400 * f + k)) = K (3212 + (400 * f + k))
theorem law_cg {f : Nat} (hn : nT K f ≤ 400) (h : LwE K K' f) : nT K' f = nT K f ∧ cO K' f = cO K f ∧ vO K' f = vO K f := by
  have e : nT K' f = nT K f := by unfold nT; rw [h.1]
  refine ⟨e, funext (fun k => ?_), funext (fun k => ?_)⟩
  · unfold cO
    rw [e]
    by_cases hk : k < nT K f
    · rw [if_pos hk, if_pos hk]; exact (h.2 k (by omega)).1
    · rw [if_neg hk, if_neg hk]
  · unfold vO
    rw [e]
    by_cases hk : k < nT K f
    · rw [if_pos hk, if_pos hk]; exact (h.2 k (by omega)).2
    · rw [if_neg hk, if_neg hk]
theorem cls_cg {f : Nat} (hn : nT K f ≤ 400) (h : LwE K K' f) : clsOf K' f = clsOf K f := by
  obtain ⟨e1, e2, e3⟩ := law_cg hn h
  unfold clsOf
  rw [e1, e2, e3]
theorem lok_cg {f : Nat} (hl : LawOK K f) (h : LwE K K' f) : LawOK K' f := by
  obtain ⟨e1, e2, e3⟩ := law_cg hl.1 h
  unfold LawOK
  rw [e1, e2, e3, h.1]
  exact hl
theorem PtL.cg (h : PtL σ b T K) (h0 : gI τ b' 17 = gI σ b 17) (h9 : gI τ b' 19 = gI σ b 19) (hr : ∀ k, k < nLw K → gR τ (b' + 19) k = gR σ (b + 19) k) (hT : ∀ t cl, 300 ≤ t → TxtOK σ T t false cl → TxtOK τ T' t false cl) (h3 : K' 403 = K 403) (h4 : K' 404 = K 404) (hK : ∀ f, f < nLw K → LwE K K' f) : PtL τ b' T' K' := by
  obtain ⟨a4, a5, i4, i11, i12, a12⟩ := h
  have e := nL_cg h3
  refine ⟨?_, ?_, ?_, ?_, ?_, ?_⟩
  · rw [h0, h3]; exact a4
  · rw [h9, h4]; exact a5
  · rw [e, h3]; exact i4
  · rw [e, h4]; exact i11
  · intro f hf
    rw [e] at hf
    exact lok_cg (i12 f hf) (hK f hf)
  · intro f hf
    rw [e] at hf
    obtain ⟨t, ht, er, ok⟩ := a12 f hf
    refine ⟨t, ht, (hr f hf).trans er, ?_⟩
    rw [cls_cg (i12 f hf).1 (hK f hf)]
    exact hT t _ ht ok
theorem ans_cg {h a r w : Nat} (hI : KI K) (e4 : K' 404 = K 404) (e8 : K' 398 = K 398) (ha : ∀ j, j < 3 → K' (4 * a + j) = K (4 * a + j)) (hr : K' (96 + 2 * r + 1) = K (96 + 2 * r + 1)) (hK : ∀ f, f < nLw K → LwE K K' f) : ans K' h a r w = ans K h a r w := by
  have ew : wo K' h a = wo K h a := by
    unfold wo
    rw [ha 1 (by omega), show K' (4 * a) = K (4 * a) from ha 0 (by omega)]
  have ee : envL K' a r w = envL K a r w := by
    funext j
    unfold envL
    rw [show K' (4 * a) = K (4 * a) from ha 0 (by omega), ha 1 (by omega), ha 2 (by omega), hr, e8]
  unfold ans ansW
  rw [ew, ee, e4]
  by_cases q : K 404 = -1
  · rw [if_pos q, if_pos q]
  · rw [if_neg q, if_neg q]
    obtain ⟨f, hf, ef⟩ := hI.fo.resolve_left q
    have h6 := hI.l
    rw [ef, nI_clamp (by omega), cls_cg (hI.lw hf).1 (hK f hf)]
theorem pack_cg {a r w : Nat} (hI : KI K) (e4 : K' 404 = K 404) (e8 : K' 398 = K 398) (ha : ∀ j, j < 3 → K' (4 * a + j) = K (4 * a + j)) (hr : K' (96 + 2 * r + 1) = K (96 + 2 * r + 1)) (hK : ∀ f, f < nLw K → LwE K K' f) : pack K' a r w = pack K a r w := by
  unfold pack barN
  rw [ans_cg hI e4 e8 ha hr hK, ans_cg hI e4 e8 ha hr hK, ans_cg hI e4 e8 ha hr hK]
theorem CX.cg (h : CX σ K) (a5 : gI τ 50 5 = gI σ 50 5) (a54 : ∀ k, gI τ 54 k = gI σ 54 k) (a55 : ∀ k, gI τ 55 k = gI σ 55 k) (hA : nA K ≤ nA K') (hR : nR K ≤ nR K') (hp : ∀ a r w, a < nA K → r < nR K → w < 7 → pack K' a r w = pack K a r w) : CX τ K' := by
  obtain ⟨n, h1, h2, h3, h4⟩ := h
  refine ⟨n, h1, h2, a5.trans h3, fun a r w ha hr hw => ?_⟩
  obtain ⟨m, g1, g2, g3⟩ := h4 a r w ha hr hw
  refine ⟨m, g1, (a55 _).trans g2, fun q => ?_⟩
  obtain ⟨f1, f2, f3⟩ := g3 q
  exact ⟨by omega, by omega, by rw [a54, hp a r w f1 f2 hw]; exact f3⟩
/-- all is forgotten -/
theorem CX.fg (h : CX σ K) {g : Nat} (hg : gI σ 50 5 = nI g) (hb : g < 2 ^ 29) (a5 : gI τ 50 5 = gI σ 50 5 + 1) (a55 : ∀ k, gI τ 55 k = gI σ 55 k) : CX τ K' := by
  obtain ⟨n, h1, h2, h3, h4⟩ := h
  have en : n = g := by
    rw [h3] at hg
    exact (nI_eq (by omega) (by omega)).1 hg
  refine ⟨n + 1, by omega, by omega, ?_, fun a r w ha hr hw => ?_⟩
  · rw [a5, h3, nI_1]
  · obtain ⟨m, g1, g2, g3⟩ := h4 a r w ha hr hw
    exact ⟨m, by omega, (a55 _).trans g2, fun q => absurd q (by omega)⟩
end PT
