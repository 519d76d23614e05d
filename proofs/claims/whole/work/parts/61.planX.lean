section PX
variable {σ τ : DD} {T : TXT} {K : Nat → Int32} {L : List RD}
/-- the planner's setting -/
def PL (σ : DD) (K : Nat → Int32) (n m0 m1 d0 : Nat) : Prop := gI σ 70 8 = nI m0 ∧ gI σ 70 9 = nI m1 ∧ gI σ 70 10 = nI n ∧ gI σ 70 11 = nI d0
def PU (σ : DD) (K : Nat → Int32) (U : Nat → Nat) : Prop := ∀ a, a < nA K → gI σ 73 a = nI (U a)
def PO (σ : DD) (K : Nat → Int32) (L : List RD) (rf : Nat → Nat) (d0 k : Nat) : Prop := gI σ 74 k = bits (fun a => canB K L a (rf k) (d0 + k)) (nA K) ∧ ∀ a, a < nA K → gI σ 75 (8 * k + a) = nI (lasN K a (rf k) ((d0 + k) % 7))
theorem XS.ag {P : Nat → Nat → Prop} {Q : Nat → Prop} (h : XS σ T K L) (a : AgX P Q σ τ) (hb : ∀ o k, 200 ≤ o → ¬ P o k) (h5 : ¬ P 50 5) (h54 : ∀ k, ¬ P 54 k) (h55 : ∀ k, ¬ P 55 k) : XS τ T K L := by
  obtain ⟨⟨hR, ⟨n, n1, n2, hn, hc⟩, hI⟩, hD, hL, hs⟩ := h
  refine ⟨⟨hR.ag a hb (by omega), ⟨n, n1, n2, ?_, ?_⟩, hI⟩, hD.ag a hb, hL, hs⟩
  · rw [a.i 50 5 h5]; exact hn
  · intro x r w g1 g2 g3
    rw [a.i 54 _ (h54 _), a.i 55 _ (h55 _)]
    exact hc x r w g1 g2 g3
theorem s_prepare {n m0 m1 d0 : Nat} {post : DD → Prop} (hS : XS σ T K L) (hday : gI σ 208 0 = nI d0) (hd0 : d0 ≤ 999) (hLd : ∀ x, x ∈ L → x.2.2 ≤ d0) (k : ∀ τ, AgX scrX scrL σ τ → XS τ T K L → PL τ K n m0 m1 d0 → PU τ K (Ut K L) → post τ) : w_Morn_prepare T σ (nI m0) (nI m1) (nI n) post := by
  have hI := hS.1.2.2
  have ha8 := hI.a
  unfold w_Morn_prepare
  intro σ7 e7 σ9 e9 σ11 e11 σ13 e13
  have ag13 : AgX (fun o p => o = 70) (fun _ => False) σ σ13 := by
    subst e7; subst e9; subst e11; subst e13
    refine (((AgX.put ?_).set ?_).set ?_).set ?_ <;> rfl
  have hS13 := hS.ag ag13 (by omega) (by omega) (by omega) (by omega)
  have hpl : PL σ13 K n m0 m1 d0 := by
    have h11 : gI σ11 208 0 = nI d0 := by
      subst e7; subst e9; subst e11
      simp only [gI_sI]; simpa using hday
    subst e13
    rw [h11]
    subst e7; subst e9; subst e11
    refine ⟨?_, ?_, ?_, ?_⟩ <;> simp [gI_sI]
  have ags : AgX scrX scrL σ σ13 := ag13.mono (by intro o p h; unfold scrX; omega) (by intro o h; exact h.elim)
  unfold w_Morn_prepare_l31
  refine LoopN (fun c y => ∃ i, c = nA K - i ∧ i ≤ nA K ∧ AgX scrX scrL σ y.1 ∧ XS y.1 T K L ∧ PL y.1 K n m0 m1 d0 ∧ y.2 = nI i ∧ ∀ a, a < i → gI y.1 73 a = nI (Ut K L a)) ?_ (n := nA K) ⟨0, rfl, Nat.zero_le _, ags, hS13, hpl, rfl, by omega⟩
  rintro c ⟨υ, a4⟩ KK ⟨i, hc, hi, ag, hSu, hp, e4, hu⟩ ih
  simp only [] at ag hSu hp e4 hu ⊢
  subst e4
  unfold w_Morn_prepare_b31
  rw [hSu.1.1.na, ha8.1, nI_leI (by omega) (by omega), hp.2.2.2]
  refine ⟨fun z => ?_, fun z => ?_⟩
  · have : i = nA K := by omega
    subst this
    exact k υ ag hSu hp hu
  · refine s_holdsUntil hSu (by omega) (by omega) ?_
    intro υ2 ag2 hS2
    rw [nI_clamp (by omega), unt_U hLd (by omega)]
    refine ⟨vp_in_nI (by omega) (by decide), fun σ4 e4 => ?_⟩
    subst e4
    have agp : AgX (fun o p => o = 73) (fun _ => False) υ2 (sI υ2 73 i (nI (Ut K L i))) := AgX.put rfl
    refine ih (nA K - (i + 1)) _ (by omega) ⟨i + 1, rfl, by omega, ag.trans (ag2.scr.trans (agp.mono (by intro o p h; unfold scrX; omega) (by intro o h; exact h.elim))), hS2.ag agp (by omega) (by omega) (by omega) (by omega), ?_, nI_1 i, ?_⟩
    · unfold PL at hp ⊢
      simp only [gI_sI]
      simp only [ag2.i 70 _ (show ¬ xq 70 _ by unfold xq; omega)]
      simpa using hp
    · intro a ha
      simp only [gI_sI]
      by_cases hai : a = i
      · subst hai; simp
      · rw [if_neg (by omega), ag2.i 73 a (by unfold xq; omega)]; exact hu a (by omega)
def laP (k : Nat) (o p : Nat) : Prop := xq o p ∨ (o = 74 ∧ p = k) ∨ (o = 75 ∧ 8 * k ≤ p ∧ p < 8 * k + 8)
theorem s_lookAhead {r d0 k : Nat} {post : DD → Prop} (hS : XS σ T K L) (hr : r < nR K) (hd0 : d0 ≤ 999) (hk : k < 5) (h11 : gI σ 70 11 = nI d0) (kk : ∀ τ, AgX (laP k) xl σ τ → XS τ T K L → PO τ K L (fun _ => r) d0 k → post τ) : w_Morn_lookAhead T σ (nI k) (nI r) post := by
  have hI := hS.1.2.2
  have ha8 := hI.a
  unfold w_Morn_lookAhead
  intro v14 e14
  rw [h11, nI_add] at e14
  subst e14
  rw [nI_clamp (by omega)]
  refine ⟨vp_in_nI (by omega) (by decide), fun σ16 e16 => ?_⟩
  have hla : ∀ {υ1 υ2 : DD}, AgX (fun o p => (o = 74 ∧ p = k) ∨ (o = 75 ∧ 8 * k ≤ p ∧ p < 8 * k + 8)) (fun _ => False) υ1 υ2 → XS υ1 T K L → AgX (laP k) xl υ1 υ2 ∧ XS υ2 T K L := by
    intro υ1 υ2 a h
    exact ⟨a.mono (by intro o p h; unfold laP; omega) (by intro o h; exact h.elim), h.ag a (by omega) (by omega) (by omega) (by omega)⟩
  have h16 := hla (υ1 := σ) (υ2 := σ16) (by subst e16; exact AgX.put (Or.inl ⟨rfl, rfl⟩)) hS
  have xla : ∀ {υ1 υ2 : DD}, AgX xq xl υ1 υ2 → AgX (laP k) xl υ1 υ2 := fun a => a.mono (fun o p h => Or.inl h) (fun o h => h)
  unfold w_Morn_lookAhead_l17
  refine LoopN (fun c y => ∃ i, c = nA K - i ∧ i ≤ nA K ∧ AgX (laP k) xl σ y.1 ∧ XS y.1 T K L ∧ y.2 = nI i ∧ gI y.1 74 k = bits (fun a => canB K L a r (d0 + k)) i ∧ ∀ a, a < i → gI y.1 75 (8 * k + a) = nI (lasN K a r ((d0 + k) % 7))) ?_ (n := nA K) ⟨0, rfl, Nat.zero_le _, h16.1, h16.2, rfl, by subst e16; exact gI_same, by omega⟩
  rintro c ⟨υ, a4⟩ KK ⟨i, hc, hi, ag, hSu, e4, h74, h75⟩ ih
  simp only [] at ag hSu e4 h74 h75 ⊢
  subst e4
  unfold w_Morn_lookAhead_b17
  rw [hSu.1.1.na, ha8.1, nI_leI (by omega) (by omega)]
  refine ⟨fun z => ?_, fun z => ?_⟩
  · have : i = nA K := by omega
    subst this
    exact kk υ ag hSu ⟨h74, h75⟩
  · refine s_canBut hSu (by omega) hr (by omega) ?_
    intro υ2 ag2 hS2
    have g74 : gI υ2 74 k = gI υ 74 k := ag2.i 74 k (by unfold xq; omega)
    have j56 : ∀ υ3, AgX (laP k) xl υ υ3 → XS υ3 T K L → gI υ3 74 k = bits (fun a => canB K L a r (d0 + k)) (i + 1) → (∀ a, a < i → gI υ3 75 (8 * k + a) = nI (lasN K a r ((d0 + k) % 7))) → w_Morn_lookAhead_j56 T (fun σ a4 => KK (σ, a4)) post υ3 (nI k) (nI r) (nI (d0 + k)) (nI i) := by
      intro υ3 ag3 hS3 g3 g75
      unfold w_Morn_lookAhead_j56 w_Court_lasts
      refine s_answerOf hS3.1 (by omega) hr (by omega) ?_
      intro υ4 ag4 hQ4
      rw [(pack_e hI (by omega)).1]
      have e75 : (nI k * 8) + nI i = nI (8 * k + i) := by
        rw [show (8 : Int32) = nI 8 from rfl, pk_mul, nI_add]; congr 1; omega
      rw [e75, nI_clamp (by omega)]
      refine ⟨vp_in_nI (by omega) (by decide), fun σ3 e3 => ?_⟩
      have h5 := hla (υ1 := υ4) (υ2 := σ3) (by subst e3; exact AgX.put (Or.inr ⟨rfl, by omega, by omega⟩)) (hS3.q ag4 hQ4)
      subst e3
      refine ih (nA K - (i + 1)) _ (by omega) ⟨i + 1, rfl, by omega, ag.trans (ag3.trans ((xla ag4).trans h5.1)), h5.2, nI_1 i, ?_, ?_⟩
      · rw [gI_sI, if_neg (by omega), ag4.i 74 k (by unfold xq; omega)]; exact g3
      · intro a ha
        simp only [gI_sI]
        by_cases hai : a = i
        · subst hai; simp
        · rw [if_neg (by omega), ag4.i 75 _ (by unfold xq; omega)]; exact g75 a (by omega)
    have hu75 : ∀ a, a < i → gI υ2 75 (8 * k + a) = nI (lasN K a r ((d0 + k) % 7)) := fun a ha => by rw [ag2.i 75 _ (by unfold xq; omega)]; exact h75 a ha
    rw [nI_clamp (by omega)]
    refine br0 (fun hb => ?_) (fun hb => ?_)
    · refine j56 υ2 (xla ag2) hS2 ?_ hu75
      rw [g74, h74]; simp [bits, hb]
    · refine ⟨vp_in_nI (by omega) (by decide), vp_in_nI (by omega) (by decide), fun σ11 e11 => ?_⟩
      have h5 := hla (υ1 := υ2) (υ2 := σ11) (by subst e11; exact AgX.put (Or.inl ⟨rfl, rfl⟩)) hS2
      subst e11
      refine j56 _ ((xla ag2).trans h5.1) h5.2 ?_ ?_
      · rw [gI_same, g74, h74]; simp [bits, hb]
      · intro a ha; rw [gI_sI, if_neg (by omega)]; exact hu75 a ha
theorem s_heldEnd {U : Nat → Nat} {n m0 m1 d0 : Nat} {post : Int32 → DD → Prop} (hS : XS σ T K L) (hp : PL σ K n m0 m1 d0) (hu : PU σ K U) (hU : ∀ a, U a < 3000) (hn : n ≤ 5) (hd : d0 ≤ 999) (k : post (bits (hE n d0 U) (nA K)) σ) : w_Morn_heldInTheEnd T σ post := by
  have ha8 := hS.1.2.2.a
  unfold w_Morn_heldInTheEnd w_Morn_heldInTheEnd_l4
  refine LoopN (fun c y => ∃ i, c = nA K - i ∧ i ≤ nA K ∧ y.1 = σ ∧ y.2.2 = nI i ∧ y.2.1 = bits (hE n d0 U) i) ?_ (n := nA K) ⟨0, rfl, Nat.zero_le _, rfl, rfl, rfl⟩
  rintro c ⟨υ, b, a3⟩ KK ⟨i, hc, hi, eu, e3, hb⟩ ih
  simp only [] at eu e3 hb ⊢
  subst eu; subst e3
  unfold w_Morn_heldInTheEnd_b4
  rw [hS.1.1.na, ha8.1, nI_leI (by omega) (by omega)]
  refine ⟨fun z => ?_, fun z => ?_⟩
  · have : i = nA K := by omega
    subst this
    rw [hb]; exact k
  · have hUi := hU i
    rw [nI_clamp (by omega), hu i (by omega), hp.2.2.1, hp.2.2.2, nI_add, nI_leI (by omega) (by omega)]
    refine ⟨vp_in_nI (by omega) (by decide), fun z2 => ?_, fun z2 v4 e4 => ?_⟩
    · refine ih (nA K - (i + 1)) _ (by omega) ⟨i + 1, rfl, by omega, rfl, nI_1 i, ?_⟩
      have : hE n d0 U i = false := decide_eq_false (by omega)
      rw [hb]; simp [bits, this]
    · refine ih (nA K - (i + 1)) _ (by omega) ⟨i + 1, rfl, by omega, rfl, nI_1 i, ?_⟩
      have : hE n d0 U i = true := decide_eq_true (by omega)
      rw [e4, hb]; simp [bits, this]
theorem s_PcanRead {U : Nat → Nat} {rf : Nat → Nat} {n m0 m1 d0 k a : Nat} {post : Int32 → DD → Prop} (hS : XS σ T K L) (hp : PL σ K n m0 m1 d0) (hu : PU σ K U) (hU : ∀ a, U a < 3000) (ho : PO σ K L rf d0 k) (hk : k < 5) (hd : d0 ≤ 999) (ha : a < nA K) (kk : post (bl (okR d0 (fun k a => canB K L a (rf k) (d0 + k)) (ndF K) k a U)) σ) : w_Morn_canRead T σ (nI k) (nI a) post := by
  have hI := hS.1.2.2
  have ha8 := hI.a
  unfold w_Morn_canRead
  rw [nI_clamp (by omega), ho.1, bits_bit _ (by omega) (by omega)]
  refine ⟨vp_in_nI (by omega) (by decide), ?_⟩
  unfold okR at kk
  have kk : post (bl (canB K L a (rf k) (d0 + k) && (match ndF K a with | none => true | some m => decide (d0 + k < U m)))) σ := kk
  simp only [ha, decide_true, Bool.true_and]
  refine br1 (fun hb => ?_) (fun hb => ?_)
  · rw [hb, Bool.true_and] at kk
    refine s_trait 3 rfl hS.1.1 hI ha (by omega) ?_
    unfold ndF at kk
    refine ⟨fun z => ?_, fun z => ?_⟩
    · rw [if_pos (Or.inr z)] at kk; exact kk
    · obtain ⟨m, hm, em⟩ := (hI.act ha).2.2.2.resolve_left z
      rw [if_neg (by rintro (w | w); omega; exact z w), em, nI_clamp (by omega)] at kk
      have hUm := hU m
      rw [em, nI_clamp (by omega), hu m hm, hp.2.2.2, nI_add, nI_leI (by omega) (by omega)]
      refine ⟨vp_in_nI (by omega) (by decide), fun z2 => ?_, fun z2 => ?_⟩
      · simp only [] at kk
        rw [decide_eq_false (by omega)] at kk; exact kk
      · simp only [] at kk
        rw [decide_eq_true (by omega)] at kk; exact kk
  · rw [hb] at kk; exact kk
end PX
