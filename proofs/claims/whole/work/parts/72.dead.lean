/-! ===== what is dead for good ===== -/
def spk (K : Nat → Int32) (a : Nat) : Bool := (List.range (nR K)).any (fun r => (List.range 7).any (fun w => canA K a r w))
/-- what a rule adds -/
def prm (K : Nat → Int32) (S : Nat → Bool) (a : Nat) : Prop := spk K a = true ∧ ∀ m, ndF K a = some m → S m = true
def ClD (K : Nat → Int32) (S : Nat → Bool) : Prop := ∀ a, a < nA K → prm K S a → S a = true
def lea (K : Nat → Int32) (H S : Nat → Bool) : Prop := (∀ a, a < nA K → H a = true → S a = true) ∧ ∀ S', (∀ a, a < nA K → H a = true → S' a = true) → ClD K S' → ∀ a, a < nA K → S a = true → S' a = true
def isDead (K : Nat → Int32) (L : List RD) (d : Nat) (r : Int32) : Prop := ∃ S, lea K (fun a => hold K L a d) S ∧ ClD K S ∧ r = bits (fun a => !S a) (nA K)
theorem isDead_uniq {K : Nat → Int32} {L : List RD} {d : Nat} {r r' : Int32} (h : isDead K L d r) (h' : isDead K L d r') : r = r' := by
  obtain ⟨S, h1, h2, h3⟩ := h
  obtain ⟨S', g1, g2, g3⟩ := h'
  rw [h3, g3]
  apply bits_congr
  intro a ha
  have x1 := h1.2 S' g1.1 g2 a ha
  have x2 := g1.2 S h1.1 h2 a ha
  cases hs : S a <;> cases hs' : S' a <;> simp_all
/-- a round: nothing new, or more -/
def rnd (K : Nat → Int32) (H S S1 : Nat → Bool) (j : Nat) : Prop := lea K H S1 ∧ (∀ a, a < nA K → S a = true → S1 a = true) ∧ (((∀ b, b < nA K → S1 b = S b) ∧ ∀ a, a < j → a < nA K → prm K S a → S a = true) ∨ cntB S (nA K) + 1 ≤ cntB S1 (nA K))
section DE
variable {K : Nat → Int32} {H S S1 : Nat → Bool}
theorem rnd_0 (h : lea K H S) : rnd K H S S 0 := ⟨h, fun _ _ h => h, Or.inl ⟨fun _ _ => rfl, by omega⟩⟩
theorem prm_c (hI : KI K) {S S1 : Nat → Bool} {a : Nat} (h : ∀ b, b < nA K → S1 b = S b) (hp : prm K S1 a) : prm K S a := ⟨hp.1, fun m hm => by rw [← h m (ndF_lt hI hm).2.1]; exact hp.2 m hm⟩
theorem prm_m (hI : KI K) {S S1 : Nat → Bool} {a : Nat} (h : ∀ b, b < nA K → S b = true → S1 b = true) (hp : prm K S a) : prm K S1 a := ⟨hp.1, fun m hm => h m (ndF_lt hI hm).2.1 (hp.2 m hm)⟩
/-- an act that no rule adds, or that is there -/
theorem rnd_keep (hI : KI K) {j : Nat} (hr : rnd K H S S1 j) (h : prm K S1 j → S1 j = true) : rnd K H S S1 (j + 1) := by
  refine ⟨hr.1, hr.2.1, ?_⟩
  rcases hr.2.2 with ⟨h1, h2⟩ | h1
  · left
    refine ⟨h1, ?_⟩
    intro a ha haN hp
    by_cases haj : a = j
    · subst haj
      rw [← h1 a haN]
      exact h (prm_c hI (fun b hb => (h1 b hb).symm) hp)
    · exact h2 a (by omega) haN hp
  · right; exact h1
theorem rnd_add (hI : KI K) {j : Nat} (hj : j < nA K) (hr : rnd K H S S1 j) (h : prm K S1 j) : rnd K H S (fun i => S1 i || decide (i = j)) (j + 1) := by
  have hcs := cntB_set (p := S1) (a := j) (nA K)
  refine ⟨⟨?_, ?_⟩, ?_, ?_⟩
  · intro a ha hh; simp [hr.1.1 a ha hh]
  · intro S' g1 g2 a ha hs
    simp only [Bool.or_eq_true, decide_eq_true_eq] at hs
    rcases hs with hs | hs
    · exact hr.1.2 S' g1 g2 a ha hs
    · subst hs
      exact g2 a ha (prm_m hI (fun b hb hb' => hr.1.2 S' g1 g2 b hb hb') h)
  · intro a ha hs; simp [hr.2.1 a ha hs]
  · rcases hr.2.2 with ⟨h1, h2⟩ | h1
    · cases hsj : S1 j with
      | true =>
        left
        refine ⟨?_, ?_⟩
        · intro b hb
          by_cases hbj : b = j
          · subst hbj; simp [← h1 b hb, hsj]
          · simp [hbj, h1 b hb]
        · intro a ha haN hp
          by_cases haj : a = j
          · subst haj; rw [← h1 a haN]; exact hsj
          · exact h2 a (by omega) haN hp
      | false =>
        right
        rw [hcs, if_pos ⟨hj, hsj⟩, cntB_congr _ h1]; exact Nat.le_refl _
    · right; rw [hcs]; omega
/-- rounds: closed, or so many are there -/
def rnO (K : Nat → Int32) (H S : Nat → Bool) (t : Nat) : Prop := lea K H S ∧ (ClD K S ∨ t ≤ cntB S (nA K))
theorem rnO_0 : rnO K H H 0 := ⟨⟨fun _ _ h => h, fun _ g1 _ a ha h => g1 a ha h⟩, Or.inr (Nat.zero_le _)⟩
theorem rnO_s (hI : KI K) {t : Nat} (h : rnO K H S t) (hr : rnd K H S S1 (nA K)) : rnO K H S1 (t + 1) := by
  refine ⟨hr.1, ?_⟩
  rcases hr.2.2 with ⟨h1, h2⟩ | h1
  · left
    intro a ha hp
    rw [h1 a ha]
    exact h2 a ha ha (prm_c hI h1 hp)
  · rcases h.2 with hc | hc
    · -- closed already: nothing can be new
      left
      have hle : ∀ b, b < nA K → S1 b = S b := by
        intro b hb
        have x1 := hr.2.1 b hb
        have x2 := hr.1.2 S h.1.1 hc b hb
        cases hs : S b <;> cases hs' : S1 b <;> simp_all
      intro a ha hp
      rw [hle a ha]
      exact hc a ha (prm_c hI hle hp)
    · right; omega
theorem rnO_end (hI : KI K) {t : Nat} (h : rnO K H S t) (ht : nA K ≤ t) : ClD K S := by
  rcases h.2 with hc | hc
  · exact hc
  · intro a ha _
    exact cntB_full (nA K) (by omega) a ha
end DE
section DEM
variable {σ τ : DD} {T : TXT} {K : Nat → Int32} {L : List RD}
theorem s_MhasReader {a : Nat} {post : Int32 → DD → Prop} (hS : MS σ K L) (ha : a < nA K) (k : ∀ τ, Ag qP σ τ → MS τ K L → post (bl (spk K a)) τ) : w_M_hasReader σ (nI a) post := by
  have hI := hS.2.1
  have ha8 := hI.a
  have hr4 := hI.r
  unfold spk at k
  generalize hF : (fun r => (List.range 7).any (fun w => canA K a r w)) = F at k
  unfold w_M_hasReader w_M_hasReader_l2
  refine LoopN (fun c y => ∃ r, c = nR K - r ∧ r ≤ nR K ∧ Ag qP σ y.1 ∧ MS y.1 K L ∧ y.2 = nI r ∧ (List.range r).any F = false) ?_ (n := nR K) ⟨0, rfl, Nat.zero_le _, Ag.refl σ, hS, rfl, rfl⟩
  rintro c ⟨υ, a2⟩ KK ⟨r, hc, hr, ag, hSu, e2, hany⟩ ih
  simp only [] at ag hSu e2 hany ⊢
  subst e2
  unfold w_M_hasReader_b2
  rw [hSu.1.1 400 (by unfold dyn; omega), hr4.1, nI_leI (by omega) (by omega)]
  refine ⟨fun z => ?_, fun z => ?_⟩
  · have : r = nR K := by omega
    subst this
    have := k υ ag hSu
    rw [hany] at this; exact this
  · have hFr : F r = (List.range 7).any (fun w => canA K a r w) := by rw [← hF]
    unfold w_M_hasReader_l16
    refine LoopN (fun c y => ∃ w, c = 7 - w ∧ w ≤ 7 ∧ Ag qP σ y.1 ∧ MS y.1 K L ∧ y.2 = nI w ∧ (List.range w).any (fun w => canA K a r w) = false) ?_ (n := 7) ⟨0, rfl, Nat.zero_le _, ag, hSu, rfl, rfl⟩
    rintro c' ⟨υ, a3⟩ KK2 ⟨w, hc', hw, ag, hSu, e3, hany2⟩ ih2
    simp only [] at ag hSu e3 hany2 ⊢
    subst e3
    unfold w_M_hasReader_b16
    rw [show (7 : Int32) = nI 7 from rfl, nI_leI (by decide) (by omega)]
    refine ⟨fun z2 => ?_, fun z2 => ?_⟩
    · have hw7 : w = 7 := by omega
      subst hw7
      rw [nI_1]
      refine ih (nR K - (r + 1)) _ (by omega) ⟨r + 1, rfl, by omega, ag, hSu, rfl, ?_⟩
      rw [any_range_succ, hany, hFr, hany2]; rfl
    · have hmod : w % 7 = w := Nat.mod_eq_of_lt (by omega)
      have nx : ∀ υ', Ag qP υ υ' → MS υ' K L → canA K a r w = false → KK2 (υ', nI w + 1) := by
        intro υ' a' hS' hf
        rw [nI_1]
        refine ih2 (7 - (w + 1)) _ (by omega) ⟨w + 1, rfl, by omega, ag.trans a', hS', rfl, ?_⟩
        rw [any_range_succ, hany2, hf]; rfl
      refine s_barred hSu.1 hI ha (by omega) (by omega) ?_
      intro υ1 ag1 hQ1
      have hS1 := hSu.q ag1 hQ1
      refine br1 (fun hb => nx υ1 ag1 hS1 (by unfold canA; rw [hb]; rfl)) (fun hb => ?_)
      rw [show (104 : Int32) = nI 104 from rfl, nI_add, nI_clamp (by omega), hS1.1.1 (104 + w) (by unfold dyn; omega)]
      refine ⟨vp_in_nI (by omega) (by decide), s_fact 2 rfl (by omega) (by omega) ?_⟩
      rw [hS1.1.1 (4 * a + 2) (dyn_lt (by omega))]
      refine ⟨fun z3 => nx υ1 ag1 hS1 ?_, fun z3 => ?_⟩
      · have : lsn K w a = false := by unfold lsn; rw [hmod]; exact decide_eq_false (fun h => h z3)
        unfold canA; rw [this]; simp
      · have hlsn : lsn K w a = true := by unfold lsn; rw [hmod]; exact decide_eq_true z3
        have e96 : (96 : Int32) + 2 * nI r = nI (96 + 2 * r) := by
          rw [show (96 : Int32) = nI 96 from rfl, show (2 : Int32) = nI 2 from rfl, pk_mul, nI_add]
        rw [e96, nI_clamp (by omega), hS1.1.1 (96 + 2 * r) (dyn_lt (by omega))]
        refine ⟨vp_in_nI (by omega) (by decide), s_takes hS1.1 hI ha (by omega) (by omega) ?_⟩
        intro υ2 ag2 hQ2
        have hS2 := hS1.q ag2 hQ2
        refine ⟨fun z4 => nx υ2 (ag1.trans ag2) hS2 ?_, fun z4 => ?_⟩
        · unfold canA; rw [decide_eq_false (by grind), Bool.and_false]
        · have hT : (List.range (nR K)).any F = true := by
            rw [List.any_eq_true]
            refine ⟨r, List.mem_range.2 (by omega), ?_⟩
            rw [hFr, List.any_eq_true]
            refine ⟨w, List.mem_range.2 (by omega), ?_⟩
            unfold canA; rw [hb, hlsn, decide_eq_true (by grind)]; rfl
          have := k υ2 (ag.trans (ag1.trans ag2)) hS2
          rw [hT] at this; exact this
theorem s_isInB {p : Nat → Bool} {n i : Nat} {post : Int32 → DD → Prop} (hn : n ≤ 16) (hi : i < n) (k : post (bl (p i)) σ) : w_M_isIn σ (bits p n) (nI i) post := by
  unfold w_M_isIn
  rw [bits_bit p hn (by omega), decide_eq_true hi, Bool.true_and]
  cases h : p i with
  | false => rw [h] at k; exact ⟨fun _ => k, fun z => absurd z (by decide)⟩
  | true => rw [h] at k; exact ⟨fun z => absurd rfl z, fun _ => k⟩
theorem full_bits {n : Nat} (hn : n ≤ 16) : jshl 1 (nI n) - 1 = bits (fun _ => true) n := by
  have h1 : 1 ≤ 2 ^ n := Nat.one_le_two_pow
  rw [jshl_1 (by omega), show (1 : Int32) = nI 1 from rfl, pk_sub h1, bits_N _ _ hn]
  congr 1
  have : ∀ n, bitsN (fun _ => true) n = 2 ^ n - 1 := by
    intro n
    induction n with
    | zero => rfl
    | succ n ih =>
      have : 1 ≤ 2 ^ n := Nat.one_le_two_pow
      rw [bitsN, ih, if_pos rfl, Nat.pow_succ]; omega
  rw [this]
theorem s_Mdead {d0 : Nat} {post : Int32 → DD → Prop} (hS : MS σ K L) (hday : gI σ 4 395 = nI d0) (hd0 : d0 ≤ 999) (k : ∀ r, isDead K L d0 r → ∀ τ, PM σ τ → MS τ K L → post r τ) : w_M_dead σ post := by
  have hI := hS.2.1
  have ha8 := hI.a
  unfold w_M_dead
  rw [hday]
  refine s_heldOn hS (by omega) ?_
  intro υ0 ag0 hS0
  unfold held
  unfold w_M_dead_l17
  refine LoopN (fun c y => ∃ t cn, c = 8 - t ∧ t ≤ 8 ∧ Ag qP σ y.1 ∧ MS y.1 K L ∧ y.2.2 = nI t ∧ y.2.1 = bits cn (nA K) ∧ rnO K (fun a => hold K L a d0) (fun a => hold K L a d0 || cn a) t) ?_ (n := 8) ⟨0, fun _ => false, rfl, Nat.zero_le _, ag0, hS0, rfl, (bits_0 _).symm, ?_⟩
  · rintro c ⟨υ, b, a3⟩ KK ⟨t, cn, hc, ht, ag, hSu, e3, hb, hrn⟩ ih
    simp only [] at ag hSu e3 hb hrn ⊢
    subst e3; subst hb
    unfold w_M_dead_b17
    rw [show (8 : Int32) = nI 8 from rfl, nI_leI (by decide) (by omega)]
    refine ⟨fun z => ?_, fun z => ?_⟩
    · rw [hSu.1.1 399 (by unfold dyn; omega), ha8.1, full_bits (by omega), bits_diff _ _ (by omega), bits_diff _ _ (by omega)]
      refine k _ ⟨_, hrn.1, rnO_end hI hrn (by omega), ?_⟩ υ (PM.q ag) hSu
      apply bits_congr
      intro a _
      cases hold K L a d0 <;> cases cn a <;> rfl
    · unfold w_M_dead_l26
      refine LoopN (fun c y => ∃ j cn1, c = nA K - j ∧ j ≤ nA K ∧ Ag qP σ y.1 ∧ MS y.1 K L ∧ y.2.2 = nI j ∧ y.2.1 = bits cn1 (nA K) ∧ rnd K (fun a => hold K L a d0) (fun a => hold K L a d0 || cn a) (fun a => hold K L a d0 || cn1 a) j) ?_ (n := nA K) ⟨0, cn, rfl, Nat.zero_le _, ag, hSu, rfl, rfl, rnd_0 hrn.1⟩
      rintro c' ⟨υ, b, a4⟩ KK2 ⟨j, cn1, hc', hj, ag, hSu, e4, hb, hrd⟩ ih2
      simp only [] at ag hSu e4 hb hrd ⊢
      subst e4; subst hb
      unfold w_M_dead_b26
      rw [hSu.1.1 399 (by unfold dyn; omega), ha8.1, nI_leI (by omega) (by omega)]
      refine ⟨fun z2 => ?_, fun z2 => ?_⟩
      · have : j = nA K := by omega
        subst this
        rw [nI_1]
        exact ih (8 - (t + 1)) _ (by omega) ⟨t + 1, cn1, rfl, by omega, ag, hSu, rfl, rfl, rnO_s hI hrn hrd⟩
      · refine s_fact 3 rfl (by omega) (by omega) ?_
        rw [hSu.1.1 (4 * j + 3) (dyn_lt (by omega))]
        have nx : ∀ υ', Ag qP υ υ' → MS υ' K L → rnd K (fun a => hold K L a d0) (fun a => hold K L a d0 || cn a) (fun a => hold K L a d0 || cn1 a) (j + 1) → KK2 (υ', bits cn1 (nA K), nI j + 1) := by
          intro υ' a' hS' hr'
          rw [nI_1]
          exact ih2 (nA K - (j + 1)) _ (by omega) ⟨j + 1, cn1, rfl, by omega, ag.trans a', hS', rfl, rfl, hr'⟩
        refine s_isInB (by omega) (by omega) (br1 (fun hb => nx υ (Ag.refl υ) hSu (rnd_keep hI hrd (fun _ => by simp [hb]))) (fun hb => ?_))
        have j74 : (∀ m, ndF K j = some m → (hold K L m d0 || cn1 m) = true) → w_M_dead_j74 (fun σ a2 a3 => KK (σ, a2, a3)) (fun σ a2 a4 => KK2 (σ, a2, a4)) post υ (bits (fun a => hold K L a d0) (nA K)) (bits cn1 (nA K)) (nI t) (nI j) := by
          intro hnd
          unfold w_M_dead_j74
          refine s_MhasReader hSu (by omega) ?_
          intro υ1 ag1 hS1
          refine br0 (fun hs => nx υ1 ag1 hS1 (rnd_keep hI hrd (fun hp => by rw [hp.1] at hs; simp at hs))) (fun hs v4 e4 => ?_)
          rw [bits_set (by omega) (by omega)] at e4
          rw [nI_1, e4]
          have hadd := rnd_add hI (by omega) hrd ⟨hs, hnd⟩
          refine ih2 (nA K - (j + 1)) _ (by omega) ⟨j + 1, _, rfl, by omega, ag.trans ag1, hS1, rfl, rfl, ?_⟩
          have e5 : (fun a => hold K L a d0 || (cn1 a || decide (a = j))) = (fun i => (hold K L i d0 || cn1 i) || decide (i = j)) := by funext a; rw [Bool.or_assoc]
          rw [e5]; exact hadd
        refine ⟨fun z3 => j74 (fun m hm => by rw [(ndF_lt hI hm).2.2] at z3; exact absurd z3 (nI_m1 (by have := (ndF_lt hI hm).2.1; omega))), fun z3 => ?_⟩
        obtain ⟨m, hm, em⟩ := (hI.act (a := j) (by omega)).2.2.2.resolve_left z3
        have hnd : ndF K j = some m := by
          unfold ndF
          rw [if_neg (by rintro (w | w); omega; exact z3 w), em, nI_clamp (by omega)]
        rw [em, bits_or _ _ (by omega)]
        refine s_isInB (by omega) hm (br0 (fun hh => nx υ (Ag.refl υ) hSu (rnd_keep hI hrd (fun hp => ?_))) (fun hh => j74 (fun m' hm' => by rw [hnd] at hm'; injection hm' with hm'; subst hm'; exact hh)))
        have h9 : (hold K L m d0 || cn1 m) = true := hp.2 m hnd
        rw [hh] at h9; simp at h9
  · have e5 : (fun a => hold K L a d0 || false) = (fun a => hold K L a d0) := by funext a; rw [Bool.or_false]
    rw [e5]; exact rnO_0
theorem s_isSpeakable {a : Nat} {post : Int32 → DD → Prop} (hS : XS σ T K L) (ha : a < nA K) (k : ∀ τ, AgX xq xl σ τ → XS τ T K L → post (bl (spk K a)) τ) : w_Shar_isSpeakable T σ (nI a) post := by
  have hI := hS.1.2.2
  have hr4 := hI.r
  unfold spk at k
  generalize hF : (fun r => (List.range 7).any (fun w => canA K a r w)) = F at k
  unfold w_Shar_isSpeakable w_Shar_isSpeakable_l2
  refine LoopN (fun c y => ∃ r, c = nR K - r ∧ r ≤ nR K ∧ AgX xq xl σ y.1 ∧ XS y.1 T K L ∧ y.2 = nI r ∧ (List.range r).any F = false) ?_ (n := nR K) ⟨0, rfl, Nat.zero_le _, AgX.refl σ, hS, rfl, rfl⟩
  rintro c ⟨υ, a2⟩ KK ⟨r, hc, hr, ag, hSu, e2, hany⟩ ih
  simp only [] at ag hSu e2 hany ⊢
  subst e2
  unfold w_Shar_isSpeakable_b2
  rw [hSu.1.1.nr, hr4.1, nI_leI (by omega) (by omega)]
  refine ⟨fun z => ?_, fun z => ?_⟩
  · have : r = nR K := by omega
    subst this
    have := k υ ag hSu
    rw [hany] at this; exact this
  · have hFr : F r = (List.range 7).any (fun w => canA K a r w) := by rw [← hF]
    unfold w_Shar_isSpeakable_l15
    refine LoopN (fun c y => ∃ w, c = 7 - w ∧ w ≤ 7 ∧ AgX xq xl σ y.1 ∧ XS y.1 T K L ∧ y.2 = nI w ∧ (List.range w).any (fun w => canA K a r w) = false) ?_ (n := 7) ⟨0, rfl, Nat.zero_le _, ag, hSu, rfl, rfl⟩
    rintro c' ⟨υ, a3⟩ KK2 ⟨w, hc', hw, ag, hSu, e3, hany2⟩ ih2
    simp only [] at ag hSu e3 hany2 ⊢
    subst e3
    unfold w_Shar_isSpeakable_b15
    rw [show (7 : Int32) = nI 7 from rfl, nI_leI (by decide) (by omega)]
    refine ⟨fun z2 => ?_, fun z2 => ?_⟩
    · have hw7 : w = 7 := by omega
      subst hw7
      rw [nI_1]
      refine ih (nR K - (r + 1)) _ (by omega) ⟨r + 1, rfl, by omega, ag, hSu, rfl, ?_⟩
      rw [any_range_succ, hany, hFr, hany2]; rfl
    · refine s_canAlone hSu.1 ha (by omega) (by omega) ?_
      intro υ1 ag1 hQ1
      have hS1 := hSu.q ag1 hQ1
      refine br0 (fun hb => ?_) (fun hb => ?_)
      · rw [nI_1]
        refine ih2 (7 - (w + 1)) _ (by omega) ⟨w + 1, rfl, by omega, ag.trans ag1, hS1, rfl, ?_⟩
        rw [any_range_succ, hany2, hb]; rfl
      · have hT : (List.range (nR K)).any F = true := by
          rw [List.any_eq_true]
          refine ⟨r, List.mem_range.2 (by omega), ?_⟩
          rw [hFr, List.any_eq_true]
          exact ⟨w, List.mem_range.2 (by omega), hb⟩
        have := k υ1 (ag.trans ag1) hS1
        rw [hT] at this; exact this
theorem s_Xdead {d0 : Nat} {post : Int32 → DD → Prop} (hS : XS σ T K L) (hday : gI σ 208 0 = nI d0) (hd0 : d0 ≤ 999) (k : ∀ r, isDead K L d0 r → ∀ τ, AgX scrX scrL σ τ → XS τ T K L → post r τ) : w_Face_dead T σ post := by
  have hI := hS.1.2.2
  have ha8 := hI.a
  unfold w_Face_dead w_Shar_deadBits w_Shar_deadBits_l4
  refine LoopN (fun c y => ∃ i, c = nA K - i ∧ i ≤ nA K ∧ AgX xq xl σ y.1 ∧ XS y.1 T K L ∧ y.2.2 = nI i ∧ y.2.1 = bits (spk K) i) ?_ (n := nA K) ⟨0, rfl, Nat.zero_le _, AgX.refl σ, hS, rfl, rfl⟩
  rintro c ⟨υ, b, a2⟩ KK ⟨i, hc, hi, ag, hSu, e2, hb⟩ ih
  simp only [] at ag hSu e2 hb ⊢
  subst e2; subst hb
  unfold w_Shar_deadBits_b4
  rw [hSu.1.1.na, ha8.1, nI_leI (by omega) (by omega)]
  refine ⟨fun z => ?_, fun z => ?_⟩
  · have hie : i = nA K := by omega
    subst hie
    rw [ag.i 208 0 (by unfold xq; omega), hday]
    refine s_heldBits hSu (by omega) ?_
    intro υ0 ag0 hS0
    unfold held
    unfold w_Shar_deadBits_l54
    refine LoopN (fun c y => ∃ t S, c = nA K - t ∧ t ≤ nA K ∧ AgX xq xl σ y.1 ∧ XS y.1 T K L ∧ y.2.2 = nI t ∧ y.2.1 = bits S (nA K) ∧ rnO K (fun a => hold K L a d0) S t) ?_ (n := nA K) ⟨0, fun a => hold K L a d0, rfl, Nat.zero_le _, ag.trans ag0, hS0, rfl, rfl, rnO_0⟩
    rintro c ⟨υ, b, a3⟩ KK1 ⟨t, S, hc, ht, ag, hSu, e3, hb, hrn⟩ ih1
    simp only [] at ag hSu e3 hb hrn ⊢
    subst e3; subst hb
    unfold w_Shar_deadBits_b54
    rw [hSu.1.1.na, ha8.1, nI_leI (by omega) (by omega)]
    refine ⟨fun z2 => ?_, fun z2 => ?_⟩
    · rw [full_bits (by omega), bits_diff _ _ (by omega)]
      refine k _ ⟨S, hrn.1, rnO_end hI hrn (by omega), ?_⟩ υ ag.scr hSu
      apply bits_congr
      intro a _
      rfl
    · unfold w_Shar_deadBits_l68
      refine LoopN (fun c y => ∃ j S1, c = nA K - j ∧ j ≤ nA K ∧ y.1 = υ ∧ y.2.2 = nI j ∧ y.2.1 = bits S1 (nA K) ∧ rnd K (fun a => hold K L a d0) S S1 j) ?_ (n := nA K) ⟨0, S, rfl, Nat.zero_le _, rfl, rfl, rfl, rnd_0 hrn.1⟩
      rintro c' ⟨υ', b, a4⟩ KK2 ⟨j, S1, hc', hj, eu, e4, hb, hrd⟩ ih2
      simp only [] at eu e4 hb hrd ⊢
      subst eu; subst e4; subst hb
      unfold w_Shar_deadBits_b68
      rw [hSu.1.1.na, ha8.1, nI_leI (by omega) (by omega)]
      refine ⟨fun z3 => ?_, fun z3 => ?_⟩
      · have : j = nA K := by omega
        subst this
        rw [nI_1]
        exact ih1 (nA K - (t + 1)) _ (by omega) ⟨t + 1, S1, rfl, by omega, ag, hSu, rfl, rfl, rnO_s hI hrn hrd⟩
      · refine s_trait 3 rfl hSu.1.1 hI (by omega) (by omega) ?_
        have nx : rnd K (fun a => hold K L a d0) S S1 (j + 1) → KK2 (υ', bits S1 (nA K), nI j + 1) := by
          intro hr'
          rw [nI_1]
          exact ih2 (nA K - (j + 1)) _ (by omega) ⟨j + 1, S1, rfl, by omega, rfl, rfl, rfl, hr'⟩
        rw [bits_bit _ (by omega) (by omega), decide_eq_true (show j < nA K by omega), Bool.true_and]
        refine br0 (fun hs => nx (rnd_keep hI hrd (fun hp => by rw [hp.1] at hs; simp at hs))) (fun hs => ?_)
        have j116 : (∀ m, ndF K j = some m → S1 m = true) → w_Shar_deadBits_j116 T (fun σ a2 a3 => KK1 (σ, a2, a3)) (fun σ a2 a4 => KK2 (σ, a2, a4)) (fun r1 σ2 => post r1 σ2) υ' (bits (spk K) (nA K)) (bits S1 (nA K)) (nI t) (nI j) := by
          intro hnd
          unfold w_Shar_deadBits_j116
          intro v1 e1
          rw [bits_set (by omega) (by omega)] at e1
          rw [nI_1, e1]
          exact ih2 (nA K - (j + 1)) _ (by omega) ⟨j + 1, _, rfl, by omega, rfl, rfl, rfl, rnd_add hI (by omega) hrd ⟨hs, hnd⟩⟩
        refine ⟨fun z4 => j116 (fun m hm => by rw [(ndF_lt hI hm).2.2] at z4; exact absurd z4 (nI_m1 (by have := (ndF_lt hI hm).2.1; omega))), fun z4 => ?_⟩
        obtain ⟨m, hm, em⟩ := (hI.act (a := j) (by omega)).2.2.2.resolve_left z4
        have hnd : ndF K j = some m := by
          unfold ndF
          rw [if_neg (by rintro (w | w); omega; exact z4 w), em, nI_clamp (by omega)]
        rw [em, bits_bit _ (by omega) (by omega), decide_eq_true hm, Bool.true_and]
        refine br0 (fun hh => nx (rnd_keep hI hrd (fun hp => ?_))) (fun hh => j116 (fun m' hm' => by rw [hnd] at hm'; injection hm' with hm'; subst hm'; exact hh))
        have := hp.2 m hnd
        rw [hh] at this; simp at this
  · refine s_isSpeakable hSu (by omega) ?_
    intro υ1 ag1 hS1
    refine br0 (fun hb => ?_) (fun hb v16 e16 => ?_)
    · rw [nI_1]
      refine ih (nA K - (i + 1)) _ (by omega) ⟨i + 1, rfl, by omega, ag.trans ag1, hS1, rfl, ?_⟩
      simp [bits, hb]
    · rw [nI_1]
      refine ih (nA K - (i + 1)) _ (by omega) ⟨i + 1, rfl, by omega, ag.trans ag1, hS1, rfl, ?_⟩
      rw [e16]; simp [bits, hb]
end DEM
