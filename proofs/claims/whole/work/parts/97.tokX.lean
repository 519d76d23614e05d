/-! ===== tokens, of the class ===== -/
def tE (b : Nat → Nat) (sz p : Nat) : Nat := if p < sz then stq b sz p else p
def tS (b : Nat → Nat) (sz p : Nat) : Nat := if p < sz then srt (b p) else 3
def TB (x : DD) (b : Nat → Nat) (sz : Nat) : Prop := sz ≤ 400 ∧ gI x 20 1 = nI sz ∧ ∀ j, j < sz → b j < 256 ∧ gI x 21 j = nI (b j)
def TAt (x : DD) (b : Nat → Nat) (sz p : Nat) : Prop := gI x 20 2 = nI p ∧ gI x 20 3 = nI (tE b sz p) ∧ gI x 20 4 = nI (tS b sz p)
def TA (x : DD) (b : Nat → Nat) (sz i : Nat) : Prop := TB x b sz ∧ TAt x b sz (tP b sz i)
def tpQ (o p : Nat) : Prop := o = 20 ∧ (p = 2 ∨ p = 3 ∨ p = 4)
theorem cz_n {n : Nat} (h : n < 256) : cz (nI n) := co_dec (N := 256) (P := fun n => narrow .char (.int (nI n)) = .int (nI n)) (by decide +kernel) h
section TX
variable {σ τ : DD} {T : TXT} {b : Nat → Nat} {sz : Nat}
theorem TB.ag {P : Nat → Nat → Prop} {Q : Nat → Prop} (h : TB σ b sz) (a : AgX P Q σ τ) (h1 : ¬ P 20 1) (h2 : ∀ p, ¬ P 21 p) : TB τ b sz := by
  refine ⟨h.1, ?_, fun j hj => ⟨(h.2.2 j hj).1, ?_⟩⟩
  · rw [a.i _ _ h1]; exact h.2.1
  · rw [a.i _ _ (h2 j)]; exact (h.2.2 j hj).2
theorem TAt.ag {P : Nat → Nat → Prop} {Q : Nat → Prop} {p : Nat} (h : TAt σ b sz p) (a : AgX P Q σ τ) (h2 : ¬ P 20 2) (h3 : ¬ P 20 3) (h4 : ¬ P 20 4) : TAt τ b sz p := by
  unfold TAt; rw [a.i _ _ h2, a.i _ _ h3, a.i _ _ h4]; exact h
theorem TA.ag {P : Nat → Nat → Prop} {Q : Nat → Prop} {i : Nat} (h : TA σ b sz i) (a : AgX P Q σ τ) (h2 : ∀ p, ¬ P 20 p) (h3 : ∀ p, ¬ P 21 p) : TA τ b sz i := ⟨h.1.ag a (h2 1) h3, h.2.ag a (h2 2) (h2 3) (h2 4)⟩
theorem s_sortOf {n : Nat} {post : Int32 → DD → Prop} (h : n < 256) (k : post (nI (srt n)) σ) : w_Tape_sortOf T σ (nI n) post := by
  have q : (nI n < 97 ∨ 122 < nI n ↔ ¬ srt n = 0) ∧ (nI n < 48 ∨ 57 < nI n ↔ ¬ srt n = 1) := co_dec (N := 256) (P := fun n => (nI n < 97 ∨ 122 < nI n ↔ ¬ srt n = 0) ∧ (nI n < 48 ∨ 57 < nI n ↔ ¬ srt n = 1)) (by decide +kernel) h
  have j14 : ¬ srt n = 0 → w_Tape_sortOf_j14 T post σ (nI n) := by
    intro z
    unfold w_Tape_sortOf_j14
    by_cases c : srt n = 1
    · rw [c] at k
      have : ¬ (nI n < 48 ∨ 57 < nI n) := fun z => q.2.1 z c
      exact ⟨fun w => absurd (Or.inl w) this, fun _ => ⟨fun w => absurd (Or.inr w) this, fun _ => k⟩⟩
    · have c2 : srt n = 2 := by rcases srt_3 n with w | w | w; exact absurd w z; exact absurd w c; exact w
      rw [c2] at k
      have := q.2.2 c
      exact ⟨fun _ => k, fun w => ⟨fun _ => k, fun w2 => by rcases this with u | u; exact absurd u w; exact absurd u w2⟩⟩
  unfold w_Tape_sortOf
  by_cases c : srt n = 0
  · rw [c] at k
    have : ¬ (nI n < 97 ∨ 122 < nI n) := fun z => q.1.1 z c
    exact ⟨fun w => absurd (Or.inl w) this, fun _ => ⟨fun w => absurd (Or.inr w) this, fun _ => k⟩⟩
  · have := q.1.2 c
    exact ⟨fun _ => j14 c, fun w => ⟨fun _ => j14 c, fun w2 => by rcases this with u | u; exact absurd u w; exact absurd u w2⟩⟩
theorem adv_run {p : Nat} {post : DD → Prop} (hB : TB σ b sz) (hp : p < sz) (h2 : gI σ 20 2 = nI p) (h3 : gI σ 20 3 = nI (p + 1)) (h4 : gI σ 20 4 = nI (srt (b p))) (k : ∀ τ, AgX (fun o p => o = 20 ∧ p = 3) (fun _ => False) σ τ → gI τ 20 3 = nI (stq b sz p) → post τ) : w_Tape_advance_l97 T post σ := by
  have hsz := hB.1
  have s3 := srt_3 (b p)
  unfold w_Tape_advance_l97
  refine LoopN (fun c y => ∃ q, c = sz - q ∧ q ≤ sz ∧ p < q ∧ AgX (fun o p => o = 20 ∧ p = 3) (fun _ => False) σ y ∧ gI y 20 3 = nI q ∧ (srt (b p) = 2 → q = p + 1) ∧ rn b sz (srt (b p)) q = rn b sz (srt (b p)) (p + 1)) ?_ (n := sz - (p + 1)) ⟨p + 1, rfl, by omega, by omega, AgX.refl σ, h3, fun _ => rfl, rfl⟩
  rintro c υ KK ⟨q, hc, hq, hpq, ag, g3, h2', hr⟩ ih
  have hBu := hB.ag ag (by omega) (by omega)
  unfold w_Tape_advance_b97
  have g4 : gI υ 20 4 = nI (srt (b p)) := by rw [ag.i _ _ (by omega)]; exact h4
  rw [g4, hBu.2.1, g3, show (2 : Int32) = nI 2 from rfl, nI_eq (by omega) (by decide), nI_leI (by omega) (by omega), nI_clamp (by omega)]
  refine ⟨fun z => k υ ag ?_, fun z => ⟨fun z2 => k υ ag ?_, fun z2 => ?_⟩⟩
  · rw [g3]; unfold stq; rw [if_pos z, h2' z]
  · rw [g3]; unfold stq; rw [if_neg z, ← hr, rn_0 (Or.inl z2)]
  · have bq := hBu.2.2 q (by omega)
    rw [bq.2]
    refine ⟨vp_in_nI (by omega) (by decide), s_sortOf bq.1 ?_⟩
    have sq := srt_3 (b q)
    rw [g4, nI_eq (by omega) (by omega)]
    refine ⟨fun z3 => k υ ag ?_, fun z3 σ7 e7 => ?_⟩
    · rw [g3]; unfold stq; rw [if_neg z, ← hr, rn_0 (Or.inr z3)]
    · rw [g3, nI_1] at e7
      subst e7
      exact ih (sz - (q + 1)) _ (by omega) ⟨q + 1, rfl, by omega, by omega, ag.set ⟨rfl, rfl⟩, gI_same, fun z4 => absurd z4 z, by rw [← rn_1 (by omega) z3]; exact hr⟩
theorem adv_at {p : Nat} {post : DD → Prop} (hB : TB σ b sz) (hp : p ≤ sz) (h2 : gI σ 20 2 = nI p) (k : ∀ τ, AgX tpQ (fun _ => False) σ τ → TAt τ b sz p → post τ) : w_Tape_advance_j46 T post σ := by
  have hsz := hB.1
  unfold w_Tape_advance_j46
  intro σ9 e9
  rw [h2] at e9
  have a9 : AgX tpQ (fun _ => False) σ σ9 := by rw [e9]; exact AgX.put (by unfold tpQ; omega)
  have hB9 := hB.ag a9 (by unfold tpQ; omega) (fun p => by unfold tpQ; omega)
  have g2 : gI σ9 20 2 = nI p := by rw [e9, gI_sI, if_neg (by omega)]; exact h2
  have g3 : gI σ9 20 3 = nI p := by rw [e9, gI_same]
  rw [g2, hB9.2.1, nI_ltI (by omega) (by omega), nI_clamp (by omega)]
  refine ⟨fun z => ?_, fun z σ19 e19 => ?_⟩
  · have bp := hB9.2.2 p z
    rw [bp.2]
    refine ⟨vp_in_nI (by omega) (by decide), s_sortOf bp.1 (fun σ15 e15 σ17 e17 => ?_)⟩
    have g15 : gI σ15 20 3 = nI p := by rw [e15, gI_sI, if_neg (by omega)]; exact g3
    rw [g15, nI_1] at e17
    have a17 : AgX tpQ (fun _ => False) σ σ17 := by rw [e17, e15]; exact (a9.set (by unfold tpQ; omega)).set (by unfold tpQ; omega)
    have k2 : gI σ17 20 2 = nI p := by rw [e17, gI_sI, if_neg (by omega), e15, gI_sI, if_neg (by omega)]; exact g2
    have k4 : gI σ17 20 4 = nI (srt (b p)) := by rw [e17, gI_sI, if_neg (by omega), e15, gI_same]
    refine adv_run (hB.ag a17 (by unfold tpQ; omega) (fun p => by unfold tpQ; omega)) z k2 (by rw [e17, gI_same]) k4 (fun τ at' ht => ?_)
    refine k τ (a17.trans (at'.mono (fun o p w => by unfold tpQ; omega) (fun _ w => w))) ⟨?_, ?_, ?_⟩
    · rw [at'.i _ _ (by omega)]; exact k2
    · rw [ht]; unfold tE; rw [if_pos z]
    · rw [at'.i _ _ (by omega), k4]; unfold tS; rw [if_pos z]
  · refine k σ19 ?_ ⟨?_, ?_, ?_⟩
    · rw [e19]; exact a9.set (by unfold tpQ; omega)
    · rw [e19, gI_sI, if_neg (by omega)]; exact g2
    · rw [e19, gI_sI, if_neg (by omega), g3]; unfold tE; rw [if_neg z]
    · rw [e19, gI_same]; unfold tS; rw [if_neg z]; rfl
theorem adv_k {p : Nat} {post : DD → Prop} (hB : TB σ b sz) (hp : p ≤ sz) (h3 : gI σ 20 3 = nI p) (k : ∀ τ, AgX tpQ (fun _ => False) σ τ → TAt τ b sz (skp b sz p) → post τ) : w_Tape_advance T σ post := by
  have hsz := hB.1
  unfold w_Tape_advance
  intro σ26 e26
  rw [h3] at e26
  have a26 : AgX tpQ (fun _ => False) σ σ26 := by rw [e26]; exact AgX.put (by unfold tpQ; omega)
  unfold w_Tape_advance_l8
  refine LoopN (fun c y => ∃ q, c = sz - q ∧ q ≤ sz ∧ AgX tpQ (fun _ => False) σ y ∧ gI y 20 2 = nI q ∧ skp b sz q = skp b sz p) ?_ (n := sz - p) ⟨p, rfl, hp, a26, by rw [e26, gI_same], rfl⟩
  rintro c υ KK ⟨q, hc, hq, ag, g2, hs⟩ ih
  have hBu := hB.ag ag (by unfold tpQ; omega) (fun p => by unfold tpQ; omega)
  have fin : (sz ≤ q ∨ ¬ b q = 32) → w_Tape_advance_j46 T post υ := by
    intro hf
    refine adv_at hBu hq g2 (fun τ a1 a2 => k τ (ag.trans a1) ?_)
    rw [← hs, skp_0 hf]; exact a2
  unfold w_Tape_advance_b8
  rw [hBu.2.1, g2, nI_leI (by omega) (by omega), nI_clamp (by omega)]
  refine ⟨fun z => fin (Or.inl z), fun z => ?_⟩
  have bq := hBu.2.2 q (by omega)
  rw [bq.2, show (32 : Int32) = nI 32 from rfl, nI_eq (by omega) (by decide)]
  refine ⟨vp_in_nI (by omega) (by decide), fun z2 => fin (Or.inr z2), fun z2 σ24 e24 => ?_⟩
  rw [nI_1] at e24
  subst e24
  exact ih (sz - (q + 1)) _ (by omega) ⟨q + 1, rfl, by omega, ag.set (by unfold tpQ; omega), gI_same, by rw [← skp_1 (by omega) z2]; exact hs⟩
theorem s_advance {i : Nat} {post : DD → Prop} (hA : TA σ b sz i) (k : ∀ τ, AgX tpQ (fun _ => False) σ τ → TA τ b sz (i + 1) → post τ) : w_Tape_advance T σ post := by
  have hle := tP_le (b := b) (sz := sz) i
  refine adv_k hA.1 (p := tE b sz (tP b sz i)) ?_ hA.2.2.1 (fun τ a1 a2 => k τ a1 ⟨hA.1.ag a1 (by unfold tpQ; omega) (fun p => by unfold tpQ; omega), ?_⟩)
  · unfold tE
    by_cases c : tP b sz i < sz
    · rw [if_pos c]; exact (stq_rng c).2.1
    · rw [if_neg c]; exact hle
  · by_cases c : tP b sz i < sz
    · rw [tP_s c]
      unfold tE at a2
      rw [if_pos c] at a2; exact a2
    · rw [tP_end (i := i) (by omega) (i + 1) (by omega)]
      unfold tE at a2
      rw [if_neg c, skp_0 (Or.inl (by omega)), show tP b sz i = sz by omega] at a2
      exact a2
theorem s_rewind {post : DD → Prop} (hB : TB σ b sz) (k : ∀ τ, AgX tpQ (fun _ => False) σ τ → TA τ b sz 0 → post τ) : w_Tape_rewind T σ post := by
  unfold w_Tape_rewind
  intro σ1 e1
  have a1 : AgX tpQ (fun _ => False) σ σ1 := by rw [e1]; exact AgX.put (by unfold tpQ; omega)
  have hB1 := hB.ag a1 (by unfold tpQ; omega) (fun p => by unfold tpQ; omega)
  refine adv_k hB1 (Nat.zero_le _) (by rw [e1, gI_same]; rfl) (fun τ a2 a3 => k τ (a1.trans a2) ⟨hB1.ag a2 (by unfold tpQ; omega) (fun p => by unfold tpQ; omega), a3⟩)
end TX
