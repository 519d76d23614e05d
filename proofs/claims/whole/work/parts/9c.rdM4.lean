/-! ===== the model reads a text, from the tape ===== -/
section RM4
variable {σ τ : DD} {N : Nat} {b : Nat → Nat} {sz : Nat} {o : Bool}
theorem rd_moreBad {q : Nat → Nat} {e : Nat} {x : Int32} {post : Int32 → DD → Prop} (hb : ¬ gI τ 0 21 = -1) (hq : gI τ 0 21 = nI (q e)) (hp : post 0 (sI τ 0 14 (nI (q e)))) : w_M_reads_l34 post τ x := by
  unfold w_M_reads_l34
  refine Loop.stop (fun K => ?_)
  unfold w_M_reads_b34 w_M_sign
  refine s_takes0 hb ⟨fun _ => s_fine0 hb ⟨fun _ => ?_, fun z => absurd rfl z⟩, fun z => absurd rfl z⟩
  unfold w_M_reads_j95
  intro σ6 e6
  have g : gI σ6 0 21 = nI (q e) := by rw [e6, gI_sI, if_neg (by omega)]; exact hq
  rw [hq] at e6
  rw [← e6] at hp
  exact s_fine0 (by rw [g, ← hq]; exact hb) ⟨Or.inl rfl, hp⟩
theorem tV_0 (i : Nat) : 0 ≤ tV b sz i := nI_pos' (by have := tV_rng (b := b) (sz := sz) i; omega)
theorem tC_0 (hN2 : ∀ i, N ≤ i → tP b sz i = sz) : ∀ k, N ≤ k → tC b sz k = 0 := fun k hk => by
  unfold tC cdT; rw [hN2 k hk, if_neg (Nat.lt_irrefl _)]
theorem s_reads {post : Int32 → DD → Prop} (hw : ∀ i, i < 129 → gI σ 8 i = nI (wL.getD i 0)) (hb : ∀ j, j < sz → b j < 256 ∧ gI σ 12 j = i2b (nI (b j))) (hsz : sz ≤ 400) (hs : gI σ 0 13 = nI sz) (hN : N ≤ sz) (hN1 : ∀ i, i < N → tP b sz i < sz) (hN2 : ∀ i, N ≤ i → tP b sz i = sz) (ho : gI σ 0 10 = bl o) (h8 : gI σ 0 8 = fw o) (h9 : gI σ 0 9 = lw o)
    (k0 : ∀ e, pAll o (tC b sz) (tV b sz) N = .inl e → e ≤ N → ∀ τ, Ag rdA σ τ → gI τ 0 13 = 0 → gI τ 0 14 = nI (tP b sz e) → post 0 τ)
    (k1 : ∀ cl, pAll o (tC b sz) (tV b sz) N = .inr cl → ∀ τ, Ag rdA σ τ → gI τ 0 13 = 0 → gI τ 0 14 = -1 → gI τ 0 18 = nI N → (∀ i, i ≤ N → tkR τ b sz i) → post 1 τ) : w_M_reads σ post := by
  unfold w_M_reads
  rw [hs]
  refine s_splits hw hb hsz hN hN1 hN2 (fun σ25 a25 g25 r25 => ?_)
  intro σ26 e26 σ28 e28 σ30 e30 σ32 e32
  have a32' : Ag (fun o k => o = 0 ∧ (k = 13 ∨ k = 19 ∨ k = 20 ∨ k = 21)) σ25 σ32 := by
    rw [e32, e30, e28, e26]; exact (((Ag.put (by omega)).set (by omega)).set (by omega)).set (by omega)
  have a32 : Ag rdA σ σ32 := (a25.mono (fun o k w => Or.inl w)).trans (a32'.mono (fun o k w => Or.inr (by omega)))
  have rows : ∀ i, i ≤ N → tkR σ32 b sz i := fun i hi => (r25 i hi).ag a32' (by omega) (by omega) (by omega)
  have hC : RC σ32 N (tC b sz) (tV b sz) (tP b sz) o := by
    refine ⟨by omega, fun i hi => ⟨(rows i hi).2.1, (rows i hi).2.2, (rows i hi).1, by have := tP_le (b := b) (sz := sz) i; omega⟩, tC_0 hN2, ?_, ?_⟩
    · rw [a32'.at _ _ (by omega), a25.at _ _ (by unfold spP; omega)]; exact h8
    · rw [a32'.at _ _ (by omega), a25.at _ _ (by unfold spP; omega)]; exact h9
  have hF : FA σ32 0 0 := by
    refine ⟨?_, ?_, ?_⟩
    · rw [e32, gI_same]
    · rw [e32, gI_sI, if_neg (by omega), e30, gI_sI, if_neg (by omega), e28, gI_same]; rfl
    · rw [e32, gI_sI, if_neg (by omega), e30, gI_same]; rfl
  have ho32 : gI σ32 0 10 = bl o := by rw [a32'.at _ _ (by omega), a25.at _ _ (by unfold spP; omega)]; exact ho
  have h13 : gI σ32 0 13 = 0 := by rw [e32, gI_sI, if_neg (by omega), e30, gI_sI, if_neg (by omega), e28, gI_sI, if_neg (by omega), e26, gI_same]
  have h18 : gI σ32 0 18 = nI N := by rw [a32'.at _ _ (by omega)]; exact g25
  have rp : ∀ τ, Ag rdP σ32 τ → ∀ x, Ag rdA σ (sI τ 0 14 x) ∧ gI (sI τ 0 14 x) 0 13 = 0 := by
    intro τ a x
    refine ⟨(a32.trans (a.mono (fun o k w => by unfold rdP at w; unfold rdA; omega))).set (by unfold rdA; omega), ?_⟩
    rw [gI_sI, if_neg (by omega), a.at _ _ (by unfold rdP; omega)]; exact h13
  have fin1 : ∀ cl, pAll o (tC b sz) (tV b sz) N = .inr cl → ∀ τ, Ag rdP σ32 τ → post 1 (sI τ 0 14 (-1)) := by
    intro cl h τ a
    refine k1 cl h _ (rp τ a _).1 (rp τ a _).2 gI_same ?_ (fun i hi => ?_)
    · rw [gI_sI, if_neg (by omega), a.at _ _ (by unfold rdP; omega)]; exact h18
    · have := (rows i hi).ag a (by unfold rdP; omega) (by unfold rdP; omega) (by unfold rdP; omega)
      exact this.ag (P := fun o k => o = 0 ∧ k = 14) (Ag.put ⟨rfl, rfl⟩) (by omega) (by omega) (by omega)
  have fin0 : ∀ e, pAll o (tC b sz) (tV b sz) N = .inl e → e ≤ N → ∀ τ, Ag rdP σ32 τ → post 0 (sI τ 0 14 (nI (tP b sz e))) := fun e h he τ a => k0 e h he _ (rp τ a _).1 (rp τ a _).2 gI_same
  refine rd_one tV_0 hC ho32 hF (Nat.zero_le _) (by decide) (fun e h2 he τ a bq => ?_) (fun j l' D h2 q1 q2 q3 τ a f => ?_)
  · exact rd_moreBad (q := tP b sz) (e := e) (by rw [bq]; exact hC.bad he) bq (fin0 e (by unfold pAll; rw [h2]) he τ a)
  · refine rd_more (n := 11) tV_0 (hC.ag a) (by rw [a.at _ _ (by unfold rdP; omega)]; exact ho32) (by rw [a.at _ _ (by unfold rdP; omega)]; exact h18) (by decide) q2 q3 f (fun e h3 he τ2 a2 b2 => ?_) (fun xs h3 τ2 a2 b2 => ?_)
    · exact fin0 e (by unfold pAll; rw [h2]; simp only []; rw [h3]) he τ2 (a.trans a2)
    · exact fin1 (D :: xs) (by unfold pAll; rw [h2]; simp only []; rw [h3]) τ2 (a.trans a2)
theorem s_readsAs {post : Int32 → DD → Prop} (hw : ∀ i, i < 129 → gI σ 8 i = nI (wL.getD i 0)) (hb : ∀ j, j < sz → b j < 256 ∧ gI σ 12 j = i2b (nI (b j))) (hsz : sz ≤ 400) (hs : gI σ 0 13 = nI sz) (hN : N ≤ sz) (hN1 : ∀ i, i < N → tP b sz i < sz) (hN2 : ∀ i, N ≤ i → tP b sz i = sz)
    (k0 : ∀ e, pAll o (tC b sz) (tV b sz) N = .inl e → e ≤ N → ∀ τ, Ag rdA σ τ → gI τ 0 13 = 0 → gI τ 0 14 = nI (tP b sz e) → post 0 τ)
    (k1 : ∀ cl, pAll o (tC b sz) (tV b sz) N = .inr cl → ∀ τ, Ag rdA σ τ → gI τ 0 13 = 0 → gI τ 0 14 = -1 → gI τ 0 18 = nI N → (∀ i, i ≤ N → tkR τ b sz i) → post 1 τ) : w_M_readsAs σ (bl o) post := by
  have go : ∀ σ1, σ1 = sI (sI (sI σ 0 10 (bl o)) 0 8 (fw o)) 0 9 (lw o) → w_M_reads σ1 (fun r3 σ4 => bz r3 ∧ post r3 σ4) := by
    intro σ1 e1
    have a1 : Ag (fun o k => o = 0 ∧ (k = 8 ∨ k = 9 ∨ k = 10)) σ σ1 := by rw [e1]; exact ((Ag.put (by omega)).set (by omega)).set (by omega)
    have aA : Ag rdA σ σ1 := a1.mono (fun o k w => by unfold rdA; omega)
    refine s_reads (N := N) (o := o) (fun i hi => by rw [a1.at _ _ (by omega)]; exact hw i hi) (fun j hj => ⟨(hb j hj).1, by rw [a1.at _ _ (by omega)]; exact (hb j hj).2⟩) hsz (by rw [a1.at _ _ (by omega)]; exact hs) hN hN1 hN2 ?_ ?_ ?_ (fun e h he τ a x1 x2 => ⟨Or.inl rfl, k0 e h he τ (aA.trans a) x1 x2⟩) (fun cl h τ a x1 x2 x3 x4 => ⟨Or.inr rfl, k1 cl h τ (aA.trans a) x1 x2 x3 x4⟩)
    · rw [e1, gI_sI, if_neg (by omega), gI_sI, if_neg (by omega), gI_same]
    · rw [e1, gI_sI, if_neg (by omega), gI_same]
    · rw [e1, gI_same]
  unfold w_M_readsAs
  refine ⟨bl_z o, fun σ9 e9 => ?_⟩
  cases o with
  | false =>
    refine ⟨fun _ => ?_, fun z => absurd rfl z⟩
    unfold w_M_readsAs_j17
    intro σ5 e5
    refine ⟨fun _ => ?_, fun z => absurd rfl z⟩
    unfold w_M_readsAs_j32
    intro σ1 e1
    exact go σ1 (by rw [e1, e5, e9]; rfl)
  | true =>
    refine ⟨fun z => absurd z (by decide), fun _ => ?_⟩
    unfold w_M_readsAs_j17
    intro σ5 e5
    refine ⟨fun z => absurd z (by decide), fun _ => ?_⟩
    unfold w_M_readsAs_j32
    intro σ1 e1
    exact go σ1 (by rw [e1, e5, e9]; rfl)
/-- the tokens are laid down in the kept row -/
theorem s_lays {f : Nat} {post : DD → Prop} (hf : f ≤ 6) (hN : N ≤ 400) (h18 : gI σ 0 18 = nI N) (hr : ∀ i, i ≤ N → tkR σ b sz i) (k : ∀ τ, Ag (fun o p => o = 4 ∧ (p = 405 + f ∨ (412 + 400 * f ≤ p ∧ p < 412 + 400 * f + 400) ∨ (3212 + 400 * f ≤ p ∧ p < 3212 + 400 * f + 400))) σ τ → gI τ 4 (405 + f) = nI N → (∀ i, i < N → gI τ 4 (412 + (400 * f + i)) = tC b sz i ∧ gI τ 4 (3212 + (400 * f + i)) = tV b sz i) → post τ) : w_M_lays σ (nI f) post := by
  unfold w_M_lays
  rw [show (405 : Int32) = nI 405 from rfl, nI_add', nI_clamp (by omega), h18]
  refine ⟨vp_in_nI (by omega) (by decide), fun σ10 e10 => ?_⟩
  unfold w_M_lays_l16
  have a10 : Ag (fun o p => o = 4 ∧ (p = 405 + f ∨ (412 + 400 * f ≤ p ∧ p < 412 + 400 * f + 400) ∨ (3212 + 400 * f ≤ p ∧ p < 3212 + 400 * f + 400))) σ σ10 := by rw [e10]; exact Ag.put (by omega)
  refine LoopN (fun m y => ∃ i, m = N - i ∧ i ≤ N ∧ y.2 = nI i ∧ Ag (fun o p => o = 4 ∧ (p = 405 + f ∨ (412 + 400 * f ≤ p ∧ p < 412 + 400 * f + 400) ∨ (3212 + 400 * f ≤ p ∧ p < 3212 + 400 * f + 400))) σ y.1 ∧ gI y.1 4 (405 + f) = nI N ∧ ∀ j, j < i → gI y.1 4 (412 + (400 * f + j)) = tC b sz j ∧ gI y.1 4 (3212 + (400 * f + j)) = tV b sz j) ?_ (n := N) ⟨0, rfl, Nat.zero_le _, rfl, a10, by rw [e10, gI_same], fun j hj => absurd hj (Nat.not_lt_zero _)⟩
  rintro m ⟨υ, a2⟩ K ⟨i, hm, hi, e2, ag, g405, hrow⟩ ih
  simp only [] at e2 ag g405 hrow ⊢
  subst e2
  unfold w_M_lays_b16
  rw [ag.at 0 18 (by omega), h18, nI_leI (by omega) (by omega)]
  refine ⟨fun z => k υ ag g405 (fun j hj => hrow j (by omega)), fun z => ?_⟩
  have hti := hr i hi
  have E1 : (412 : Int32) + 400 * nI f + nI i = nI (412 + (400 * f + i)) := by
    rw [show (412 : Int32) = nI 412 from rfl, show (400 : Int32) = nI 400 from rfl, pk_mul, nI_add', nI_add', Nat.add_assoc]
  have E2 : (3212 : Int32) + 400 * nI f + nI i = nI (3212 + (400 * f + i)) := by
    rw [show (3212 : Int32) = nI 3212 from rfl, show (400 : Int32) = nI 400 from rfl, pk_mul, nI_add', nI_add', Nat.add_assoc]
  rw [E1, E2, nI_clamp (by omega), nI_clamp (by omega), nI_clamp (by omega), ag.at 16 i (by omega), hti.2.1]
  refine ⟨vp_in_nI (by omega) (by decide), vp_in_nI (by omega) (by decide), fun σ3 e3 => ⟨vp_in_nI (by omega) (by decide), vp_in_nI (by omega) (by decide), fun σ7 e7 => ?_⟩⟩
  have g17 : gI σ3 17 i = tV b sz i := by rw [e3, gI_sI, if_neg (by omega), ag.at 17 i (by omega)]; exact hti.2.2
  rw [g17] at e7
  rw [nI_1]
  refine ih (N - (i + 1)) _ (by omega) ⟨i + 1, rfl, by omega, rfl, ?_, ?_, fun j hj => ?_⟩
  · simp only []; rw [e7, e3]; exact (ag.set (by omega)).set (by omega)
  · simp only []; rw [e7, gI_sI, if_neg (by omega), e3, gI_sI, if_neg (by omega)]; exact g405
  · simp only []
    by_cases ej : j = i
    · subst ej
      refine ⟨?_, ?_⟩
      · rw [e7, gI_sI, if_neg (by omega), e3, gI_same]
      · rw [e7, gI_same]
    · have := hrow j (by omega)
      refine ⟨?_, ?_⟩
      · rw [e7, gI_sI, if_neg (by omega), e3, gI_sI, if_neg (by omega)]; exact this.1
      · rw [e7, gI_sI, if_neg (by omega), e3, gI_sI, if_neg (by omega)]; exact this.2
end RM4
