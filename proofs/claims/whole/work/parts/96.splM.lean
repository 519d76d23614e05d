/-! ===== tokens: the model splits a text ===== -/
def spP (o p : Nat) : Prop := o = 16 ∨ o = 17 ∨ o = 18 ∨ (o = 0 ∧ p = 18)
def tkR (σ : DD) (b : Nat → Nat) (sz i : Nat) : Prop := gI σ 18 i = nI (tP b sz i) ∧ gI σ 16 i = tC b sz i ∧ gI σ 17 i = tV b sz i
section TM2
variable {σ τ : DD} {b : Nat → Nat} {sz : Nat}
theorem tkR.ag {P : Nat → Nat → Prop} {i : Nat} (h : tkR σ b sz i) (a : Ag P σ τ) (h6 : ¬ P 16 i) (h7 : ¬ P 17 i) (h8 : ¬ P 18 i) : tkR τ b sz i := by
  unfold tkR; rw [a.at _ _ h8, a.at _ _ h6, a.at _ _ h7]; exact h
/-- the value is read -/
theorem spl_val {K7 : DD → Int32 → Prop} {post : DD → Prop} {i k e : Nat} (hb : ∀ j, j < sz → b j < 256 ∧ gI σ 12 j = i2b (nI (b j))) (hsz : sz ≤ 400) (hk : k < e) (he : e ≤ sz) (hi : i ≤ 400) (hl : ∀ j, k ≤ j → j < e → srt (b j) = srt (b k)) (h18 : gI σ 0 18 = nI i) (h17 : gI σ 17 i = 0) (kk : ∀ τ, Ag (fun o p => o = 17 ∧ p = i) σ τ → gI τ 17 i = nI (if srt (b k) = 1 then vN b k (e - k) else 0) → K7 (sI τ 0 18 (nI (i + 1))) (nI e)) : w_M_splits_l169 K7 post σ (nI sz) (i2b (nI (b k))) (nI e) (nI k) := by
  unfold w_M_splits_l169
  refine LoopN (fun c y => ∃ q, c = e - k - q ∧ q ≤ e - k ∧ Ag (fun o p => o = 17 ∧ p = i) σ y.1 ∧ gI y.1 17 i = nI (vN b k q) ∧ y.2 = nI (k + q) ∧ (¬ srt (b k) = 1 → q = 0)) ?_ (n := e - k) ⟨0, rfl, Nat.zero_le _, Ag.refl σ, h17, rfl, fun _ => rfl⟩
  rintro c ⟨υ, a5⟩ KK ⟨q, hc, hq, ag, hv, e5, hz⟩ ih
  simp only [] at ag hv e5 ⊢
  subst e5
  have g18 : gI υ 0 18 = nI i := by rw [ag.at _ _ (by omega)]; exact h18
  have fin : (q = e - k ∨ ¬ srt (b k) = 1) → w_M_splits_j247 K7 post υ (nI sz) (nI e) := by
    intro hf
    unfold w_M_splits_j247
    intro σ4 e4
    rw [g18, nI_1] at e4
    subst e4
    refine kk υ ag ?_
    rw [hv]
    congr 1
    by_cases c1 : srt (b k) = 1
    · rw [if_pos c1]
      rcases hf with h | h
      · rw [h]
      · exact absurd c1 h
    · rw [if_neg c1, hz c1]; rfl
  unfold w_M_splits_b169
  rw [nI_leI (by omega) (by omega)]
  have bk := (hb k (by omega)).1
  refine ⟨fun z => fin (Or.inl (by omega)), fun z => s_isDigit bk (br0 (fun z2 => fin (Or.inr (of_decide_eq_false z2))) (fun z2 => ?_))⟩
  have c1 := of_decide_eq_true z2
  have sq := hl (k + q) (by omega) (by omega)
  rw [c1] at sq
  have dq := srt_1.1 sq
  have dall : ∀ j, j < q → 48 ≤ b (k + j) ∧ b (k + j) ≤ 57 := fun j hj => srt_1.1 ((hl (k + j) (by omega) (by omega)).trans c1)
  have vlt := vN_lt (b := b) (p := k) q dall
  rw [g18, nI_clamp (by omega), nI_clamp (by omega), hv, ag.at 12 _ (by omega), (hb (k + q) (by omega)).2, let_b (n := b (k + q)) (by omega), show (1000000 : Int32) = nI 1000000 from rfl, nI_leI (by omega) (by decide)]
  have vi : vp_in (nI i) 401 := vp_in_nI (by omega) (by decide)
  have next : ∀ v, nI (vN b k (q + 1)) = v → w_M_splits_j240 K7 (fun σ a5 => KK (σ, a5)) post υ (nI sz) (i2b (nI (b k))) (nI e) (nI (k + q)) (nI i) v := by
    intro v hv2
    unfold w_M_splits_j240
    refine ⟨vi, fun σ1 e1 => ?_⟩
    rw [nI_clamp (by omega)] at e1
    subst e1
    rw [nI_1]
    exact ih (e - k - (q + 1)) _ (by omega) ⟨q + 1, rfl, by omega, ag.set ⟨rfl, rfl⟩, by simp only []; rw [gI_same, hv2], rfl, fun z3 => absurd c1 z3⟩
  have vs : vN b k (q + 1) = if vN b k q ≤ 1000000 then 10 * vN b k q + b (k + q) - 48 else vN b k q := rfl
  refine ⟨vi, fun z3 => ⟨vi, vp_in_nI (by omega) (by decide), next _ ?_⟩, fun z3 => ⟨vi, next _ ?_⟩⟩
  · rw [vs, if_pos z3, show (10 : Int32) = nI 10 from rfl, pk_mul, nI_add', show (48 : Int32) = nI 48 from rfl, nI_sub (by omega)]
  · rw [vs, if_neg z3]
/-- a token is laid -/
theorem spl_tok {K7 : DD → Int32 → Prop} {post : DD → Prop} {i k e : Nat} (hw : ∀ i, i < 129 → gI σ 8 i = nI (wL.getD i 0)) (hb : ∀ j, j < sz → b j < 256 ∧ gI σ 12 j = i2b (nI (b j))) (hsz : sz ≤ 400) (hks : k < sz) (he : e = stq b sz k) (hi : i ≤ 400) (hP : tP b sz i = k) (h18 : gI σ 0 18 = nI i) (kk : ∀ τ, Ag (fun o p => (o = 17 ∧ p = i) ∨ (o = 16 ∧ p = i) ∨ (o = 18 ∧ p = i) ∨ (o = 0 ∧ p = 18)) σ τ → gI τ 0 18 = nI (i + 1) → tkR τ b sz i → K7 τ (nI e)) : w_M_splits_j100 K7 post σ (nI sz) (nI k) (i2b (nI (b k))) (nI e) := by
  have hr := stq_rng (b := b) hks
  rw [← he] at hr
  have bk := (hb k hks).1
  unfold w_M_splits_j100
  have vi : vp_in (nI i) 401 := vp_in_nI (by omega) (by decide)
  rw [h18, nI_clamp (by omega)]
  refine ⟨vi, fun σ18 e18 => ?_⟩
  have g18 : gI σ18 0 18 = nI i := by rw [e18, gI_sI, if_neg (by omega)]; exact h18
  rw [g18, nI_clamp (by omega)]
  refine ⟨vi, fun σ21 e21 => ?_⟩
  have g21 : gI σ21 0 18 = nI i := by rw [e21, gI_sI, if_neg (by omega)]; exact g18
  have ag21 : Ag (fun o p => (o = 17 ∧ p = i) ∨ (o = 16 ∧ p = i) ∨ (o = 18 ∧ p = i) ∨ (o = 0 ∧ p = 18)) σ σ21 := by
    rw [e21, e18]; exact (Ag.put (by omega)).set (by omega)
  rw [g21]
  have go : tC b sz i = (if srt (b k) = 0 then nI (wxF wds 1 (tkW b k e)) else if srt (b k) = 1 then 50 else nI (100 + b k)) := by
    unfold tC cdT; rw [hP, if_pos hks, he]
  have vv : tV b sz i = nI (if srt (b k) = 1 then vN b k (e - k) else 0) := by
    unfold tV vlT
    rw [hP, he]
    congr 1
    by_cases c : srt (b k) = 1
    · rw [if_pos ⟨hks, c⟩, if_pos c]
    · rw [if_neg (fun z => c z.2), if_neg c]
  have lay : w_M_splits_j165 K7 post σ21 (nI sz) (nI k) (i2b (nI (b k))) (nI e) (nI i) (tC b sz i) := by
    unfold w_M_splits_j165
    refine ⟨vi, fun σ15 e15 => ?_⟩
    rw [nI_clamp (by omega)] at e15
    have ag15 : Ag (fun o p => (o = 17 ∧ p = i) ∨ (o = 16 ∧ p = i) ∨ (o = 18 ∧ p = i) ∨ (o = 0 ∧ p = 18)) σ σ15 := by rw [e15]; exact ag21.set (by omega)
    refine spl_val (fun j hj => ⟨(hb j hj).1, by rw [ag15.at _ _ (by omega)]; exact (hb j hj).2⟩) hsz hr.1 hr.2.1 hi hr.2.2 (by rw [e15, gI_sI, if_neg (by omega)]; exact g21) (by rw [e15, gI_sI, if_neg (by omega), e21, gI_same]) (fun τ agt ht => ?_)
    refine kk _ ((ag15.trans (agt.mono (fun o p z => by omega))).set (by omega)) gI_same ?_
    refine ⟨?_, ?_, ?_⟩
    · rw [gI_sI, if_neg (by omega), agt.at _ _ (by omega), e15, gI_sI, if_neg (by omega), e21, gI_sI, if_neg (by omega), e18, gI_same, hP]
    · rw [gI_sI, if_neg (by omega), agt.at _ _ (by omega), e15, gI_same]
    · rw [gI_sI, if_neg (by omega), ht, vv]
  refine s_isSmall bk (br0 (fun z => s_isDigit bk (br0 (fun z2 => ?_) (fun z2 => ?_))) (fun z => ?_))
  · rw [(sgn_b bk).2.2.2]
    rw [go, if_neg (of_decide_eq_false z), if_neg (of_decide_eq_false z2)] at lay
    exact lay
  · rw [go, if_neg (of_decide_eq_false z), if_pos (of_decide_eq_true z2)] at lay
    exact lay
  · have z0 := of_decide_eq_true z
    rw [go, if_pos z0] at lay
    exact s_wordOf (b := b) (sz := sz) (fun j hj => by rw [ag21.at _ _ (by omega)]; exact hw j hj) (fun j hj => ⟨(hb j hj).1, by rw [ag21.at _ _ (by omega)]; exact (hb j hj).2⟩) hsz hr.1 hr.2.1 (fun j h1 h2 => srt_0.1 ((hr.2.2 j h1 h2).trans z0)) lay
theorem spl_small {K7 : DD → Int32 → Prop} {post : DD → Prop} {k : Nat} (hb : ∀ j, j < sz → b j < 256 ∧ gI σ 12 j = i2b (nI (b j))) (hsz : sz ≤ 400) (hks : k < sz) (kk : w_M_splits_j68 K7 post σ (nI sz) (nI k) (i2b (nI (b k))) (nI (rn b sz 0 (k + 1)))) : w_M_splits_l43 K7 post σ (nI sz) (nI k) (i2b (nI (b k))) (nI (k + 1)) := by
  unfold w_M_splits_l43
  refine LoopN (fun c y => ∃ q, c = sz - q ∧ q ≤ sz ∧ y.1 = σ ∧ y.2 = nI q ∧ rn b sz 0 q = rn b sz 0 (k + 1)) ?_ (n := sz - (k + 1)) ⟨k + 1, rfl, by omega, rfl, rfl, rfl⟩
  rintro c ⟨υ, a4⟩ KK ⟨q, hc, hq, e1, e2, hr⟩ ih
  simp only [] at e1 e2 ⊢
  subst e1; subst e2
  unfold w_M_splits_b43
  rw [nI_leI (by omega) (by omega), nI_clamp (by omega)]
  refine ⟨fun z => ?_, fun z => ?_⟩
  · rw [rn_0 (Or.inl z)] at hr; rw [← hr] at kk; exact kk
  · have bq := hb q (by omega)
    rw [bq.2]
    refine ⟨vp_in_nI (by omega) (by decide), s_isSmall bq.1 (br0 (fun z2 => ?_) (fun z2 => ?_))⟩
    · rw [rn_0 (Or.inr (of_decide_eq_false z2))] at hr; rw [← hr] at kk; exact kk
    · rw [nI_1]
      exact ih (sz - (q + 1)) _ (by omega) ⟨q + 1, rfl, by omega, rfl, rfl, by rw [← rn_1 (by omega) (of_decide_eq_true z2)]; exact hr⟩
theorem spl_digit {K7 : DD → Int32 → Prop} {post : DD → Prop} {k : Nat} (hb : ∀ j, j < sz → b j < 256 ∧ gI σ 12 j = i2b (nI (b j))) (hsz : sz ≤ 400) (hks : k < sz) (kk : w_M_splits_j100 K7 post σ (nI sz) (nI k) (i2b (nI (b k))) (nI (rn b sz 1 (k + 1)))) : w_M_splits_l75 K7 post σ (nI sz) (nI k) (i2b (nI (b k))) (nI (k + 1)) := by
  unfold w_M_splits_l75
  refine LoopN (fun c y => ∃ q, c = sz - q ∧ q ≤ sz ∧ y.1 = σ ∧ y.2 = nI q ∧ rn b sz 1 q = rn b sz 1 (k + 1)) ?_ (n := sz - (k + 1)) ⟨k + 1, rfl, by omega, rfl, rfl, rfl⟩
  rintro c ⟨υ, a4⟩ KK ⟨q, hc, hq, e1, e2, hr⟩ ih
  simp only [] at e1 e2 ⊢
  subst e1; subst e2
  unfold w_M_splits_b75
  rw [nI_leI (by omega) (by omega), nI_clamp (by omega)]
  refine ⟨fun z => ?_, fun z => ?_⟩
  · rw [rn_0 (Or.inl z)] at hr; rw [← hr] at kk; exact kk
  · have bq := hb q (by omega)
    rw [bq.2]
    refine ⟨vp_in_nI (by omega) (by decide), s_isDigit bq.1 (br0 (fun z2 => ?_) (fun z2 => ?_))⟩
    · rw [rn_0 (Or.inr (of_decide_eq_false z2))] at hr; rw [← hr] at kk; exact kk
    · rw [nI_1]
      exact ih (sz - (q + 1)) _ (by omega) ⟨q + 1, rfl, by omega, rfl, rfl, by rw [← rn_1 (by omega) (of_decide_eq_true z2)]; exact hr⟩
theorem s_splits {N : Nat} {post : DD → Prop} (hw : ∀ i, i < 129 → gI σ 8 i = nI (wL.getD i 0)) (hb : ∀ j, j < sz → b j < 256 ∧ gI σ 12 j = i2b (nI (b j))) (hsz : sz ≤ 400) (hN : N ≤ sz) (hN1 : ∀ i, i < N → tP b sz i < sz) (hN2 : ∀ i, N ≤ i → tP b sz i = sz) (kk : ∀ τ, Ag spP σ τ → gI τ 0 18 = nI N → (∀ i, i ≤ N → tkR τ b sz i) → post τ) : w_M_splits σ (nI sz) post := by
  unfold w_M_splits
  intro σ64 e64
  have ag64 : Ag spP σ σ64 := by rw [e64]; exact Ag.put (by unfold spP; omega)
  unfold w_M_splits_l7
  refine LoopN (fun c y => ∃ i k, c = sz - k ∧ k ≤ sz ∧ i ≤ N ∧ Ag spP σ y.1 ∧ gI y.1 0 18 = nI i ∧ (∀ i', i' < i → tkR y.1 b sz i') ∧ y.2 = nI k ∧ skp b sz k = tP b sz i) ?_ (n := sz - 0) ⟨0, 0, rfl, Nat.zero_le _, Nat.zero_le _, ag64, by rw [e64]; exact gI_same, fun i' hi' => absurd hi' (Nat.not_lt_zero _), rfl, rfl⟩
  rintro c ⟨υ, a2⟩ KK ⟨i, k, hc, hk, hi, ag, g18, hrow, e2, hskp⟩ ih
  simp only [] at ag g18 hrow e2 ⊢
  subst e2
  have vi : vp_in (nI i) 401 := vp_in_nI (by omega) (by decide)
  unfold w_M_splits_b7
  rw [nI_leI (by omega) (by omega), g18, nI_clamp (by omega), nI_clamp (by omega)]
  refine ⟨fun z => ⟨vi, fun σ46 e46 => ?_⟩, fun z => ?_⟩
  · have hPi : tP b sz i = sz := by rw [← hskp, skp_0 (Or.inl z)]; omega
    have hiN : i = N := by
      by_cases c : i < N
      · have := hN1 i c; omega
      · omega
    have g46 : gI σ46 0 18 = nI i := by rw [e46, gI_sI, if_neg (by omega)]; exact g18
    rw [g46, nI_clamp (by omega)]
    refine ⟨vi, fun σ49 e49 => ?_⟩
    have g49 : gI σ49 0 18 = nI i := by rw [e49, gI_sI, if_neg (by omega)]; exact g46
    rw [g49, nI_clamp (by omega)]
    refine ⟨vi, fun σ52 e52 => ?_⟩
    have agx : Ag (fun o p => (o = 16 ∨ o = 17 ∨ o = 18) ∧ p = i) υ σ52 := by
      rw [e52, e49, e46]; exact ((Ag.put (by omega)).set (by omega)).set (by omega)
    refine kk σ52 (ag.trans (agx.mono (fun o p w => by unfold spP; omega))) (by rw [agx.at _ _ (by omega), g18, hiN]) (fun i' hi' => ?_)
    by_cases ei : i' = i
    · subst ei
      have c0 : tC b sz i' = 0 := by unfold tC cdT; rw [hPi, if_neg (by omega)]
      have v0 : tV b sz i' = 0 := by unfold tV vlT; rw [hPi, if_neg (by omega)]; rfl
      refine ⟨?_, ?_, ?_⟩
      · rw [e52, gI_sI, if_neg (by omega), e49, gI_sI, if_neg (by omega), e46, gI_same, hPi]
      · rw [e52, gI_sI, if_neg (by omega), e49, gI_same, c0]
      · rw [e52, gI_same, v0]
    · exact (hrow i' (by omega)).ag agx (by omega) (by omega) (by omega)
  · have hks : k < sz := by omega
    have hbu : ∀ j, j < sz → b j < 256 ∧ gI υ 12 j = i2b (nI (b j)) := fun j hj => ⟨(hb j hj).1, by rw [ag.at _ _ (by unfold spP; omega)]; exact (hb j hj).2⟩
    have hwu : ∀ i, i < 129 → gI υ 8 i = nI (wL.getD i 0) := fun j hj => by rw [ag.at _ _ (by unfold spP; omega)]; exact hw j hj
    have bk := hbu k hks
    refine ⟨vp_in_nI (by omega) (by decide), fun v56 e56 => ?_⟩
    rw [bk.2] at e56
    subst e56
    rw [(sgn_b bk.1).2.2.1]
    refine ⟨fun z2 v59 e59 => ?_, fun z2 => ?_⟩
    · rw [nI_1] at e59
      subst e59
      have hPi : tP b sz i = k := by rw [← hskp, skp_0 (Or.inr z2)]
      have hiN : i < N := by
        by_cases c : i < N
        · exact c
        · have := hN2 i (by omega); omega
      have tok : ∀ e, e = stq b sz k → w_M_splits_j100 (fun σ a2 => KK (σ, a2)) post υ (nI sz) (nI k) (i2b (nI (b k))) (nI e) := by
        intro e he
        have hr := stq_rng (b := b) hks
        refine spl_tok hwu hbu hsz hks he (by omega) hPi g18 (fun τ agt g1 hr1 => ?_)
        refine ih (sz - e) _ (by omega) ⟨i + 1, e, rfl, by omega, by omega, ag.trans (agt.mono (fun o p w => by unfold spP; omega)), g1, fun i' hi' => ?_, rfl, ?_⟩
        · by_cases ei : i' = i
          · rw [ei]; exact hr1
          · exact (hrow i' (by omega)).ag agt (by omega) (by omega) (by omega)
        · rw [tP_s (by omega), hPi, he]
      have j68 : ∀ e, (srt (b k) = 1 → e = k + 1) → (¬ srt (b k) = 1 → e = stq b sz k) → w_M_splits_j68 (fun σ a2 => KK (σ, a2)) post υ (nI sz) (nI k) (i2b (nI (b k))) (nI e) := by
        intro e he1 he2
        unfold w_M_splits_j68
        refine s_isDigit bk.1 (br0 (fun z3 => tok e (he2 (of_decide_eq_false z3))) (fun z3 => ?_))
        have z4 := of_decide_eq_true z3
        rw [he1 z4]
        refine spl_digit hbu hsz hks (tok _ ?_)
        unfold stq; rw [z4, if_neg (by decide)]
      refine s_isSmall bk.1 (br0 (fun z3 => j68 (k + 1) (fun _ => rfl) (fun z4 => ?_)) (fun z3 => spl_small hbu hsz hks (j68 _ (fun z4 => ?_) (fun _ => ?_))))
      · have z5 := of_decide_eq_false z3
        unfold stq
        rw [if_pos (by rcases srt_3 (b k) with h | h | h; exact absurd h z5; exact absurd h z4; exact h)]
      · have z5 := of_decide_eq_true z3
        rw [z5] at z4; exact absurd z4 (by decide)
      · have z5 := of_decide_eq_true z3
        unfold stq; rw [z5, if_neg (by decide)]
    · rw [nI_1]
      exact ih (sz - (k + 1)) _ (by omega) ⟨i, k + 1, rfl, by omega, hi, ag, g18, hrow, rfl, by rw [← skp_1 hks z2]; exact hskp⟩
end TM2
