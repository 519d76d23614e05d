/-! ===== tokens, of the model ===== -/
def ofsW (ws : List (List Nat)) : Nat → Nat
  | 0 => 0
  | j + 1 => ofsW ws j + (ws.getD j []).length + 1
theorem w_chk : ∀ j, j < 25 → (∀ i, i < (wds.getD j []).length → wL.getD (ofsW wds j + i) 0 = (wds.getD j []).getD i 0 ∧ ¬ wL.getD (ofsW wds j + i) 0 = 32 ∧ wL.getD (ofsW wds j + i) 0 < 128) ∧ wL.getD (ofsW wds j + (wds.getD j []).length) 0 = 32 ∧ ofsW wds j + (wds.getD j []).length + 1 ≤ 129 := by decide +kernel
theorem let_b {n : Nat} (h : n < 128) : i2b (nI n) = nI n := co_dec (N := 128) (P := fun n => i2b (nI n) = nI n) (by decide +kernel) h
theorem sgn_b {n : Nat} (h : n < 256) : ((i2b (nI n) < 97 ∨ 122 < i2b (nI n)) ↔ ¬ srt n = 0) ∧ ((i2b (nI n) < 48 ∨ 57 < i2b (nI n)) ↔ ¬ srt n = 1) ∧ (i2b (nI n) = 32 ↔ n = 32) ∧ 100 + (i2b (nI n) &&& 255) = nI (100 + n) := co_dec (N := 256) (P := fun n => ((i2b (nI n) < 97 ∨ 122 < i2b (nI n)) ↔ ¬ srt n = 0) ∧ ((i2b (nI n) < 48 ∨ 57 < i2b (nI n)) ↔ ¬ srt n = 1) ∧ (i2b (nI n) = 32 ↔ n = 32) ∧ 100 + (i2b (nI n) &&& 255) = nI (100 + n)) (by decide +kernel) h
section TM
variable {σ τ : DD} {b : Nat → Nat} {sz : Nat}
theorem s_isSmall {n : Nat} {post : Int32 → DD → Prop} (h : n < 256) (k : post (bl (decide (srt n = 0))) σ) : w_M_isSmall σ (i2b (nI n)) post := by
  have q := (sgn_b h).1
  unfold w_M_isSmall
  by_cases c : srt n = 0
  · rw [decide_eq_true c] at k
    have : ¬ (i2b (nI n) < 97 ∨ 122 < i2b (nI n)) := fun z => q.1 z c
    exact ⟨fun z => absurd (Or.inl z) this, fun _ => ⟨fun z => absurd (Or.inr z) this, fun _ => k⟩⟩
  · rw [decide_eq_false c] at k
    have := q.2 c
    exact ⟨fun _ => k, fun z => ⟨fun _ => k, fun z2 => by rcases this with w | w; exact absurd w z; exact absurd w z2⟩⟩
theorem s_isDigit {n : Nat} {post : Int32 → DD → Prop} (h : n < 256) (k : post (bl (decide (srt n = 1))) σ) : w_M_isDigit σ (i2b (nI n)) post := by
  have q := (sgn_b h).2.1
  unfold w_M_isDigit
  by_cases c : srt n = 1
  · rw [decide_eq_true c] at k
    have : ¬ (i2b (nI n) < 48 ∨ 57 < i2b (nI n)) := fun z => q.1 z c
    exact ⟨fun z => absurd (Or.inl z) this, fun _ => ⟨fun z => absurd (Or.inr z) this, fun _ => k⟩⟩
  · rw [decide_eq_false c] at k
    have := q.2 c
    exact ⟨fun _ => k, fun z => ⟨fun _ => k, fun z2 => by rcases this with w | w; exact absurd w z; exact absurd w z2⟩⟩
theorem nI_sub {a c : Nat} (h : c ≤ a) : nI a - nI c = nI (a - c) := by
  have : nI a = nI (a - c) + nI c := by rw [nI_add']; congr 1; omega
  rw [this]; grind
theorem s_wordOf {p e : Nat} {post : Int32 → DD → Prop} (hw : ∀ i, i < 129 → gI σ 8 i = nI (wL.getD i 0)) (hb : ∀ j, j < sz → b j < 256 ∧ gI σ 12 j = i2b (nI (b j))) (hsz : sz ≤ 400) (hp : p < e) (he : e ≤ sz) (hl : ∀ j, p ≤ j → j < e → 97 ≤ b j ∧ b j ≤ 122) (k : post (nI (wxF wds 1 (tkW b p e))) σ) : w_M_wordOf σ (nI p) (nI e) post := by
  unfold w_M_wordOf w_M_wordOf_l5
  refine LoopN (fun c y => ∃ j, c = 25 - j ∧ j ≤ 25 ∧ y.1 = σ ∧ y.2.1 = nI (j + 1) ∧ y.2.2 = nI (ofsW wds j) ∧ ∀ k, k < j → ¬ wxF wds 1 (tkW b p e) = k + 1) ?_ (n := 25) ⟨0, rfl, by decide, rfl, rfl, rfl, fun k hk => absurd hk (Nat.not_lt_zero _)⟩
  rintro c ⟨υ, a3, a4⟩ K5 ⟨j, hc, hj, e1, e2, e3, hno⟩ ih
  simp only [] at e1 e2 e3 ⊢
  subst e1; subst e2; subst e3
  unfold w_M_wordOf_b5
  by_cases c25 : j = 25
  · have o : ofsW wds 25 = 129 := by decide +kernel
    subst c25
    refine ⟨fun _ => ?_, fun q => absurd (show (129 : Int32) ≤ nI (ofsW wds 25) by rw [o]; decide) q⟩
    have h0 : wxF wds 1 (tkW b p e) = 0 := by
      have h1 := wds_lt (tkW b p e)
      by_cases z : wxF wds 1 (tkW b p e) = 0
      · exact z
      · exact absurd (show wxF wds 1 (tkW b p e) = (wxF wds 1 (tkW b p e) - 1) + 1 by omega) (hno _ (by omega))
    rw [h0] at k; exact k
  have hj25 : j < 25 := by omega
  obtain ⟨h1, h2, h3⟩ := w_chk j hj25
  have hat := wds_at (t := tkW b p e) hj25
  rw [tk_eq] at hat
  have es : ofsW wds (j + 1) = ofsW wds j + (wds.getD j []).length + 1 := rfl
  generalize wds.getD j [] = w at h1 h2 h3 hat es
  generalize ofsW wds j = oj at h1 h2 h3 es ⊢
  refine ⟨fun q => absurd q ?_, fun _ => ?_⟩
  · rw [show (129 : Int32) = nI 129 from rfl, nI_leI (by decide) (by omega)]; omega
  unfold w_M_wordOf_l18
  refine LoopN (fun c y => ∃ i, c = w.length - i ∧ i ≤ w.length ∧ y.1 = υ ∧ y.2 = nI i) ?_ (n := w.length) ⟨0, rfl, Nat.zero_le _, rfl, rfl⟩
  rintro c2 ⟨υ2, a5⟩ K2 ⟨i, hc2, hi, e4, e5⟩ ih2
  simp only [] at e4 e5 ⊢
  subst e4; subst e5
  unfold w_M_wordOf_b18
  rw [nI_add', nI_clamp (by omega), hw _ (by omega)]
  refine ⟨vp_in_nI (by omega) (by decide), fun q => ?_, fun q => ?_⟩
  · have hi2 : i = w.length := by
      by_cases z : i = w.length
      · exact z
      · have h4 := h1 i (by omega)
        refine absurd ?_ h4.2.1
        rw [show (32 : Int32) = nI 32 from rfl, nI_eq (by omega) (by decide)] at q
        exact q
    subst hi2
    have go : ∀ s : Bool, (s = true ↔ w.length = e - p) → w_M_wordOf_j52 (fun σ a3 a4 => K5 (σ, a3, a4)) post υ2 (nI p) (nI e) (nI (j + 1)) (nI oj) (nI w.length) (bl s) := by
      intro s hs
      unfold w_M_wordOf_j52 w_M_wordOf_l57
      refine LoopN (fun c y => ∃ i s, c = w.length - i ∧ i ≤ w.length ∧ y.1 = υ2 ∧ y.2.1 = bl s ∧ y.2.2 = nI i ∧ (s = true ↔ (w.length = e - p ∧ ∀ i', i' < i → w.getD i' 0 = b (p + i')))) ?_ (n := w.length) ⟨0, s, rfl, Nat.zero_le _, rfl, rfl, rfl, by rw [hs]; exact ⟨fun z => ⟨z, fun i' z2 => absurd z2 (Nat.not_lt_zero _)⟩, fun z => z.1⟩⟩
      rintro c3 ⟨υ3, a6, a7⟩ K57 ⟨i, s, hc3, hi3, e6, e7, e8, hs3⟩ ih3
      simp only [] at e6 e7 e8 ⊢
      subst e6; subst e7; subst e8
      have fin : (i = w.length ∨ s = false) → w_M_wordOf_j104 (fun σ a3 a4 => K5 (σ, a3, a4)) post υ3 (nI p) (nI e) (nI (j + 1)) (nI oj) (nI w.length) (bl s) := by
        intro hf
        unfold w_M_wordOf_j104
        refine br0 (fun z v2 ev => ?_) (fun z => ?_)
        · rw [nI_1, nI_add'] at ev
          subst ev
          rw [nI_1]
          refine ih (25 - (j + 1)) _ (by omega) ⟨j + 1, rfl, by omega, rfl, rfl, by simp only []; rw [es]; congr 1, fun k2 hk2 => ?_⟩
          by_cases ek : k2 = j
          · rw [ek]
            intro w2
            have := hat.2 w2
            rw [hs3.2 ⟨this.1, fun i' hi' => this.2 i' (by omega)⟩] at z
            exact absurd z (by decide)
          · exact hno k2 (by omega)
        · have hi4 : i = w.length := by
            rcases hf with h | h
            · exact h
            · rw [h] at z; exact absurd z (by decide)
          have := hs3.1 z
          rw [← hat.1 ⟨this.1, fun i' hi' => this.2 i' (by omega)⟩]
          exact k
      unfold w_M_wordOf_b57
      rw [nI_leI (by omega) (by omega)]
      refine ⟨fun z => fin (Or.inl (by omega)), fun z => br0 (fun z2 => fin (Or.inr z2)) (fun z2 => ?_)⟩
      have hlen := (hs3.1 z2).1
      have hbi := hb (p + i) (by omega)
      have hli := hl (p + i) (by omega) (by omega)
      have hwi := h1 i (by omega)
      rw [nI_add', nI_add', nI_clamp (by omega), nI_clamp (by omega), hw _ (by omega), hbi.2, let_b (by omega), nI_eq (by omega) (by omega)]
      refine ⟨vp_in_nI (by omega) (by decide), vp_in_nI (by omega) (by decide), fun z3 => ?_, fun z3 => ?_⟩
      · unfold w_M_wordOf_j96
        rw [nI_1]
        refine ih3 (w.length - (i + 1)) _ (by omega) ⟨i + 1, false, rfl, by omega, rfl, rfl, rfl, ⟨fun z4 => absurd z4 (by decide), fun z4 => ?_⟩⟩
        refine absurd ?_ z3
        rw [hwi.1]; exact z4.2 i (by omega)
      · unfold w_M_wordOf_j96
        rw [nI_1]
        refine ih3 (w.length - (i + 1)) _ (by omega) ⟨i + 1, true, rfl, by omega, rfl, rfl, rfl, ⟨fun _ => ⟨hlen, fun i' hi' => ?_⟩, fun _ => rfl⟩⟩
        by_cases ei : i' = i
        · rw [ei, ← hwi.1]; exact z3
        · exact (hs3.1 z2).2 i' (by omega)
    rw [nI_sub (by omega), nI_eq (by omega) (by omega)]
    exact ⟨fun z => go false ⟨fun z2 => absurd z2 (by decide), fun z2 => absurd z2 z⟩, fun z => go true ⟨fun _ => z, fun _ => rfl⟩⟩
  · have hi2 : ¬ i = w.length := by
      intro z
      rw [z, h2] at q
      exact q rfl
    rw [nI_1]
    exact ih2 (w.length - (i + 1)) _ (by omega) ⟨i + 1, rfl, by omega, rfl, rfl⟩
end TM
