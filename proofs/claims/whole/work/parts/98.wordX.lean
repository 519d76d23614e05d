/-! ===== tokens of the class: signs, words, numbers ===== -/
def csS : Nat → List Nat
  | 0 => [1, 2, 3] | 1 => [7] | 2 => [6] | 3 => [5] | 4 => [8, 9, 10, 11, 12, 13, 14, 15] | 5 => [16, 17, 18, 19, 20, 21] | 6 => [22, 24] | 7 => [23] | 8 => [25] | _ => [4]
def wdS (s : Nat) : List (List Nat) := (csS s).map (fun c => wds.getD (c - 1) [])
def sF (s q : Nat) : Nat := ((strByt.getD s []).getD q 0).toNatClampNeg
def ixS : List Nat → Nat → Int32 → Int32
  | [], _, _ => -1
  | k :: ks, j, c => if c = nI k then nI j else ixS ks (j + 1) c
theorem s_chk1 : ∀ s, s < 10 → strLen.getD s 0 ≤ 47 ∧ (wdS s).length = (csS s).length ∧ 0 < (csS s).length ∧ (csS s).length ≤ 8 ∧ ∀ q, q < strLen.getD s 0 → i2c (sByt s q &&& 255) = nI (sF s q) ∧ sF s q < 128 := by decide +kernel
theorem s_chk2 : ∀ s, s < 10 → ∀ j, j < (csS s).length → (csS s).getD j 0 - 1 < 25 ∧ 0 < (csS s).getD j 0 ∧ (wdS s).getD j [] = wds.getD ((csS s).getD j 0 - 1) [] ∧ (∀ i, i < ((wdS s).getD j []).length → sF s (ofsW (wdS s) j + i) = ((wdS s).getD j []).getD i 0 ∧ ¬ sF s (ofsW (wdS s) j + i) = 32) ∧ ofsW (wdS s) j + ((wdS s).getD j []).length ≤ strLen.getD s 0 ∧ ((j + 1 < (csS s).length ∧ ofsW (wdS s) j + ((wdS s).getD j []).length < strLen.getD s 0 ∧ sF s (ofsW (wdS s) j + ((wdS s).getD j []).length) = 32) ∨ (j + 1 = (csS s).length ∧ ofsW (wdS s) j + ((wdS s).getD j []).length = strLen.getD s 0)) := by decide +kernel
theorem ixS_at : ∀ (ks : List Nat) (j0 j : Nat) (c : Int32), (∀ j', j' < j → ¬ c = nI (ks.getD j' 0)) → j ≤ ks.length → ((h : j < ks.length) → c = nI (ks.getD j 0)) → ixS ks j0 c = if j < ks.length then nI (j0 + j) else -1 := by
  intro ks
  induction ks with
  | nil => intro j0 j c h1 h2 h3; rw [if_neg (by simp)]; rfl
  | cons k ks ih =>
    intro j0 j c h1 h2 h3
    show (if c = nI k then nI j0 else ixS ks (j0 + 1) c) = _
    cases j with
    | zero =>
      have this : c = nI k := h3 (Nat.succ_pos _)
      rw [if_pos this, List.length_cons, if_pos (Nat.succ_pos _)]; rfl
    | succ j =>
      rw [if_neg (show ¬ c = nI k from h1 0 (Nat.succ_pos _)), ih (j0 + 1) j c (fun j' hj' => h1 (j' + 1) (by omega)) (Nat.le_of_succ_le_succ h2) (fun h => h3 (Nat.succ_lt_succ h))]
      by_cases c1 : j < ks.length
      · rw [if_pos c1, List.length_cons, if_pos (Nat.succ_lt_succ c1)]; congr 1; omega
      · rw [if_neg c1, List.length_cons, if_neg (fun z => c1 (Nat.lt_of_succ_lt_succ z))]
theorem cz_b0 : cb 0 := by unfold cb; decide
theorem jshr_00 (x : Int32) : jshr x 0 = x := by unfold jshr; simp
section WX
variable {σ τ : DD} {T : TXT} {b : Nat → Nat} {sz i : Nat}
theorem s_len {s : Nat} {post : Int32 → DD → Prop} (k : post (nI (strLen.getD s 0)) σ) : w_J0_length_8abf5 T s σ post := by
  unfold w_J0_length_8abf5 w_J0_coder_7d493
  refine ⟨fun z => absurd z (by decide), fun _ => ⟨cz_b0, ?_⟩⟩
  show post (jshr (sLen s) 0) σ
  rw [jshr_00]; exact k
theorem s_chr {s q : Nat} {post : Int32 → DD → Prop} (hs : s < 10) (hq : q < strLen.getD s 0) (k : post (nI (sF s q)) σ) : w_J0_charAt_5068e T s σ (nI q) post := by
  have h := s_chk1 s hs
  have h1 := h.2.2.2.2 q hq
  unfold w_J0_charAt_5068e w_J0_isLatin1_aae02
  refine ⟨fun z => absurd z (by decide), fun _ => ⟨fun z => absurd rfl z, fun _ => ⟨fun z => absurd z (by decide), fun _ => ?_⟩⟩⟩
  unfold w_J1_charAt_3b067 w_J0_checkIndex_df160 w_J3_checkIndex_8e157
  rw [nI_clamp (by omega), h1.1]
  refine ⟨fun z => absurd z (by have := nI_pos' (n := q) (by omega); grind), fun _ => ⟨fun _ => ⟨vp_in_nI hq (by omega), cz_n (by omega), cz_n (by omega), k⟩, fun z => absurd ?_ z⟩⟩
  show nI q < nI (strLen.getD s 0)
  rw [nI_ltI (by omega) (by omega)]; exact hq
theorem tC_w (c : tP b sz i < sz) (h0 : srt (b (tP b sz i)) = 0) : tC b sz i = nI (wxF wds 1 (tkW b (tP b sz i) (stq b sz (tP b sz i)))) := by
  unfold tC cdT; rw [if_pos c, if_pos h0]
theorem tC_rng (hb : ∀ j, j < sz → b j < 256) : (¬ tP b sz i < sz ∧ tS b sz (tP b sz i) = 3 ∧ tC b sz i = 0) ∨ (tP b sz i < sz ∧ ((tS b sz (tP b sz i) = 0 ∧ srt (b (tP b sz i)) = 0 ∧ ∃ n, n ≤ 25 ∧ tC b sz i = nI n) ∨ (tS b sz (tP b sz i) = 1 ∧ srt (b (tP b sz i)) = 1 ∧ tC b sz i = 50) ∨ (tS b sz (tP b sz i) = 2 ∧ srt (b (tP b sz i)) = 2 ∧ b (tP b sz i) < 256 ∧ tC b sz i = nI (100 + b (tP b sz i))))) := by
  unfold tS tC cdT
  by_cases c : tP b sz i < sz
  · rw [if_pos c, if_pos c]
    refine Or.inr ⟨c, ?_⟩
    rcases srt_3 (b (tP b sz i)) with h | h | h
    · exact Or.inl ⟨h, h, _, wds_lt _, by rw [if_pos h]⟩
    · exact Or.inr (Or.inl ⟨h, h, by rw [if_neg (by omega), if_pos h]⟩)
    · exact Or.inr (Or.inr ⟨h, h, hb _ c, by rw [if_neg (by omega), if_neg (by omega)]⟩)
  · rw [if_neg c, if_neg c]
    exact Or.inl ⟨c, rfl, rfl⟩
theorem s_isSign {n : Nat} {post : Int32 → DD → Prop} (hA : TA σ b sz i) (hn : n < 256) (k : post (bl (decide (tC b sz i = nI (100 + n)))) σ) : w_Tape_isSign T σ (nI n) post := by
  have hsz := hA.1.1
  have hle := tP_le (b := b) (sz := sz) i
  unfold w_Tape_isSign
  rw [hA.2.2.2, hA.2.1, nI_clamp (by omega)]
  have no : (¬ tC b sz i = nI (100 + n)) → post 0 σ := by intro z; rw [decide_eq_false z] at k; exact k
  have q100 : ∀ m, m < 100 → ¬ nI m = nI (100 + n) := fun m hm z => by rw [nI_eq (by omega) (by omega)] at z; omega
  rcases tC_rng (i := i) (fun j hj => (hA.1.2.2 j hj).1) with ⟨h1, h2, h3⟩ | ⟨h1, ⟨h2, h3, m, h4, h5⟩ | ⟨h2, h3, h4⟩ | ⟨h2, h3, h4, h5⟩⟩
  · rw [h2]; exact ⟨fun _ => no (by rw [h3]; exact q100 0 (by decide)), fun z => absurd z (by decide)⟩
  · rw [h2]; exact ⟨fun _ => no (by rw [h5]; exact q100 m (by omega)), fun z => absurd z (by decide)⟩
  · rw [h2]; exact ⟨fun _ => no (by rw [h4]; exact q100 50 (by decide)), fun z => absurd z (by decide)⟩
  · rw [h2, (hA.1.2.2 _ h1).2, nI_eq (by omega) (by omega)]
    refine ⟨fun z => absurd rfl z, fun _ => ⟨vp_in_nI (by omega) (by decide), fun z => no ?_, fun z => ?_⟩⟩
    · rw [h5, nI_eq (by omega) (by omega)]; omega
    · rw [decide_eq_true (by rw [h5, z])] at k; exact k
theorem s_isAtEnd {post : Int32 → DD → Prop} (hA : TA σ b sz i) (k : post (bl (decide (sz ≤ tP b sz i))) σ) : w_Tape_isAtEnd T σ post := by
  unfold w_Tape_isAtEnd
  rw [hA.2.2.2]
  rcases tC_rng (i := i) (fun j hj => (hA.1.2.2 j hj).1) with ⟨h1, h2, h3⟩ | ⟨h1, ⟨h2, h3, m, h4, h5⟩ | ⟨h2, h3, h4⟩ | ⟨h2, h3, h4, h5⟩⟩
  · rw [h2]; rw [decide_eq_true (by omega)] at k; exact ⟨fun z => absurd rfl z, fun _ => k⟩
  all_goals rw [h2]; rw [decide_eq_false (by omega)] at k; exact ⟨fun _ => k, fun z => absurd z (by decide)⟩
theorem s_number {post : Int32 → DD → Prop} (hA : TA σ b sz i) (k : post (if tC b sz i = 50 then nI (min 9999 (vlT b sz (tP b sz i))) else -1) σ) : w_Tape_number T σ post := by
  have hsz := hA.1.1
  have hle := tP_le (b := b) (sz := sz) i
  unfold w_Tape_number
  rw [hA.2.2.2, hA.2.1]
  have no : (¬ tC b sz i = 50) → post (-1) σ := by intro z; rw [if_neg z] at k; exact k
  have q50 : ∀ m, m < 2 ^ 31 → ¬ m = 50 → ¬ nI m = 50 := fun m hm z w => by rw [show (50 : Int32) = nI 50 from rfl, nI_eq hm (by decide)] at w; omega
  rcases tC_rng (i := i) (fun j hj => (hA.1.2.2 j hj).1) with ⟨h1, h2, h3⟩ | ⟨h1, ⟨h2, h3, m, h4, h5⟩ | ⟨h2, h3, h4⟩ | ⟨h2, h3, h4, h5⟩⟩
  · rw [h2]; exact ⟨fun z => absurd z (by decide), fun _ => no (by rw [h3]; decide)⟩
  · rw [h2]; exact ⟨fun z => absurd z (by decide), fun _ => no (by rw [h5]; exact q50 m (by omega) (by omega))⟩
  · rw [h2]
    rw [if_pos h4] at k
    refine ⟨fun _ v6 e6 => ?_, fun z => absurd rfl z⟩
    subst e6
    have hr := stq_rng (b := b) h1
    have hv : vlT b sz (tP b sz i) = vN b (tP b sz i) (stq b sz (tP b sz i) - tP b sz i) := by unfold vlT; rw [if_pos ⟨h1, h3⟩]
    have g3 : gI σ 20 3 = nI (stq b sz (tP b sz i)) := by rw [hA.2.2.1]; unfold tE; rw [if_pos h1]
    unfold w_Tape_number_l17
    refine LoopN (fun c y => ∃ q, c = stq b sz (tP b sz i) - tP b sz i - q ∧ q ≤ stq b sz (tP b sz i) - tP b sz i ∧ y.1 = σ ∧ y.2.1 = nI (min 9999 (vN b (tP b sz i) q)) ∧ y.2.2 = nI (tP b sz i + q)) ?_ (n := stq b sz (tP b sz i) - tP b sz i) ⟨0, rfl, Nat.zero_le _, rfl, rfl, rfl⟩
    rintro c ⟨υ, a1, a2⟩ KK ⟨q, hc, hq, e1, e2, e3⟩ ih
    simp only [] at e1 e2 e3 ⊢
    subst e1; subst e2; subst e3
    unfold w_Tape_number_b17
    rw [g3, nI_leI (by omega) (by omega)]
    refine ⟨fun z => ?_, fun z => ⟨vp_in_nI (by omega) (by decide), fun v3 e4 => ?_⟩⟩
    · rw [hv, show stq b sz (tP b sz i) - tP b sz i = q by omega] at k; exact k
    · have dq := srt_1.1 ((hr.2.2 (tP b sz i + q) (by omega) (by omega)).trans h3)
      rw [nI_clamp (by omega), (hA.1.2.2 _ (by omega)).2, show (10 : Int32) = nI 10 from rfl, pk_mul, nI_add', show (48 : Int32) = nI 48 from rfl, nI_sub (by omega)] at e4
      rw [nI_1]
      refine ih (stq b sz (tP b sz i) - tP b sz i - (q + 1)) _ (by omega) ⟨q + 1, rfl, by omega, rfl, ?_, rfl⟩
      simp only []
      rw [e4]
      have vs : vN b (tP b sz i) (q + 1) = if vN b (tP b sz i) q ≤ 1000000 then 10 * vN b (tP b sz i) q + b (tP b sz i + q) - 48 else vN b (tP b sz i) q := rfl
      unfold jmin
      rw [show (9999 : Int32) = nI 9999 from rfl]
      have hlt : nI (min 9999 (vN b (tP b sz i) q) * 10 + b (tP b sz i + q) - 48) < nI 9999 ↔ min 9999 (vN b (tP b sz i) q) * 10 + b (tP b sz i + q) - 48 < 9999 := nI_ltI (by omega) (by decide)
      by_cases c2 : min 9999 (vN b (tP b sz i) q) * 10 + b (tP b sz i + q) - 48 < 9999
      · rw [if_pos (hlt.2 c2)]
        congr 1
        rw [vs, if_pos (by omega)]; omega
      · rw [if_neg (fun z => c2 (hlt.1 z))]
        congr 1
        rw [vs]; split <;> omega
  · rw [h2]; exact ⟨fun z => absurd z (by decide), fun _ => no (by rw [h5]; exact q50 _ (by omega) (by omega))⟩
theorem ix_no {s : Nat} (hs : s < 10) (h : ∀ j, j < (csS s).length → ¬ tC b sz i = nI ((csS s).getD j 0)) : ixS (csS s) 0 (tC b sz i) = -1 := by
  rw [ixS_at (csS s) 0 (csS s).length (tC b sz i) h (Nat.le_refl _) (fun z => absurd z (Nat.lt_irrefl _)), if_neg (Nat.lt_irrefl _)]
theorem s_indexAmong {s : Nat} {post : Int32 → DD → Prop} (hs : s < 10) (hA : TA σ b sz i) (k : post (ixS (csS s) 0 (tC b sz i)) σ) : w_Tape_indexAmong T s σ post := by
  have hsz := hA.1.1
  have hle := tP_le (b := b) (sz := sz) i
  obtain ⟨c1, c2, c3, c4, c5⟩ := s_chk1 s hs
  have c6 := s_chk2 s hs
  unfold w_Tape_indexAmong
  rw [hA.2.2.2]
  have q25 : ∀ j, j < (csS s).length → ∀ m, m < 2 ^ 31 → (nI m = nI ((csS s).getD j 0) ↔ m = (csS s).getD j 0) := fun j hj m hm => by
    have := c6 j hj
    rw [nI_eq hm (by omega)]
  rcases tC_rng (i := i) (fun j hj => (hA.1.2.2 j hj).1) with ⟨h1, h2, h3⟩ | ⟨h1, ⟨h2, h3, -⟩ | ⟨h2, h3, h4⟩ | ⟨h2, h3, h4, h5⟩⟩
  · rw [ix_no hs (fun j hj => by rw [h3, show (0 : Int32) = nI 0 from rfl, q25 j hj 0 (by decide)]; have := c6 j hj; omega)] at k
    rw [h2]; exact ⟨fun z => absurd z (by decide), fun _ => k⟩
  · rw [h2]
    refine ⟨fun _ => ?_, fun z => absurd rfl z⟩
    have hr := stq_rng (b := b) h1
    have eC := tC_w h1 h3
    have g3 : gI σ 20 3 = nI (stq b sz (tP b sz i)) := by rw [hA.2.2.1]; unfold tE; rw [if_pos h1]
    have lt25 := wds_lt (tkW b (tP b sz i) (stq b sz (tP b sz i)))
    have hw : ∀ j, j < (csS s).length → ((wdS s).getD j [] = tkW b (tP b sz i) (stq b sz (tP b sz i)) ↔ tC b sz i = nI ((csS s).getD j 0)) := by
      intro j hj
      obtain ⟨d1, d2, d3, -⟩ := c6 j hj
      rw [d3, wds_at d1, eC, q25 j hj _ (by omega), show (csS s).getD j 0 - 1 + 1 = (csS s).getD j 0 by omega]
    unfold w_Tape_indexAmong_l16
    refine LoopN (fun c y => (∃ j i' t, c = strLen.getD s 0 + 2 - (ofsW (wdS s) j + i') ∧ j < (csS s).length ∧ i' ≤ ((wdS s).getD j []).length ∧ y.1 = σ ∧ y.2.1 = nI j ∧ y.2.2.1 = (if t = true then nI i' else -1) ∧ y.2.2.2 = nI (ofsW (wdS s) j + i') ∧ (t = true ↔ (i' ≤ stq b sz (tP b sz i) - tP b sz i ∧ ∀ q, q < i' → ((wdS s).getD j []).getD q 0 = b (tP b sz i + q))) ∧ ∀ j', j' < j → ¬ tC b sz i = nI ((csS s).getD j' 0)) ∨ (c = 0 ∧ y.1 = σ ∧ y.2.2.2 = nI (strLen.getD s 0 + 1) ∧ ∀ j', j' < (csS s).length → ¬ tC b sz i = nI ((csS s).getD j' 0))) ?_ (n := strLen.getD s 0 + 2 - (ofsW (wdS s) 0 + 0)) (Or.inl ⟨0, 0, true, rfl, c3, Nat.zero_le _, rfl, rfl, rfl, rfl, ⟨fun _ => ⟨Nat.zero_le _, fun q hq => absurd hq (Nat.not_lt_zero _)⟩, fun _ => rfl⟩, fun j' hj' => absurd hj' (Nat.not_lt_zero _)⟩)
    rintro c ⟨υ, a2, a3, a4⟩ KK hh ih
    rcases hh with ⟨j, i', t, hc, hj, hi', e1, e2, e3, e4, ht, hno⟩ | ⟨hc, e1, e4, hno⟩
    · simp only [] at e1 e2 e3 e4 ⊢
      subst e1; subst e2; subst e3; subst e4
      obtain ⟨d1, d2, d3, d4, d5, d6⟩ := c6 j hj
      have hwj := hw j hj
      rw [tk_eq] at hwj
      have es : ofsW (wdS s) (j + 1) = ofsW (wdS s) j + ((wdS s).getD j []).length + 1 := rfl
      generalize hwd : (wdS s).getD j [] = w at hi' ht d3 d4 d5 d6 hwj es
      clear d3
      unfold w_Tape_indexAmong_b16
      refine s_len ⟨fun z => ?_, fun _ => s_len ?_⟩
      · rw [nI_ltI (by omega) (by omega)] at z; omega
      rw [nI_eq (by omega) (by omega)]
      have ends : i' = w.length → w_Tape_indexAmong_j45 T s (fun σ a2 a3 a4 => KK (σ, a2, a3, a4)) post υ (nI j) (if t = true then nI i' else -1) (nI (ofsW (wdS s) j + i')) := by
        intro hi2
        unfold w_Tape_indexAmong_j45 w_Tape_indexAmong_j50
        refine ⟨fun z => absurd z (by decide), fun _ => ?_⟩
        rw [g3, hA.2.1, nI_sub (by omega)]
        have same : ((if t = true then nI i' else -1) = nI (stq b sz (tP b sz i) - tP b sz i)) ↔ tC b sz i = nI ((csS s).getD j 0) := by
          rw [← hwj]
          by_cases ct : t = true
          · rw [if_pos ct, nI_eq (by omega) (by omega)]
            have := ht.1 ct
            exact ⟨fun z => ⟨by omega, fun q hq => this.2 q (by omega)⟩, fun z => by omega⟩
          · rw [if_neg ct]
            refine ⟨fun z => absurd z.symm (nI_m1 (by omega)), fun z => absurd (ht.2 ⟨by omega, fun q hq => z.2 q (by omega)⟩) ct⟩
        refine ⟨fun z => ?_, fun z => ?_⟩
        · unfold w_Tape_indexAmong_j72
          refine ⟨fun z => absurd z (by decide), fun _ => ?_⟩
          rw [nI_1, nI_1]
          have hno2 : ∀ j', j' < j + 1 → ¬ tC b sz i = nI ((csS s).getD j' 0) := by
            intro j' hj'
            by_cases ej : j' = j
            · rw [ej]; exact fun w2 => z (same.2 w2)
            · exact hno j' (by omega)
          rcases d6 with ⟨f1, f2, f3⟩ | ⟨f1, f2⟩
          · refine ih (strLen.getD s 0 + 2 - (ofsW (wdS s) (j + 1) + 0)) _ (by omega) (Or.inl ⟨j + 1, 0, true, rfl, f1, Nat.zero_le _, rfl, rfl, rfl, ?_, ⟨fun _ => ⟨Nat.zero_le _, fun q hq => absurd hq (Nat.not_lt_zero _)⟩, fun _ => rfl⟩, hno2⟩)
            simp only []; congr 1; omega
          · refine ih 0 _ (by omega) (Or.inr ⟨rfl, rfl, ?_, fun j' hj' => hno2 j' (by omega)⟩)
            simp only []; congr 1; omega
        · rw [ixS_at (csS s) 0 j (tC b sz i) hno (by omega) (fun _ => same.1 z), if_pos hj, Nat.zero_add] at k
          exact k
      refine ⟨fun z => ends ?_, fun z => s_chr hs (by omega) ?_⟩
      · by_cases ei : i' = w.length
        · exact ei
        · omega
      have cq := (c5 (ofsW (wdS s) j + i') (by omega)).2
      rw [show (32 : Int32) = nI 32 from rfl, nI_eq (by omega) (by decide)]
      refine ⟨fun z2 => ?_, fun z2 => ends ?_⟩
      · have hi2 : i' < w.length := by
          by_cases ei : i' = w.length
          · rw [ei] at z2 z
            rcases d6 with ⟨f1, f2, f3⟩ | ⟨f1, f2⟩
            · exact absurd f3 z2
            · exact absurd f2 z
          · omega
        have dw := d4 i' hi2
        unfold w_Tape_indexAmong_j50
        refine ⟨fun _ => ?_, fun w2 => absurd rfl w2⟩
        unfold w_Tape_indexAmong_j72
        refine ⟨fun _ => ?_, fun w2 => absurd rfl w2⟩
        have bad : (¬ (i' + 1 ≤ stq b sz (tP b sz i) - tP b sz i ∧ ∀ q, q < i' + 1 → w.getD q 0 = b (tP b sz i + q))) → w_Tape_indexAmong_j129 T s (fun σ a2 a3 a4 => KK (σ, a2, a3, a4)) post υ (nI j) (nI (ofsW (wdS s) j + i')) := by
          intro hf
          unfold w_Tape_indexAmong_j129
          rw [nI_1]
          refine ih (strLen.getD s 0 + 2 - (ofsW (wdS s) j + (i' + 1))) _ (by omega) (Or.inl ⟨j, i' + 1, false, rfl, hj, ?_, rfl, rfl, rfl, rfl, ?_, hno⟩)
          · rw [hwd]; omega
          · rw [hwd]; exact ⟨fun z3 => absurd z3 (by decide), fun z3 => absurd z3 hf⟩
        by_cases ct : t = true
        · rw [if_pos ct]
          have hti := ht.1 ct
          refine ⟨fun z3 => absurd z3 (nI_m1 (by omega)), fun _ => ?_⟩
          rw [g3, hA.2.1, nI_sub (by omega), nI_leI (by omega) (by omega)]
          refine ⟨fun z3 => bad (fun z4 => by omega), fun z3 => ?_⟩
          have hbi := hA.1.2.2 (tP b sz i + i') (by omega)
          rw [nI_add', nI_clamp (by omega), hbi.2]
          refine ⟨vp_in_nI (by omega) (by decide), s_chr hs (by omega) ?_⟩
          rw [nI_eq (by omega) (by omega), dw.1]
          refine ⟨fun z4 => bad (fun z5 => z4 (z5.2 i' (by omega)).symm), fun z4 => ?_⟩
          rw [nI_1, nI_1]
          refine ih (strLen.getD s 0 + 2 - (ofsW (wdS s) j + (i' + 1))) _ (by omega) (Or.inl ⟨j, i' + 1, true, rfl, hj, ?_, rfl, rfl, rfl, rfl, ?_, hno⟩)
          · rw [hwd]; omega
          · rw [hwd]
            refine ⟨fun _ => ⟨by omega, fun q hq => ?_⟩, fun _ => rfl⟩
            by_cases eq' : q = i'
            · rw [eq']; exact z4.symm
            · exact hti.2 q (by omega)
        · rw [if_neg ct]
          refine ⟨fun _ => bad (fun z4 => ct (ht.2 ⟨by omega, fun q hq => z4.2 q (by omega)⟩)), fun z3 => absurd rfl z3⟩
      · by_cases ei : i' = w.length
        · exact ei
        · exact absurd z2 (d4 i' (by omega)).2
    · simp only [] at e1 e4 ⊢
      subst e1; subst e4
      unfold w_Tape_indexAmong_b16
      refine s_len ⟨fun z => ?_, fun z => absurd ?_ z⟩
      · rw [ix_no hs hno] at k; exact k
      · rw [nI_ltI (by omega) (by omega)]; omega
  · rw [ix_no hs (fun j hj => by rw [h4, show (50 : Int32) = nI 50 from rfl, q25 j hj 50 (by decide)]; have := c6 j hj; omega)] at k
    rw [h2]; exact ⟨fun z => absurd z (by decide), fun _ => k⟩
  · rw [ix_no hs (fun j hj => by rw [h5, q25 j hj _ (by omega)]; have := c6 j hj; omega)] at k
    rw [h2]; exact ⟨fun z => absurd z (by decide), fun _ => k⟩
end WX
