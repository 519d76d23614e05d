/-! ===== both told: a row of acts ===== -/
abbrev RWS3 : Type := (Nat → Int32) × Nat × Nat
def rwB (b : Nat → Nat) (i : Nat) (K : Nat → Int32) : Bool := isFt 0 (nI (b (4 * i))) && isFt 1 (nI (b (4 * i + 1))) && isFt 2 (nI (b (4 * i + 2))) && (decide (b (4 * i + 3) = 0) || actB K (nI (b (4 * i + 3)) - 1)) && decide (nA K < 8)
def rwN (b : Nat → Nat) (i : Nat) (y : RWS3) : RWS3 := if rwB b i y.1 then (adK y.1 (nI (b (4 * i))) (nI (b (4 * i + 1))) (nI (b (4 * i + 2))) (nI (b (4 * i + 3)) - 1), y.2.1 + 1, y.2.2) else (y.1, y.2.1, y.2.2 + 1)
def rwI (b : Nat → Nat) (K : Nat → Int32) : Nat → RWS3
  | 0 => (K, 0, 0)
  | i + 1 => rwN b i (rwI b K i)
theorem ft_b {j : Int32} {b : Nat} (hb : b < 256) (hj : j = 0 ∨ j = 1 ∨ j = 2) : isFt j (i2b (nI b)) = isFt j (nI b) ∧ (isFt j (nI b) = true → i2b (nI b) = nI b) := by
  rcases hj with z | z | z <;> subst z
  · exact co_dec (N := 256) (P := fun b => isFt 0 (i2b (nI b)) = isFt 0 (nI b) ∧ (isFt 0 (nI b) = true → i2b (nI b) = nI b)) (by decide +kernel) hb
  · exact co_dec (N := 256) (P := fun b => isFt 1 (i2b (nI b)) = isFt 1 (nI b) ∧ (isFt 1 (nI b) = true → i2b (nI b) = nI b)) (by decide +kernel) hb
  · exact co_dec (N := 256) (P := fun b => isFt 2 (i2b (nI b)) = isFt 2 (nI b) ∧ (isFt 2 (nI b) = true → i2b (nI b) = nI b)) (by decide +kernel) hb
theorem act_b {K : Nat → Int32} (hI : KI K) {b : Nat} (hb : b < 256) : actB K (i2b (nI b) - 1) = actB K (nI b - 1) ∧ ((b = 0 ∨ actB K (nI b - 1) = true) → i2b (nI b) = nI b) ∧ (i2b (nI b) = 0 ↔ b = 0) ∧ (nI b - 1 = -1 ↔ b = 0) := by
  have h8 := hI.a
  have key := co_dec (N := 2304) (P := fun k => (decide (0 ≤ i2b (nI (k / 9)) - 1 ∧ i2b (nI (k / 9)) - 1 < nI (k % 9)) = decide (0 ≤ nI (k / 9) - 1 ∧ nI (k / 9) - 1 < nI (k % 9))) ∧ ((k / 9 = 0 ∨ decide (0 ≤ nI (k / 9) - 1 ∧ nI (k / 9) - 1 < nI (k % 9)) = true) → i2b (nI (k / 9)) = nI (k / 9)) ∧ (i2b (nI (k / 9)) = 0 ↔ k / 9 = 0) ∧ (nI (k / 9) - 1 = -1 ↔ k / 9 = 0)) (by decide +kernel) (i := 9 * b + nA K) (by omega)
  have e1 : (9 * b + nA K) / 9 = b := by omega
  have e2 : (9 * b + nA K) % 9 = nA K := by omega
  simp only [e1, e2] at key
  exact key
section CW
variable {m x m' x' σ τ : DD} {T : TXT} {n G : Nat} {K K' : Nat → Int32} {L L' : List RD} {d d' : Nat}
theorem rw_ok {b : Nat → Nat} (hI : KI K) {i : Nat} (h : rwB b i K = true) : actOK K (nI (b (4 * i))) (nI (b (4 * i + 1))) (nI (b (4 * i + 2))) (nI (b (4 * i + 3)) - 1) ∧ nA K < 8 := by
  unfold rwB at h
  rw [Bool.and_eq_true, Bool.and_eq_true] at h
  obtain ⟨⟨h1, h2⟩, h3⟩ := h
  obtain ⟨r1, r2, r3⟩ := ft_rng h1
  refine ⟨⟨r1, r2, r3, ?_⟩, of_decide_eq_true h3⟩
  rw [Bool.or_eq_true] at h2
  rcases h2 with z | z
  · left
    rw [of_decide_eq_true z]; decide
  · right; exact actB_e hI z
theorem XS.ad {v0 v1 v2 v3 : Int32} (hX : XS x T K L) (h8 : nA K < 8) (ok : actOK K v0 v1 v2 v3) : XS (adX x (nA K) v0 v1 v2 v3) T (adK K v0 v1 v2 v3) L := by
  have hI := hX.1.2.2
  have hr4 := hI.r
  obtain ⟨hR', hI'⟩ := of_pts (ad_pts (pts_of hX.1.1 hI) h8 ok)
  have ax := adX_ag x (nA K) v0 v1 v2 v3
  have eA := adK_nA (v0 := v0) (v1 := v1) (v2 := v2) (v3 := v3) h8
  have eR : nR (adK K v0 v1 v2 v3) = nR K := nR_cg (adK_ne (by omega))
  refine ⟨⟨hR', ad_cx hX.1.2.1 hI h8, hI'⟩, ⟨?_, hX.2.1.2.1, fun i y hy => ?_⟩, hX.2.2.1.mo (by omega) (by omega), hX.2.2.2⟩
  · rw [ax.i _ _ (by unfold adQ; omega)]; exact hX.2.1.1
  · rw [ax.i _ _ (by unfold adQ; omega), ax.i _ _ (by unfold adQ; omega), ax.i _ _ (by unfold adQ; omega)]; exact hX.2.1.2.2 i y hy
theorem rwI_ok {b : Nat → Nat} (hX : XS x T K L) : ∀ i, (∃ x', XS x' T (rwI b K i).1 L) ∧ (rwI b K i).2.1 + (rwI b K i).2.2 = i := by
  intro i
  induction i with
  | zero => exact ⟨⟨x, hX⟩, rfl⟩
  | succ i ih =>
    obtain ⟨⟨x', hx'⟩, hs⟩ := ih
    show (∃ x', XS x' T (rwN b i (rwI b K i)).1 L) ∧ (rwN b i (rwI b K i)).2.1 + (rwN b i (rwI b K i)).2.2 = i + 1
    unfold rwN
    by_cases c : rwB b i (rwI b K i).1 = true
    · rw [if_pos c]
      obtain ⟨ok, h8⟩ := rw_ok hx'.1.2.2 c
      exact ⟨⟨_, hx'.ad h8 ok⟩, by simp only []; omega⟩
    · rw [if_neg c]
      exact ⟨⟨x', hx'⟩, by simp only []; omega⟩
def rwX (o p : Nat) : Prop := o = 202 ∨ (o = 200 ∧ p = 0) ∨ (o = 0 ∧ p = 12)
theorem s_addRow {b : Nat → Nat} {i sz : Nat} {post : Int32 → DD → Prop} (hX : XS σ T K L) (h1 : gI σ 20 1 = nI sz) (hsz : sz ≤ 400) (hi : 4 * i < sz) (hb : ∀ j, j < sz → b j < 256 ∧ gI σ 21 j = nI (b j)) (k0 : (sz < 4 * i + 4 ∨ rwB b i K = false) → post 0 σ) (k1 : 4 * i + 4 ≤ sz → rwB b i K = true → post 1 (adX σ (nA K) (nI (b (4 * i))) (nI (b (4 * i + 1))) (nI (b (4 * i + 2))) (nI (b (4 * i + 3)) - 1))) : w_Face_addActOfRow T σ (nI (4 * i)) post := by
  have hI := hX.1.2.2
  have ha8 := hI.a
  unfold w_Face_addActOfRow
  have lt : ((nI sz - 4) < nI (4 * i)) ↔ sz < 4 * i + 4 := by
    by_cases c : sz < 4
    · have : nI sz - 4 < 0 := by
        have h3 : sz = 0 ∨ sz = 1 ∨ sz = 2 ∨ sz = 3 := by omega
        rcases h3 with z | z | z | z <;> subst z <;> decide
      have h0 := nI_pos' (n := 4 * i) (by omega)
      constructor
      · intro _; omega
      · intro _; grind
    · obtain ⟨k, ek⟩ : ∃ k, sz = k + 4 := ⟨sz - 4, by omega⟩
      subst ek
      have : nI (k + 4) - 4 = nI k := by rw [← nI_add]; show nI k + 4 - 4 = nI k; grind
      rw [this, nI_ltI (by omega) (by omega)]; omega
  rw [h1, lt, hX.1.1.na, ha8.1, show (8 : Int32) = nI 8 from rfl, nI_ltI (by omega) (by decide)]
  refine ⟨fun q => k0 (Or.inl q), fun q => ⟨fun q2 => ?_, fun q2 => k0 (Or.inr ?_)⟩⟩
  · have b0 := hb (4 * i) (by omega)
    have b1 := hb (4 * i + 1) (by omega)
    have b2 := hb (4 * i + 2) (by omega)
    have b3 := hb (4 * i + 3) (by omega)
    rw [show nI (4 * i) + 0 = nI (4 * i) from nI_add _ 0, nI_1, show nI (4 * i) + 2 = nI (4 * i + 2) from nI_add _ 2, show nI (4 * i) + 3 = nI (4 * i + 3) from nI_add _ 3, nI_clamp (by omega), nI_clamp (by omega), nI_clamp (by omega), nI_clamp (by omega), b0.2, b1.2, b2.2, b3.2]
    refine ⟨vp_in_nI (by omega) (by decide), fun v6 e6 => ⟨vp_in_nI (by omega) (by decide), fun v9 e9 => ⟨vp_in_nI (by omega) (by decide), fun v12 e12 => ⟨vp_in_nI (by omega) (by decide), fun v15 e15 => ?_⟩⟩⟩⟩
    subst e6; subst e9; subst e12; subst e15
    have ab := act_b hI b3.1
    have all : ∀ z, (isFt 0 (nI (b (4 * i))) && isFt 1 (nI (b (4 * i + 1))) && isFt 2 (nI (b (4 * i + 2)))) = z → rwB b i K = (z && (decide (b (4 * i + 3) = 0) || actB K (nI (b (4 * i + 3)) - 1)) && true) := by
      intro z hz
      unfold rwB
      rw [hz, show decide (nA K < 8) = true from decide_eq_true q2]
    refine s_XcanBeAct (br0 (fun e => k0 (Or.inr (by rw [all _ e]; rfl))) (fun e => ⟨fun z => ?_, fun z => ?_⟩))
    · unfold w_Face_addActOfRow_j109
      refine s_addAct (hX.1.1.na.trans ha8.1) q2 (k1 (by omega) ?_)
      rw [all _ e, show decide (b (4 * i + 3) = 0) = true from decide_eq_true (ab.2.2.2.1 z)]; rfl
    · have nz : decide (b (4 * i + 3) = 0) = false := decide_eq_false (fun w => z (ab.2.2.2.2 w))
      refine s_XisAct hX.1.1 hI (br1 (fun e2 => ?_) (fun e2 => k0 (Or.inr (by rw [all _ e, nz, e2]; rfl))))
      unfold w_Face_addActOfRow_j109
      exact s_addAct (hX.1.1.na.trans ha8.1) q2 (k1 (by omega) (by rw [all _ e, nz, e2]; rfl))
  · unfold rwB
    rw [show decide (nA K < 8) = false from decide_eq_false q2, Bool.and_false]
theorem s_Xrow {b : Nat → Nat} {sz : Nat} {post : Int32 → DD → Prop} (hX : XS σ T K L) (h1 : gI σ 20 1 = nI sz) (hsz : sz ≤ 400) (h12 : gI σ 0 12 = 0) (hb : ∀ j, j < sz → b j < 256 ∧ gI σ 21 j = nI (b j)) (k : ∀ τ, AgX rwX (fun _ => False) σ τ → XS τ T (rwI b K (sz / 4)).1 L → gI τ 0 12 = nI ((rwI b K (sz / 4)).2.2 + (if sz % 4 = 0 then 0 else 1)) → w_Face_granted T (sI τ 20 1 0) (nI (rwI b K (sz / 4)).2.1) post) : w_Face_row_l26 T post σ 0 0 := by
  unfold w_Face_row_l26
  refine LoopN (fun c y => (∃ i, c = 2 * (sz / 4 - i) + 1 ∧ i ≤ sz / 4 ∧ AgX rwX (fun _ => False) σ y.1 ∧ XS y.1 T (rwI b K i).1 L ∧ gI y.1 0 12 = nI (rwI b K i).2.2 ∧ y.2.1 = nI (rwI b K i).2.1 ∧ y.2.2 = nI (4 * i)) ∨ (c = 0 ∧ ¬ sz % 4 = 0 ∧ AgX rwX (fun _ => False) σ y.1 ∧ XS y.1 T (rwI b K (sz / 4)).1 L ∧ gI y.1 0 12 = nI ((rwI b K (sz / 4)).2.2 + 1) ∧ y.2.1 = nI (rwI b K (sz / 4)).2.1 ∧ y.2.2 = nI (4 * (sz / 4) + 4))) ?_ (n := 2 * (sz / 4) + 1) (Or.inl ⟨0, rfl, Nat.zero_le _, AgX.refl σ, hX, h12, rfl, rfl⟩)
  rintro c ⟨υ, a1, a2⟩ KK hh ih
  rcases hh with ⟨i, hc, hi, ag, hXi, e12, e1, e2⟩ | ⟨hc, hm, ag, hXi, e12, e1, e2⟩
  · simp only [] at ag hXi e12 e1 e2 ⊢
    subst e1; subst e2
    have hs20 : gI υ 20 1 = nI sz := by rw [ag.i _ _ (by unfold rwX; omega)]; exact h1
    have hb' : ∀ j, j < sz → b j < 256 ∧ gI υ 21 j = nI (b j) := fun j hj => by rw [ag.i _ _ (by unfold rwX; omega)]; exact hb j hj
    have hsum := (rwI_ok (b := b) hX i).2
    unfold w_Face_row_b26
    rw [hs20, nI_leI (by omega) (by omega)]
    refine ⟨fun q σ2 es => ?_, fun q => ?_⟩
    · have hi2 : i = sz / 4 := by omega
      have hz : sz % 4 = 0 := by omega
      subst es; subst hi2
      refine k υ ag hXi ?_
      rw [if_pos hz]; exact e12
    · refine s_addRow hXi hs20 hsz (by omega) hb' (fun z => ⟨fun _ σ9 e9 => ?_, fun w => absurd rfl w⟩) (fun z1 z2 => ⟨fun w => absurd w (by decide), fun _ => ?_⟩)
      · rw [e12, nI_1] at e9
        rw [show nI (4 * i) + 4 = nI (4 * i + 4) from nI_add _ 4]
        have ag9 : AgX (fun o p => o = 0 ∧ p = 12) (fun _ => False) υ σ9 := by rw [e9]; exact AgX.put ⟨rfl, rfl⟩
        have hX9 := hXi.lo ag9 (by omega)
        have ag9' : AgX rwX (fun _ => False) σ σ9 := ag.trans (ag9.mono (fun o p w => by unfold rwX; omega) (fun _ w => w))
        by_cases c4 : sz < 4 * i + 4
        · have hi2 : i = sz / 4 := by omega
          subst hi2
          exact ih 0 _ (by omega) (Or.inr ⟨rfl, by omega, ag9', hX9, by rw [e9]; simp only []; rw [gI_same], rfl, rfl⟩)
        · have zf : rwB b i (rwI b K i).1 = false := by
            rcases z with z | z
            · exact absurd z c4
            · exact z
          have es : rwI b K (i + 1) = ((rwI b K i).1, (rwI b K i).2.1, (rwI b K i).2.2 + 1) := by
            show rwN b i (rwI b K i) = _
            unfold rwN; rw [if_neg (by rw [zf]; decide)]
          refine ih (2 * (sz / 4 - (i + 1)) + 1) _ (by omega) (Or.inl ⟨i + 1, rfl, by omega, ag9', ?_, ?_, ?_, by simp only []; congr 1⟩)
          · rw [es]; exact hX9
          · rw [es, e9]; simp only []; rw [gI_same]
          · rw [es]
      · obtain ⟨ok, h8⟩ := rw_ok hXi.1.2.2 z2
        have es : rwI b K (i + 1) = (adK (rwI b K i).1 (nI (b (4 * i))) (nI (b (4 * i + 1))) (nI (b (4 * i + 2))) (nI (b (4 * i + 3)) - 1), (rwI b K i).2.1 + 1, (rwI b K i).2.2) := by
          show rwN b i (rwI b K i) = _
          unfold rwN; rw [if_pos z2]
        have ag9 := adX_ag υ (nA (rwI b K i).1) (nI (b (4 * i))) (nI (b (4 * i + 1))) (nI (b (4 * i + 2))) (nI (b (4 * i + 3)) - 1)
        rw [show nI (4 * i) + 4 = nI (4 * i + 4) from nI_add _ 4, nI_1]
        refine ih (2 * (sz / 4 - (i + 1)) + 1) _ (by omega) (Or.inl ⟨i + 1, rfl, by omega, ag.trans (ag9.mono (fun o p w => by unfold adQ at w; unfold rwX; omega) (fun _ w => w)), ?_, ?_, ?_, by simp only []; congr 1⟩)
        · rw [es]; exact hXi.ad h8 ok
        · rw [es]; simp only []; rw [ag9.i _ _ (by unfold adQ; omega)]; exact e12
        · rw [es]
  · simp only [] at ag hXi e12 e1 e2 ⊢
    subst e1; subst e2
    have hs20 : gI υ 20 1 = nI sz := by rw [ag.i _ _ (by unfold rwX; omega)]; exact h1
    unfold w_Face_row_b26
    rw [hs20, nI_leI (by omega) (by omega)]
    refine ⟨fun q σ2 es => ?_, fun q => absurd (show sz ≤ 4 * (sz / 4) + 4 by omega) q⟩
    subst es
    refine k υ ag hXi ?_
    rw [if_neg hm]; exact e12
def rwM (o p : Nat) : Prop := (o = 0 ∧ p = 6) ∨ (o = 4 ∧ (p < 32 ∨ p = 399))
theorem s_Mrow {b : Nat → Nat} {sz : Nat} {post : Int32 → DD → Prop} (hX : XS x T K L) (hK : MK σ K) (hsz : sz ≤ 400) {mu : Nat} (h12 : gI σ 0 6 = nI mu) (hb : ∀ j, j < sz → b j < 256 ∧ gI σ 12 j = i2b (nI (b j))) (k : ∀ τ, Ag rwM σ τ → MK τ (rwI b K (sz / 4)).1 → gI τ 0 6 = nI ((rwI b K (sz / 4)).2.2 + mu) → w_M_good τ (nI (rwI b K (sz / 4)).2.1) post) : w_M_row_l40 post σ (nI sz) 0 0 := by
  unfold w_M_row_l40
  refine LoopN (fun c y => ∃ i, c = sz / 4 - i ∧ i ≤ sz / 4 ∧ Ag rwM σ y.1 ∧ MK y.1 (rwI b K i).1 ∧ gI y.1 0 6 = nI ((rwI b K i).2.2 + mu) ∧ y.2.1 = nI (rwI b K i).2.1 ∧ y.2.2 = nI (4 * i)) ?_ (n := sz / 4) ⟨0, rfl, Nat.zero_le _, Ag.refl σ, hK, by rw [h12]; show nI mu = nI (0 + mu); rw [Nat.zero_add], rfl, rfl⟩
  rintro c ⟨υ, a2, a3⟩ KK ⟨i, hc, hi, ag, hKi, e6, e1, e2⟩ ih
  simp only [] at ag hKi e6 e1 e2 ⊢
  subst e1; subst e2
  obtain ⟨⟨x', hx'⟩, hsum⟩ := rwI_ok (b := b) hX i
  have hI := hx'.1.2.2
  have ha8 := hI.a
  have hb' : ∀ j, j < sz → b j < 256 ∧ gI υ 12 j = i2b (nI (b j)) := fun j hj => by rw [ag.at _ _ (by unfold rwM; omega)]; exact hb j hj
  unfold w_M_row_b40
  rw [show nI (4 * i) + 4 = nI (4 * i + 4) from nI_add _ 4, nI_ltI (by omega) (by omega)]
  refine ⟨fun q => ?_, fun q => ?_⟩
  · have hi2 : i = sz / 4 := by omega
    subst hi2
    exact k υ ag hKi e6
  have b0 := hb' (4 * i) (by omega)
  have b1 := hb' (4 * i + 1) (by omega)
  have b2 := hb' (4 * i + 2) (by omega)
  have b3 := hb' (4 * i + 3) (by omega)
  have f0 := ft_b (j := 0) b0.1 (Or.inl rfl)
  have f1 := ft_b (j := 1) b1.1 (Or.inr (Or.inl rfl))
  have f2 := ft_b (j := 2) b2.1 (Or.inr (Or.inr rfl))
  have ab := act_b hI b3.1
  have no : rwB b i (rwI b K i).1 = false → w_M_row_j135 (fun σ a2 a3 => KK (σ, a2, a3)) post υ (nI sz) (nI (rwI b K i).2.1) (nI (4 * i)) := by
    intro z
    have es : rwI b K (i + 1) = ((rwI b K i).1, (rwI b K i).2.1, (rwI b K i).2.2 + 1) := by
      show rwN b i (rwI b K i) = _
      unfold rwN; rw [if_neg (by rw [z]; decide)]
    unfold w_M_row_j135 w_M_row_j136 w_M_row_j179 w_M_row_j190 w_M_row_j207
    refine ⟨fun _ => ⟨fun _ v3 e3 => ⟨fun _ σ1 es1 => ?_, fun w => absurd rfl w⟩, fun w => absurd rfl w⟩, fun w => absurd rfl w⟩
    rw [show nI (rwI b K i).2.1 + 0 = nI (rwI b K i).2.1 from nI_add _ 0] at e3
    rw [e6, nI_1] at es1
    subst e3; subst es1
    rw [show nI (4 * i) + 4 = nI (4 * i + 4) from nI_add _ 4]
    refine ih (sz / 4 - (i + 1)) _ (by omega) ⟨i + 1, rfl, by omega, ag.set (Or.inl ⟨rfl, rfl⟩), ?_, ?_, ?_, by simp only []; congr 1⟩
    · rw [es]; intro p hp; simp only []; rw [gI_sI, if_neg (by omega)]; exact hKi p hp
    · rw [es]; simp only []; rw [gI_same]; congr 1; omega
    · rw [es]
  have yes : rwB b i (rwI b K i).1 = true → i2b (nI (b (4 * i))) = nI (b (4 * i)) → i2b (nI (b (4 * i + 1))) = nI (b (4 * i + 1)) → i2b (nI (b (4 * i + 2))) = nI (b (4 * i + 2)) → i2b (nI (b (4 * i + 3))) = nI (b (4 * i + 3)) → w_M_row_j136 (fun σ a2 a3 => KK (σ, a2, a3)) post υ (nI sz) (nI (rwI b K i).2.1) (nI (4 * i)) 1 := by
    intro z g0 g1 g2 g3
    obtain ⟨ok, h8⟩ := rw_ok hI z
    have es : rwI b K (i + 1) = (adK (rwI b K i).1 (nI (b (4 * i))) (nI (b (4 * i + 1))) (nI (b (4 * i + 2))) (nI (b (4 * i + 3)) - 1), (rwI b K i).2.1 + 1, (rwI b K i).2.2) := by
      show rwN b i (rwI b K i) = _
      unfold rwN; rw [if_pos z]
    unfold w_M_row_j136
    rw [nI_1, show nI (4 * i) + 2 = nI (4 * i + 2) from nI_add _ 2, show nI (4 * i) + 3 = nI (4 * i + 3) from nI_add _ 3, nI_clamp (by omega), nI_clamp (by omega), nI_clamp (by omega), nI_clamp (by omega), b0.2, b1.2, b2.2, b3.2, g0, g1, g2, g3]
    refine ⟨fun w => absurd w (by decide), fun _ => ⟨vp_in_nI (by omega) (by decide), vp_in_nI (by omega) (by decide), vp_in_nI (by omega) (by decide), vp_in_nI (by omega) (by decide), ?_⟩⟩
    refine s_adds ((hKi 399 (by unfold dyn; omega)).trans ha8.1) h8 ?_
    have aga := adM_ag υ (nA (rwI b K i).1) (nI (b (4 * i))) (nI (b (4 * i + 1))) (nI (b (4 * i + 2))) (nI (b (4 * i + 3)) - 1)
    unfold w_M_row_j179 w_M_row_j190 w_M_row_j207
    refine ⟨fun w => absurd w (by decide), fun _ v3 e3 => ⟨fun w => absurd w (by decide), fun _ σ1 es1 => ?_⟩⟩
    rw [nI_1] at e3
    rw [aga.at _ _ (by unfold adP; omega), e6, show nI ((rwI b K i).2.2 + mu) + 0 = nI ((rwI b K i).2.2 + mu) from nI_add _ 0] at es1
    subst e3; subst es1
    rw [show nI (4 * i) + 4 = nI (4 * i + 4) from nI_add _ 4]
    have hKa := adM_mk hKi (nI (b (4 * i))) (nI (b (4 * i + 1))) (nI (b (4 * i + 2))) (nI (b (4 * i + 3)) - 1)
    refine ih (sz / 4 - (i + 1)) _ (by omega) ⟨i + 1, rfl, by omega, (ag.trans (aga.mono (fun o p w => by unfold adP at w; unfold rwM; omega))).set (Or.inl ⟨rfl, rfl⟩), ?_, ?_, ?_, by simp only []; congr 1⟩
    · rw [es]; intro p hp; simp only []; rw [gI_sI, if_neg (by omega)]; exact hKa p hp
    · rw [es]; simp only []; rw [gI_same]
    · rw [es]
  rw [nI_1, show nI (4 * i) + 2 = nI (4 * i + 2) from nI_add _ 2, show nI (4 * i) + 3 = nI (4 * i + 3) from nI_add _ 3, nI_clamp (by omega), nI_clamp (by omega), nI_clamp (by omega), nI_clamp (by omega), b0.2]
  refine ⟨vp_in_nI (by omega) (by decide), s_isFact ?_⟩
  rw [f0.1, b1.2]
  refine br0 (fun e => no (by unfold rwB; rw [e]; rfl)) (fun e0 => ⟨vp_in_nI (by omega) (by decide), s_isFact ?_⟩)
  rw [f1.1, b2.2]
  refine br0 (fun e => no (by unfold rwB; rw [e0, e]; rfl)) (fun e1 => ⟨vp_in_nI (by omega) (by decide), s_isFact ?_⟩)
  rw [f2.1, b3.2]
  refine br0 (fun e => no (by unfold rwB; rw [e0, e1, e]; rfl)) (fun e2 => ⟨vp_in_nI (by omega) (by decide), ?_⟩)
  have all : rwB b i (rwI b K i).1 = ((decide (b (4 * i + 3) = 0) || actB (rwI b K i).1 (nI (b (4 * i + 3)) - 1)) && decide (nA (rwI b K i).1 < 8)) := by
    unfold rwB; rw [e0, e1, e2]; rfl
  have j118 : (b (4 * i + 3) = 0 ∨ actB (rwI b K i).1 (nI (b (4 * i + 3)) - 1) = true) → w_M_row_j118 (fun σ a2 a3 => KK (σ, a2, a3)) post υ (nI sz) (nI (rwI b K i).2.1) (nI (4 * i)) := by
    intro z
    have zt : (decide (b (4 * i + 3) = 0) || actB (rwI b K i).1 (nI (b (4 * i + 3)) - 1)) = true := by
      rcases z with w | w
      · rw [decide_eq_true w]; rfl
      · rw [w, Bool.or_true]
    rw [zt, Bool.true_and] at all
    unfold w_M_row_j118
    rw [hKi 399 (by unfold dyn; omega), ha8.1, show (8 : Int32) = nI 8 from rfl, nI_leI (by decide) (by omega)]
    refine ⟨fun w => no (by rw [all]; exact decide_eq_false (by omega)), fun w => yes (by rw [all]; exact decide_eq_true (by omega)) (f0.2 e0) (f1.2 e1) (f2.2 e2) (ab.2.1 z)⟩
  refine ⟨fun w => j118 (Or.inl (ab.2.2.1.1 w)), fun w => ⟨vp_in_nI (by omega) (by decide), s_isAct hKi hI ?_⟩⟩
  rw [ab.1]
  refine br0 (fun e => no ?_) (fun e => j118 (Or.inr e))
  rw [all, e, decide_eq_false (fun z => w (ab.2.2.1.2 z))]; rfl
theorem p_row (h : INV T m x n) (hn : n < 2 ^ 20) : w_Face_row T x (fun r x' => w_M_row m (fun r' m' => r = r' ∧ INV T m' x' (n + 1))) := by
  obtain ⟨K, L, d, hM, hB, -⟩ := h.b
  have hX := hB.1
  have hI := hX.1.2.2
  have h1 := hB.2.1
  have h2 := hB.2.2.1
  have h3 := hB.2.2.2.1
  have h4 := hB.2.2.2.2.1
  have h5 := hB.2.2.2.2.2.1
  have hRS := hB.2.2.2.2.2.2.1
  obtain ⟨g, hg1, hg2⟩ := hB.2.2.2.2.2.2.2.2.2.2
  obtain ⟨-, -, ⟨sz, t1, t2, t3, t4⟩, -, -, -⟩ := hRS
  have z0 : ∀ k, k < 2 ^ 31 → (nI k = 0 ↔ k = 0) := fun k hk => by rw [show (0 : Int32) = nI 0 from rfl, nI_eq hk (by decide)]
  unfold w_Face_row
  rw [t2, z0 _ (by omega)]
  refine ⟨fun q σ12 e12 => ?_, fun q => ?_⟩
  · obtain ⟨b, hb⟩ : ∃ b : Nat → Nat, ∀ j, j < sz → b j < 256 ∧ gI x 21 j = nI (b j) ∧ gI m 12 j = i2b (nI (b j)) := by
      refine ⟨fun j => if hj : j < sz then (t4 j hj).choose else 0, fun j hj => ?_⟩
      simp only [dif_pos hj]
      exact (t4 j hj).choose_spec
    have ag12 : AgX (fun o p => o = 0 ∧ p = 12) (fun _ => False) x σ12 := by rw [e12]; exact AgX.put ⟨rfl, rfl⟩
    refine s_Xrow (hX.lo ag12 (by omega)) (by rw [ag12.i _ _ (by omega)]; exact t2) t1 (by rw [e12, gI_same]) (fun j hj => ⟨(hb j hj).1, by rw [ag12.i _ _ (by omega)]; exact (hb j hj).2.1⟩) ?_
    intro x1 ax1 hX1 e1
    refine s_granted ?_
    unfold w_M_row
    intro v38 e38 σ40 e40
    rw [t3] at e38
    subst e38
    rw [z0 _ (by omega), show jrem (nI sz) 4 = nI (sz % 4) from jrem_n (b := 4) (by omega) (by decide) (by decide), z0 _ (by omega)]
    have ag40 : Ag (fun o p => o = 0 ∧ p = 13) m σ40 := by rw [e40]; exact Ag.put ⟨rfl, rfl⟩
    have go : ∀ mu, mu = (if sz % 4 = 0 then 0 else 1) → w_M_row_j35 (fun r' m' => nI (rwI b K (sz / 4)).2.1 = r' ∧ INV T m' (sI (sI x1 20 1 0) 0 11 0) (n + 1)) σ40 (nI sz) 0 (nI mu) := by
      intro mu hmu
      unfold w_M_row_j35
      intro σ36 e36
      have ag36 : Ag (fun o p => o = 0 ∧ (p = 6 ∨ p = 13)) m σ36 := by
        refine (ag40.mono (fun o p z => by omega)).trans ?_
        rw [e36]; exact Ag.put (by omega)
      refine s_Mrow hX (hM.1.1.ag ag36 (by omega)) t1 (mu := mu) (by rw [e36, gI_same]) (fun j hj => ⟨(hb j hj).1, by rw [ag36.at _ _ (by omega)]; exact (hb j hj).2.2⟩) ?_
      intro m1 ag1 hK1 e6
      refine s_good ⟨rfl, ?_⟩
      have ag : Ag (fun o p => rwM o p ∨ (o = 0 ∧ p = 13)) m m1 := (ag36.mono (fun o p z => by unfold rwM; omega)).trans (ag1.mono (fun o p z => Or.inl z))
      have ax : AgX (fun o p => rwX o p ∨ (o = 20 ∧ p = 1)) (fun _ => False) x (sI x1 20 1 0) := ((ag12.mono (fun o p z => by unfold rwX; omega) (fun _ z => z)).trans (ax1.mono (fun o p z => Or.inl z) (fun _ z => z))).set (Or.inr ⟨rfl, rfl⟩)
      have hX2 : XS (sI x1 20 1 0) T (rwI b K (sz / 4)).1 L := hX1.lo (P := fun o p => o = 20 ∧ p = 1) (Q := fun _ => False) (AgX.put ⟨rfl, rfl⟩) (by omega)
      have e13 : gI m1 0 13 = 0 := by rw [ag1.at _ _ (by unfold rwM; omega), e36, gI_sI, if_neg (by omega), e40, gI_same]
      refine INB.good (K := (rwI b K (sz / 4)).1) (L := L) ⟨hK1, hM.1.2.1.ag ag (by unfold rwM; omega) (by unfold rwM; omega), hX2.1.2.2, hM.2.2.1.fr (fun p hp => ag.at 4 p (by unfold rwM; omega)), hX2.2.2.1⟩ (hB.gen (P := fun o p => rwM o p ∨ (o = 0 ∧ p = 13)) (fun o p z => ag.at o p z) ⟨fun p => by unfold rwM; omega, by unfold rwM; omega⟩ ax (by unfold rwX; omega) hX2 ?_ ?_ h3 h4 h5 ?_ ⟨g, by omega, ?_⟩) hn
      · rw [ag.at 4 395 (by unfold rwM; omega)]; exact h1
      · rw [ax.i 208 0 (by unfold rwX; omega)]; exact h2
      · refine hB.2.2.2.2.2.2.1.gen (P := fun o p => rwM o p ∨ (o = 0 ∧ p = 13)) (Q := fun o p => rwX o p ∨ (o = 20 ∧ p = 1)) (fun o p z => ag.at o p z) (fun o p z => ax.i o p z) (Or.inl ?_) (Or.inr (by unfold rwM rwX; omega)) (Or.inr (by unfold rwM rwX; omega)) ⟨fun p => by unfold rwM; omega, fun p => by unfold rwX; omega⟩ (Or.inl ⟨0, by omega, gI_same, e13, by omega⟩) (Or.inr ⟨by unfold rwM; omega, fun p => by unfold rwM; omega, by unfold rwX; omega, fun p => by unfold rwX; omega⟩) (fun p => by unfold rwM; omega)
        rw [e6, gI_sI, if_neg (by omega), e1, hmu]
      · rw [ax.i 50 5 (by unfold rwX; omega)]; exact hg2
    refine ⟨fun _ => ⟨fun z => go 1 (by rw [if_neg z]), fun z => go 0 (by rw [if_pos z])⟩, fun z => absurd z q⟩
  · have est : sz = 0 := q
    refine s_refused (Or.inr (Or.inr (Or.inr (Or.inr rfl)))) ?_
    unfold w_M_row
    intro v38 e38 σ40 e40
    rw [t3] at e38
    subst e38
    rw [z0 _ (by omega)]
    refine ⟨fun z => absurd q z, fun _ => s_refuses (Or.inr (Or.inr (Or.inr (Or.inr rfl)))) ⟨rfl, ?_⟩⟩
    have ag40 : Ag (fun o p => o = 0 ∧ p = 13) m σ40 := by rw [e40]; exact Ag.put ⟨rfl, rfl⟩
    have hh := h.tp (m' := σ40) (x' := x) (P2 := fun o p => o = 20 ∧ p = 1) ag40 (by omega) (AgX.refl x) (by omega) ⟨0, by omega, by rw [t2, est], by rw [e40, gI_same]; rfl, by omega⟩
    obtain ⟨K2, L2, d2, hM2, hB2, -⟩ := hh.b
    exact hB2.ref hM2 (Or.inr (Or.inr (Or.inr (Or.inr rfl))))
end CW
