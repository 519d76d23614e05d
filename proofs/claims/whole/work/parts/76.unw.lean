/-! ===== fines, and readings that nobody wrote down ===== -/
def fD (K : Nat → Int32) (i : Nat) : Nat := (K (363 + 4 * i)).toNatClampNeg
def fK (K : Nat → Int32) (i : Nat) : Nat := (K (363 + 4 * i + 1)).toNatClampNeg
def fA (K : Nat → Int32) (i : Nat) : Nat := (K (363 + 4 * i + 2)).toNatClampNeg
def fI (K : Nat → Int32) (i : Nat) : Bool := decide (K (363 + 4 * i + 3) = 1)
def bnB (K : Nat → Int32) (i : Nat) : Bool := bOf (K (4 * fA K i + 2)) (fK K i)
def soF (K : Nat → Int32) (L : List RD) (i : Nat) : Bool := (bnB K i && hold K L (fA K i) (fD K i)) == fI K i
def soA (K : Nat → Int32) (L : List RD) : Bool := (List.range (nF K)).all (soF K L)
section UW
variable {σ τ : DD} {T : TXT} {K : Nat → Int32} {L : List RD}
theorem fin_e (hI : KI K) {i : Nat} (hi : i < nF K) : K (363 + 4 * i) = nI (fD K i) ∧ fD K i ≤ 999 ∧ K (363 + 4 * i + 1) = nI (fK K i) ∧ fK K i ≤ 5 ∧ K (363 + 4 * i + 2) = nI (fA K i) ∧ fA K i < nA K := by
  have h := hI.fn hi
  have ha8 := hI.a
  have h1 := rng_n h.1 (by decide)
  have h2 := rng_n h.2.1 (by decide)
  obtain ⟨m, hm, em⟩ := h.2.2.1
  refine ⟨h1.1, h1.2.2, h2.1, h2.2.2, ?_, ?_⟩
  · unfold fA; rw [em, nI_clamp (by omega)]
  · unfold fA; rw [em, nI_clamp (by omega)]; exact hm
theorem binds_e (hI : KI K) {a : Nat} (ha : a < nA K) : ∃ m, m < 2 ^ 6 ∧ K (4 * a + 2) = nI m := by
  obtain ⟨n, h1, h2, e⟩ := (hI.act ha).2.2.1
  exact ⟨n, by omega, e⟩
theorem all_range_succ {p : Nat → Bool} (n : Nat) : (List.range (n + 1)).all p = ((List.range n).all p && p n) := by
  rw [List.range_succ, List.all_append]; simp
theorem s_areSo {post : Int32 → DD → Prop} (hS : MS σ K L) (k : ∀ τ, Ag qP σ τ → MS τ K L → post (bl (soA K L)) τ) : w_M_areSo σ post := by
  have hI := hS.2.1
  have ha8 := hI.a
  have hf8 := hI.f
  unfold w_M_areSo w_M_areSo_l2
  refine LoopN (fun c y => ∃ i, c = nF K - i ∧ i ≤ nF K ∧ Ag qP σ y.1 ∧ MS y.1 K L ∧ y.2 = nI i ∧ (List.range i).all (soF K L) = true) ?_ (n := nF K) ⟨0, rfl, Nat.zero_le _, Ag.refl σ, hS, rfl, rfl⟩
  rintro c ⟨υ, a1⟩ KK ⟨i, hc, hi, ag, hSu, e1, hall⟩ ih
  simp only [] at ag hSu e1 hall ⊢
  subst e1
  unfold w_M_areSo_b2
  rw [hSu.1.1 402 (by unfold dyn; omega), hf8.1, nI_leI (by omega) (by omega)]
  refine ⟨fun z => ?_, fun z => ?_⟩
  · have : i = nF K := by omega
    subst this
    have := k υ ag hSu
    unfold soA at this
    rw [hall] at this; exact this
  · have hf := fin_e hI (i := i) (by omega)
    have hb := binds_e hI hf.2.2.2.2.2
    obtain ⟨m, hm, em⟩ := hb
    intro v5 e5
    rw [show (363 : Int32) = nI 363 from rfl, show (4 : Int32) = nI 4 from rfl, pk_mul, nI_add] at e5
    subst e5
    have e2 : nI (363 + 4 * i) + 2 = nI (363 + 4 * i + 2) := nI_add _ 2
    have e3 : nI (363 + 4 * i) + 3 = nI (363 + 4 * i + 3) := nI_add _ 3
    have g : ∀ υ', MS υ' K L → gI υ' 4 (363 + 4 * i) = nI (fD K i) ∧ gI υ' 4 (363 + 4 * i + 1) = nI (fK K i) ∧ gI υ' 4 (363 + 4 * i + 2) = nI (fA K i) ∧ gI υ' 4 (363 + 4 * i + 3) = K (363 + 4 * i + 3) := by
      intro υ' h
      rw [h.1.1 (363 + 4 * i) (by unfold dyn; omega), h.1.1 (363 + 4 * i + 1) (by unfold dyn; omega), h.1.1 (363 + 4 * i + 2) (by unfold dyn; omega), h.1.1 (363 + 4 * i + 3) (by unfold dyn; omega)]
      exact ⟨hf.1, hf.2.2.1, hf.2.2.2.2.1, rfl⟩
    have j75 : ∀ υ' (b : Bool), Ag qP υ υ' → MS υ' K L → b = (bnB K i && hold K L (fA K i) (fD K i)) → w_M_areSo_j75 (fun σ a1 => KK (σ, a1)) post υ' (nI i) (nI (363 + 4 * i)) (bl b) := by
      intro υ' b a' hS' hb
      unfold w_M_areSo_j75 w_M_areSo_j94
      rw [e3, nI_clamp (by omega), (g υ' hS').2.2.2]
      have yes : soF K L i = true → KK (υ', nI i + 1) := by
        intro hso
        rw [nI_1]
        refine ih (nF K - (i + 1)) _ (by omega) ⟨i + 1, rfl, by omega, ag.trans a', hS', rfl, ?_⟩
        rw [all_range_succ, hall, hso]; rfl
      have no : soF K L i = false → post 0 υ' := by
        intro hso
        have := k υ' (ag.trans a') hS'
        have hf' : soA K L = false := by
          unfold soA
          rw [List.all_eq_false]
          exact ⟨i, List.mem_range.2 (by omega), by rw [hso]; simp⟩
        rw [hf'] at this; exact this
      refine ⟨vp_in_nI (by omega) (by decide), fun w => ?_, fun w => ?_⟩
      · have hfi : fI K i = false := decide_eq_false w
        cases b with
        | false => exact ⟨fun _ => yes (by unfold soF; rw [← hb, hfi]; rfl), fun w2 => absurd rfl w2⟩
        | true => exact ⟨fun w2 => absurd w2 (by decide), fun _ => no (by unfold soF; rw [← hb, hfi]; rfl)⟩
      · have hfi : fI K i = true := decide_eq_true w
        cases b with
        | false => exact ⟨fun w2 => absurd w2 (by decide), fun _ => no (by unfold soF; rw [← hb, hfi]; rfl)⟩
        | true => exact ⟨fun _ => yes (by unfold soF; rw [← hb, hfi]; rfl), fun w2 => absurd rfl w2⟩
    unfold w_M_areSo_j74
    rw [e2, nI_clamp (by omega), (g υ hSu).2.2.1]
    refine ⟨vp_in_nI (by omega) (by decide), s_fact 2 rfl (by omega) (by omega) ?_⟩
    rw [hSu.1.1 (4 * fA K i + 2) (dyn_lt (by omega)), nI_1, nI_clamp (by omega), (g υ hSu).2.1]
    refine ⟨vp_in_nI (by omega) (by decide), ?_⟩
    rw [em]
    have ebn : bnB K i = bOf (nI m) (fK K i) := by unfold bnB; rw [em]
    refine s_isIn hm (by omega) (by omega) (br0 (fun hb => j75 υ false (Ag.refl υ) hSu (by rw [ebn, hb]; rfl)) (fun hb => ?_))
    rw [(g υ hSu).2.2.1, nI_clamp (by omega), (g υ hSu).1]
    refine ⟨vp_in_nI (by omega) (by decide), vp_in_nI (by omega) (by decide), s_holdsOn hSu hf.2.2.2.2.2 (by omega) ?_⟩
    intro υ1 ag1 hS1
    refine br0 (fun hh => j75 υ1 false ag1 hS1 (by rw [hh, Bool.and_false])) (fun hh => j75 υ1 true ag1 hS1 (by rw [ebn, hb, hh]; rfl))
theorem s_Mjudge {post : Int32 → DD → Prop} (hS : MS σ K L) (k : ∀ τ, PM σ τ → MS τ K L → post (bl (soA K L)) τ) : w_M_judge σ post := by
  unfold w_M_judge
  refine s_areSo hS ?_
  intro τ ag hSt
  have kk := k τ (PM.q ag) hSt
  exact br0 (fun h => by rw [h] at kk; exact kk) (fun h => by rw [h] at kk; exact kk)
def okU (K : Nat → Int32) (L : List RD) (d k : Nat) : Bool := decide (k / 32 ≤ d) && decide (k / 8 % 4 < nR K) && decide (k % 8 < nA K) && soA K (L ++ [(k % 8, k / 8 % 4, d - k / 32)])
def isUn (K : Nat → Int32) (L : List RD) (d : Nat) (a1 r : Int32) : Prop := (a1 < -1 ∧ r = -1) ∨ (a1 = -1 ∧ r = nI (cntB (okU K L d) 960)) ∨ (0 ≤ a1 ∧ ((∃ k, k < 960 ∧ okU K L d k = true ∧ nI (cntB (okU K L d) k) = a1 ∧ r = nI k) ∨ ((∀ k, k < 960 → okU K L d k = true → ¬ nI (cntB (okU K L d) k) = a1) ∧ r = -1)))
theorem cntB_lt {p : Nat → Bool} {k : Nat} (hp : p k = true) : ∀ n, k < n → cntB p k < cntB p n := by
  intro n
  induction n with
  | zero => intro h; omega
  | succ n ih =>
    intro h
    rw [show cntB p (n + 1) = cntB p n + (if p n then 1 else 0) from rfl]
    by_cases hk : k = n
    · subst hk; rw [hp]; simp
    · have := ih (by omega); omega
theorem isUn_uniq {d : Nat} {a1 r r' : Int32} (h : isUn K L d a1 r) (h' : isUn K L d a1 r') : r = r' := by
  have hm : ¬ (-1 : Int32) < -1 := by decide
  have h0 : ¬ (0 : Int32) ≤ -1 := by decide
  rcases h with ⟨x1, x2⟩ | ⟨x1, x2⟩ | ⟨x1, x2⟩
  · rcases h' with ⟨y1, y2⟩ | ⟨y1, y2⟩ | ⟨y1, y2⟩
    · rw [x2, y2]
    · rw [y1] at x1; exact absurd x1 hm
    · exfalso; grind
  · rcases h' with ⟨y1, y2⟩ | ⟨y1, y2⟩ | ⟨y1, y2⟩
    · rw [x1] at y1; exact absurd y1 hm
    · rw [x2, y2]
    · rw [x1] at y1; exact absurd y1 h0
  · rcases h' with ⟨y1, y2⟩ | ⟨y1, y2⟩ | ⟨y1, y2⟩
    · exfalso; grind
    · rw [y1] at x1; exact absurd x1 h0
    · rcases x2 with ⟨k, k1, k2, k3, k4⟩ | ⟨x2, x3⟩
      · rcases y2 with ⟨j, j1, j2, j3, j4⟩ | ⟨y2, y3⟩
        · have hc1 := cntB_le (p := okU K L d) k
          have hc2 := cntB_le (p := okU K L d) j
          rw [← j3, nI_eq (by omega) (by omega)] at k3
          have : k = j := by
            by_cases h1 : k < j
            · have := cntB_lt (p := okU K L d) k2 j h1; omega
            · by_cases h2 : j < k
              · have := cntB_lt (p := okU K L d) j2 k h2; omega
              · omega
          rw [k4, j4, this]
        · exact absurd k3 (y2 k k1 k2)
      · rcases y2 with ⟨j, j1, j2, j3, j4⟩ | ⟨y2, y3⟩
        · exact absurd j3 (x2 j j1 j2)
        · rw [x3, y3]
def unP (o p : Nat) : Prop := qP o p ∨ lgP o p
theorem s_Munwritten {d0 : Nat} {a1 : Int32} {post : Int32 → DD → Prop} (hS : MS σ K L) (hday : gI σ 4 395 = nI d0) (hd0 : d0 ≤ 999) (hL24 : L.length ≤ 24) (k : ∀ r, isUn K L d0 a1 r → ∀ τ, PM σ τ → MS τ K L → post r τ) : w_M_unwritten σ a1 post := by
  have hI := hS.2.1
  have ha8 := hI.a
  have hr4 := hI.r
  unfold w_M_unwritten
  refine ⟨fun hge => ?_, fun hlt => k (-1) (Or.inl ⟨by grind, rfl⟩) σ (PM.refl σ) hS⟩
  have pmu : ∀ υ, Ag unP σ υ → PM σ υ := fun υ a => PM.ag a (by intro o p; unfold unP qP lgP pers; omega)
  unfold w_M_unwritten_l14
  refine LoopN (fun c y => ∃ i, c = 961 - i ∧ i ≤ 960 ∧ Ag unP σ y.1 ∧ MS y.1 K L ∧ y.2.2.2 = nI i ∧ ((y.2.2.1 = -1 ∧ y.2.1 = nI (cntB (okU K L d0) i) ∧ ∀ j, j < i → okU K L d0 j = true → ¬ nI (cntB (okU K L d0) j) = a1) ∨ (∃ j, j < i ∧ okU K L d0 j = true ∧ nI (cntB (okU K L d0) j) = a1 ∧ y.2.2.1 = nI j ∧ 0 ≤ a1))) ?_ (n := 961) ⟨0, rfl, Nat.zero_le _, Ag.refl σ, hS, rfl, Or.inl ⟨rfl, rfl, by omega⟩⟩
  rintro c ⟨υ, a2, a3, a4⟩ KK ⟨i, hc, hi, ag, hSu, e4, hst⟩ ih
  simp only [] at ag hSu e4 hst ⊢
  subst e4
  unfold w_M_unwritten_b14
  rw [show (960 : Int32) = nI 960 from rfl, nI_leI (by decide) (by omega)]
  have hci := cntB_le (p := okU K L d0) i
  have j138 : (i = 960 ∨ ¬ a3 = -1) → w_M_unwritten_j138 post υ a1 a2 a3 := by
    intro hend
    unfold w_M_unwritten_j138
    rcases hst with ⟨x1, x2, x3⟩ | ⟨j, j1, j2, j3, j4, j5⟩
    · have hi960 : i = 960 := hend.resolve_right (fun h => h x1)
      subst hi960
      refine ⟨fun z => k a3 (Or.inr (Or.inr ⟨by grind, Or.inr ⟨x3, x1⟩⟩)) υ (pmu υ ag) hSu, fun z => k a2 (Or.inr (Or.inl ⟨z, x2⟩)) υ (pmu υ ag) hSu⟩
    · refine ⟨fun z => k a3 (Or.inr (Or.inr ⟨j5, Or.inl ⟨j, by omega, j2, j3, j4⟩⟩)) υ (pmu υ ag) hSu, fun z => by rw [z] at j5; exact absurd j5 (by decide)⟩
  refine ⟨fun z => j138 (Or.inl (by omega)), fun z => ⟨fun z2 => j138 (Or.inr z2), fun z2 => ?_⟩⟩
  obtain ⟨x1, x2, x3⟩ : a3 = -1 ∧ a2 = nI (cntB (okU K L d0) i) ∧ ∀ j, j < i → okU K L d0 j = true → ¬ nI (cntB (okU K L d0) j) = a1 := by
    rcases hst with h | ⟨j, j1, j2, j3, j4, j5⟩
    · exact h
    · rw [j4] at z2; exact absurd z2 (nI_m1 (by omega))
  subst x1; subst x2
  intro v4 e4 v6 e6 v8 e8
  have hdayu : gI υ 4 395 = nI d0 := by rw [ag.at 4 395 (by unfold unP qP lgP; omega)]; exact hday
  have e32 : nI i / 32 = nI (i / 32) := by rw [show (32 : Int32) = nI 32 from rfl, pk_div (by omega) (by decide) (by decide)]
  have e8' : nI i / 8 = nI (i / 8) := by rw [show (8 : Int32) = nI 8 from rfl, pk_div (by omega) (by decide) (by decide)]
  rw [hdayu, e32] at e4
  have hq : jrem (nI (i / 8)) 4 = nI (i / 8 % 4) := by unfold jrem; rw [show (4 : Int32) = nI 4 from rfl, pk_rem (by omega) (by decide) (by decide)]
  have hq8 : jrem (nI i) 8 = nI (i % 8) := by unfold jrem; rw [show (8 : Int32) = nI 8 from rfl, pk_rem (by omega) (by decide) (by decide)]
  rw [e8', hq] at e6
  rw [hq8] at e8
  have skip : ∀ υ', Ag unP υ υ' → MS υ' K L → okU K L d0 i = false → KK (υ', nI (cntB (okU K L d0) i), -1, nI i + 1) := by
    intro υ' a' hS' hf
    rw [nI_1]
    refine ih (961 - (i + 1)) _ (by omega) ⟨i + 1, rfl, by omega, ag.trans a', hS', rfl, Or.inl ⟨rfl, ?_, ?_⟩⟩
    · simp only []; rw [cntB, hf]; rfl
    · intro j hj hjo
      by_cases hji : j = i
      · subst hji; rw [hf] at hjo; simp at hjo
      · exact x3 j (by omega) hjo
  refine ⟨fun w => skip υ (Ag.refl υ) hSu ?_, fun w => ?_⟩
  · have : ¬ i / 32 ≤ d0 := by
      intro hle
      rw [e4, pk_sub hle] at w
      exact absurd w (nI_pos (by omega))
    unfold okU; rw [decide_eq_false this]; rfl
  · have hle : i / 32 ≤ d0 := by
      by_cases h : i / 32 ≤ d0
      · exact h
      · exfalso
        have := pk_sneg (a := d0) (b := i / 32) (by omega) (by omega)
        rw [e4] at w; exact w this
    rw [pk_sub hle] at e4
    subst e4; subst e6; subst e8
    have hR : rdrB K (nI (i / 8 % 4)) = decide (i / 8 % 4 < nR K) := by
      unfold rdrB
      have : (0 ≤ nI (i / 8 % 4) ∧ nI (i / 8 % 4) < nI (nR K)) ↔ i / 8 % 4 < nR K := by
        rw [nI_ltI (by omega) (by omega)]
        exact ⟨fun h => h.2, fun h => ⟨nI_pos' (by omega), h⟩⟩
      exact decide_eq_decide.2 this
    have hA : actB K (nI (i % 8)) = decide (i % 8 < nA K) := by
      unfold actB
      have : (0 ≤ nI (i % 8) ∧ nI (i % 8) < nI (nA K)) ↔ i % 8 < nA K := by
        rw [nI_ltI (by omega) (by omega)]
        exact ⟨fun h => h.2, fun h => ⟨nI_pos' (by omega), h⟩⟩
      exact decide_eq_decide.2 this
    refine s_isReader hSu.1.1 hI ?_
    rw [hR]
    refine br0 (fun hb => skip υ (Ag.refl υ) hSu (by unfold okU; rw [hb, Bool.and_false]; rfl)) (fun hb => ?_)
    refine s_isAct hSu.1.1 hI ?_
    rw [hA]
    refine br1 (fun hb2 => ?_) (fun hb2 => skip υ (Ag.refl υ) hSu (by unfold okU; rw [hb2, Bool.and_false]; rfl))
    refine s_logs hSu (of_decide_eq_true hb2) (of_decide_eq_true hb) (by omega) (by omega) ?_
    intro υ1 ag1 hS1
    refine s_areSo hS1 ?_
    intro υ2 ag2 hS2 σ21 e21
    have ag21 : Ag lgP υ2 σ21 := by subst e21; exact Ag.put ⟨rfl, by omega⟩
    have hS21 : MS σ21 K L := by subst e21; exact hS2.pop
    have agT : Ag unP υ σ21 := (ag1.mono (fun o p h => Or.inr h)).trans ((ag2.mono (fun o p h => Or.inl h)).trans (ag21.mono (fun o p h => Or.inr h)))
    have hok : okU K L d0 i = soA K (L ++ [(i % 8, i / 8 % 4, d0 - i / 32)]) := by
      unfold okU; rw [decide_eq_true hle, hb, hb2]; rfl
    refine br1 (fun hs => ?_) (fun hs => skip σ21 agT hS21 (by rw [hok]; exact hs))
    unfold w_M_unwritten_j129
    rw [nI_1, nI_1]
    have hoki : okU K L d0 i = true := by rw [hok]; exact hs
    refine ⟨fun w2 => ?_, fun w2 => ?_⟩
    · refine ih (961 - (i + 1)) _ (by omega) ⟨i + 1, rfl, by omega, ag.trans agT, hS21, rfl, Or.inl ⟨rfl, ?_, ?_⟩⟩
      · simp only []; rw [cntB, hoki]; rfl
      · intro j hj hjo
        by_cases hji : j = i
        · subst hji; exact w2
        · exact x3 j (by omega) hjo
    · refine ih (961 - (i + 1)) _ (by omega) ⟨i + 1, rfl, by omega, ag.trans agT, hS21, rfl, Or.inr ⟨i, by omega, hoki, w2, rfl, ?_⟩⟩
      rw [← w2]; exact nI_pos' (by omega)
end UW
