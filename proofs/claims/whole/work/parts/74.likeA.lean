section LKA
variable {σ τ : DD} {T : TXT} {K : Nat → Int32} {L : List RD}
theorem s_latestNeg {a : Int32} {post : Int32 → DD → Prop} (hM : MLg σ L) (hL : ∀ x, x ∈ L → x.1 < 2 ^ 31 ∧ x.2.2 < 2 ^ 31) (k : post (-1) σ) : w_M_latestOf σ a (-1) post := by
  unfold w_M_latestOf w_M_latestOf_l5
  have h84 := hM.2.1
  refine LoopN (fun n y => ∃ i, n = L.length - i ∧ i ≤ L.length ∧ y.1 = σ ∧ y.2.2 = nI i ∧ y.2.1 = -1) ?_ (n := L.length) ⟨0, rfl, Nat.zero_le _, rfl, rfl, rfl⟩
  rintro n ⟨τ, b, a4⟩ KK ⟨i, hn, hi, eσ, e4, hb⟩ ih
  simp only [] at eσ e4 hb ⊢
  subst eσ; subst e4; subst hb
  unfold w_M_latestOf_b5
  rw [hM.1, nI_leI (by omega) (by omega)]
  refine ⟨fun q => k, fun q => ?_⟩
  obtain ⟨x, hx, hxm⟩ := get_lt (L := L) (i := i) (by omega)
  have hxb := hL x hxm
  have nx : KK (τ, -1, nI i + 1) := ih (L.length - (i + 1)) _ (by omega) ⟨i + 1, rfl, by omega, rfl, nI_1 i, rfl⟩
  refine s_reading hM hx (Or.inl ⟨rfl, rfl⟩) ⟨fun _ => nx, fun _ => ?_⟩
  refine s_reading hM hx (Or.inr (Or.inr ⟨rfl, rfl⟩)) ⟨fun _ => nx, fun z => ?_⟩
  have := nI_pos' hxb.2
  exfalso; grind
theorem s_startsWith {a d : Nat} {post : Int32 → DD → Prop} (hS : MS σ K L) (hday : gI σ 4 395 = nI d) (ha : a < nA K) (hd : d ≤ 999) (k : ∀ τ, Ag qP σ τ → MS τ K L → post (nI (stN K L a d)) τ) : w_M_startsWith σ (nI a) post := by
  have hI := hS.2.1
  have ha8 := hI.a
  unfold stN at k
  unfold w_M_startsWith
  rw [hday]
  by_cases h0 : d = 0
  · subst h0
    rw [if_pos rfl] at k
    rw [show nI 0 - 1 = -1 from by decide]
    exact s_latestNeg hS.2.2.1 (hS.2.2.2.b hI) ⟨fun z => absurd rfl z, fun _ => k σ (Ag.refl σ) hS⟩
  · rw [if_neg h0] at k
    rw [show nI d - 1 = nI (d - 1) from pk_sub (a := d) (b := 1) (by omega)]
    unfold unt at k
    refine s_latestOf hS.2.2.1 (by omega) (hS.2.2.2.b hI) (by omega) (fun hn => ⟨fun z => absurd rfl z, fun _ => ?_⟩) (fun i x hx hl => ⟨fun _ => ?_, fun z => absurd z (nI_m1 ?_)⟩)
    · rw [hn] at k
      have := k σ (Ag.refl σ) hS
      simp only [Nat.zero_sub] at this
      exact this
    · have hm := lat_mem hl
      have hb := hS.2.2.2 x hm.1
      rw [hl] at k
      simp only [] at k
      refine s_reading hS.2.2.1 hx (Or.inr (Or.inl ⟨rfl, rfl⟩)) (s_reading hS.2.2.1 hx (Or.inr (Or.inr ⟨rfl, rfl⟩)) ?_)
      refine s_lasts hS.1 hI ha hb.2.1 (by omega) ?_
      intro τ ag hQ
      have hS1 := hS.q ag hQ
      have kk := k τ ag hS1
      have hla := (lasN_e hI (r := x.2.1) (w := x.2.2 % 7) ha).2
      refine s_reading hS1.2.2.1 hx (Or.inr (Or.inr ⟨rfl, rfl⟩)) ?_
      intro v12 e12
      rw [ag.at 4 395 (by unfold qP; omega), hday, pk_sub (by omega)] at e12
      refine ⟨fun z => ?_, fun z => ?_⟩
      · have hle : d - x.2.2 ≤ lasN K a x.2.1 (x.2.2 % 7) := by
          rw [e12] at z
          by_cases h : d - x.2.2 ≤ lasN K a x.2.1 (x.2.2 % 7)
          · exact h
          · exfalso
            have := pk_sneg (a := lasN K a x.2.1 (x.2.2 % 7)) (b := d - x.2.2) (by omega) (by omega)
            grind
        rw [pk_sub hle] at e12
        rw [e12, show lasN K a x.2.1 (x.2.2 % 7) - (d - x.2.2) = x.2.2 + lasN K a x.2.1 (x.2.2 % 7) - d from by omega]
        exact kk
      · have hlt : lasN K a x.2.1 (x.2.2 % 7) < d - x.2.2 := by
          rw [e12] at z
          by_cases h : lasN K a x.2.1 (x.2.2 % 7) < d - x.2.2
          · exact h
          · exfalso
            rw [pk_sub (by omega)] at z
            exact z (nI_pos' (by omega))
        rw [show x.2.2 + lasN K a x.2.1 (x.2.2 % 7) - d = 0 from by omega] at kk
        exact kk
    · have : i < L.length := by rw [List.getElem?_eq_some_iff] at hx; exact hx.1
      have := hS.2.2.1.2.1
      omega
theorem stN_lt {a : Nat} (hI : KI K) (ha : a < nA K) (d : Nat) : stN K L a d < 100 := by
  unfold stN
  split
  · omega
  · unfold unt
    cases hl : lat L a (d - 1) with
    | none => simp
    | some x =>
      have hm := lat_mem hl
      have := (lasN_e hI (r := x.2.1) (w := x.2.2 % 7) ha).2
      simp only []; omega
theorem s_Mlikely {d0 : Nat} {a1 a2 a3 : Int32} {post : Int64 → DD → Prop} (hS : MS σ K L) (hday : gI σ 4 395 = nI d0) (hd0 : d0 ≤ 999) (k : ∀ τ, PM σ τ → MS τ K L → post (likS K L d0 a1 a2 a3) τ) : w_M_likely σ a1 a2 a3 post := by
  have hI := hS.2.1
  have ha8 := hI.a
  have hr4 := hI.r
  unfold likS at k
  unfold w_M_likely
  refine s_isAct hS.1.1 hI (br0 (fun h1 => ?_) (fun h1 => ?_))
  · rw [h1] at k; exact k σ (PM.refl σ) hS
  refine s_isReader hS.1.1 hI (br0 (fun h2 => ?_) (fun h2 => ?_))
  · rw [h1, h2] at k; exact k σ (PM.refl σ) hS
  refine s_lies (br1 (fun h3 => ?_) (fun h3 => ?_))
  rotate_left
  · rw [h1, h2, h3] at k; exact k σ (PM.refl σ) hS
  rw [h1, h2, h3] at k
  simp only [Bool.and_true, if_true] at k
  obtain ⟨a, ha, e1⟩ := actB_e hI h1
  obtain ⟨r, hr, e2⟩ := rdrB_e hI h2
  obtain ⟨n, -, n60, e3⟩ := inB_n (lo := 0) (hi := 60) h3 (by decide) (by decide)
  subst e1; subst e2; subst e3
  rw [nI_clamp (by omega), nI_clamp (by omega), nI_clamp (by omega)] at k
  unfold w_M_likely_l33
  refine LoopN (fun c y => ∃ i, c = 100 - i ∧ i ≤ 100 ∧ y.1.1 = σ.1 ∧ y.2 = nI i ∧ ∀ j, j < i → gL y.1 43 j = lN 0) ?_ (n := 100) ⟨0, rfl, Nat.zero_le _, rfl, rfl, by omega⟩
  rintro c ⟨υ, a4⟩ KK ⟨i, hc, hi, eu, e4, hz⟩ ih
  simp only [] at eu e4 hz ⊢
  subst e4
  unfold w_M_likely_b33
  rw [show (99 : Int32) = nI 99 from rfl, nI_ltI (by decide) (by omega)]
  refine ⟨fun z => ?_, fun z => ?_⟩
  · have hi100 : i = 100 := by omega
    subst hi100
    have hSu := hS.i1 eu
    have hdayu : gI υ 4 395 = nI d0 := by unfold gI; rw [eu]; exact hday
    refine s_startsWith hSu hdayu ha hd0 ?_
    intro υ1 ag1 hS1
    have hst := stN_lt (L := L) hI ha d0
    rw [nI_clamp (by omega)]
    refine ⟨vp_in_nI (by omega) (by decide), fun σ11 e11 => ?_⟩
    have hrow : rowL σ11 43 (likP K L a r d0 0) := by
      intro j hj
      subst e11
      rw [gL_sL]
      have : gL υ1 43 j = lN 0 := by unfold gL; rw [ag1.2]; exact hz j hj
      unfold likP
      by_cases hjs : j = stN K L a d0
      · rw [if_pos ⟨rfl, hjs⟩, if_pos hjs]; rfl
      · rw [if_neg (fun x => hjs x.2), if_neg hjs]; exact this
    have pm1 : PM σ σ11 := by
      have : PM σ υ := (PM.refl σ).i1 eu
      refine (this.trans (PM.q ag1)).i1 ?_
      subst e11; rfl
    have hS11 : MS σ11 K L := hS1.i1 (by subst e11; rfl)
    unfold w_M_likely_l70
    refine LoopN (fun c y => ∃ i, c = n + 1 - i ∧ i ≤ n + 1 ∧ PM σ y.1 ∧ MS y.1 K L ∧ y.2 = nI i ∧ rowL y.1 43 (likP K L a r d0 i)) ?_ (n := n + 1) ⟨0, rfl, Nat.zero_le _, pm1, hS11, rfl, hrow⟩
    rintro c ⟨υ, a4⟩ KK ⟨i, hc, hi, pm, hSu, e4, hrow⟩ ih
    simp only [] at pm hSu e4 hrow ⊢
    subst e4
    unfold w_M_likely_b70
    rw [nI_ltI (by omega) (by omega)]
    refine ⟨fun z => ?_, fun z => ?_⟩
    · have hin : i = n + 1 := by omega
      subst hin
      unfold w_M_likely_l105
      refine LoopN (fun c y => ∃ j, c = 100 - j ∧ j ≤ 100 ∧ y.1 = υ ∧ y.2.2 = nI j ∧ y.2.1 = lN (sumN (likP K L a r d0 (n + 1)) j)) ?_ (n := 100) ⟨0, rfl, Nat.zero_le _, rfl, rfl, rfl⟩
      rintro c ⟨υ', s4, a6⟩ KK ⟨j, hc, hj, eu', e6, hs⟩ ih
      simp only [] at eu' e6 hs ⊢
      subst eu'; subst e6
      unfold w_M_likely_b105
      rw [show (99 : Int32) = nI 99 from rfl, nI_ltI (by decide) (by omega)]
      refine ⟨fun z => ?_, fun z => ?_⟩
      · have hj100 : j = 100 := by omega
        subst hj100
        rw [hs]; exact k υ' pm hSu
      · rw [nI_clamp (by omega), nI_1]
        refine ⟨vp_in_nI (by omega) (by decide), fun v3 e3 => ?_⟩
        refine ih (100 - (j + 1)) _ (by omega) ⟨j + 1, rfl, by omega, rfl, rfl, ?_⟩
        rw [e3, hs, hrow j (by omega), lN_add]; rfl
    · rw [pm 4 395 (by unfold pers; omega), hday, nI_add]
      refine s_passesDay hSu ha hr (by omega) (likP_tot hI i) hrow ?_
      intro υ1 τ ag1 e1 hSt hrowt
      rw [nI_1]
      exact ih (n + 1 - (i + 1)) _ (by omega) ⟨i + 1, rfl, by omega, (pm.trans (PM.q ag1)).i1 e1, hSt, rfl, hrowt⟩
  · rw [nI_clamp (by omega), nI_1]
    refine ⟨vp_in_nI (by omega) (by decide), fun σ14 e14 => ?_⟩
    refine ih (100 - (i + 1)) _ (by omega) ⟨i + 1, rfl, by omega, ?_, rfl, ?_⟩
    · subst e14; exact eu
    · intro j hj
      subst e14
      rw [gL_sL]
      by_cases hji : j = i
      · subst hji; rw [if_pos ⟨rfl, rfl⟩]; rfl
      · rw [if_neg (by omega)]; exact hz j (by omega)
end LKA
