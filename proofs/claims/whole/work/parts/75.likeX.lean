section LKX
variable {σ τ : DD} {T : TXT} {K : Nat → Int32} {L : List RD}
theorem clamp99 {u d : Nat} (hu : u < 2100) (hd : d < 1000) (h : u - d < 100) : jmax 0 (jmin 99 (nI u - nI d)) = nI (u - d) := by
  unfold jmax jmin
  by_cases hge : d ≤ u
  · rw [pk_sub hge]
    have h1 : ¬ nI (u - d) < 0 := nI_pos (by omega)
    have h99 : (99 : Int32) = nI 99 := rfl
    by_cases hlt : nI (u - d) < 99
    · rw [if_pos hlt]
      by_cases h0 : 0 < nI (u - d)
      · rw [if_pos h0]
      · rw [if_neg h0, show (0 : Int32) = nI 0 from rfl]
        rw [show (0 : Int32) = nI 0 from rfl, nI_ltI (by decide) (by omega)] at h0
        congr 1; omega
    · rw [if_neg hlt]
      rw [h99, nI_ltI (by omega) (by decide)] at hlt
      rw [if_pos (by decide), h99]
      congr 1; omega
  · have hneg := pk_sneg (a := u) (b := d) (by omega) (by omega)
    rw [show u - d = 0 from by omega]
    have h2 : nI u - nI d < 99 := by
      generalize nI u - nI d = x at hneg
      grind
    rw [if_pos h2, if_neg]
    · rfl
    · intro h3
      generalize nI u - nI d = x at hneg h3
      grind
theorem jmin99 {n : Nat} (h : n < 100) : jmin (nI 99) (nI n) = nI n := by
  show jmin 99 (nI n) = nI n
  unfold jmin
  by_cases h9 : nI n < 99
  · rw [if_pos h9]
  · rw [if_neg h9]
    rw [show (99 : Int32) = nI 99 from rfl, nI_ltI (by omega) (by decide)] at h9
    rw [show n = 99 by omega]; rfl
/-- the class's longs: parts -/
def xk (o : Nat) : Prop := o = 53 ∨ o = 103
theorem AgX.l103 {P : Nat → Nat → Prop} {k : Nat} {x : Int64} (σ : DD) : AgX P xk σ (sL σ 103 k x) := ⟨fun _ _ _ => rfl, fun o j z => by rw [gL_sL, if_neg (fun y => z (Or.inr y.1))], rfl⟩
theorem XS.i1 (h : XS σ T K L) (e : τ.1 = σ.1) (e2 : τ.2.2 = σ.2.2) : XS τ T K L := by
  refine h.ag (P := fun _ _ => False) (Q := fun _ => True) ⟨fun o k _ => by unfold gI; rw [e], fun o k z => absurd trivial z, e2⟩ (by intro o k _ h; exact h) (fun h => h) (fun k h => h) (fun k h => h)
theorem s_tryReading {a r d : Nat} {P : Nat → Nat} {post : DD → Prop} (hS : XS σ T K L) (ha : a < nA K) (hr : r < nR K) (hd : d < 2 ^ 30) (hP : sumN P 100 ≤ 1000000000000) (hrow : rowL σ 103 P) (k : ∀ τ, AgX xq xk σ τ → XS τ T K L → rowL τ 103 (fun j => ntN true (decide (dryN K < takN K a r (d % 7))) (ranN K) (P j) + (if j = lasN K a r (d % 7) then sumN (fun k => isN true (decide (dryN K < takN K a r (d % 7))) (ranN K) (P k)) 100 else 0)) → post τ) : w_Outl_tryReading T σ (nI a) (nI r) (nI d) post := by
  have hI := hS.1.2.2
  have htk := takN_e hI (r := r) (w := d % 7) ha
  have hla := lasN_e hI (r := r) (w := d % 7) ha
  have hp := pack_e hI (r := r) (w := d % 7) ha
  have hdr := rng_n hI.tm.2.1 (show 60 < 2 ^ 31 by decide)
  have hrn := rng_n hI.tm.1 (show 10 < 2 ^ 31 by decide)
  have hr10 : ranN K ≤ 10 := hrn.2.2
  have hPk : ∀ k, k < 100 → P k ≤ 1000000000000 := fun k hk => Nat.le_trans (sumN_ge P 100 hk) hP
  have xqk : ∀ {υ1 υ2 : DD}, AgX xq xl υ1 υ2 → AgX xq xk υ1 υ2 := fun a => a.mono (fun o p h => h) (fun o h => Or.inl h)
  unfold w_Outl_tryReading w_Court_takes
  refine s_answerOf hS.1 ha hr (by omega) ?_
  intro υ1 ag1 hQ1
  have hS1 := hS.q ag1 hQ1
  rw [hp.2.1]
  have h208 : gI υ1 208 2 = K 397 := hS1.1.1.2.2.2.2.2.2.2.2.2.1.2.1
  have h2081 : gI υ1 208 1 = K 396 := hS1.1.1.2.2.2.2.2.2.2.2.2.1.1
  generalize hwet : decide (dryN K < takN K a r (d % 7)) = w at k
  have go : ∀ wt : Nat, wt ≤ 10 → (∀ x, x ≤ 1000000000000 → x * wt / 10 = ntN true w (ranN K) x ∧ x * (10 - wt) / 10 = isN true w (ranN K) x) → w_Outl_tryReading_j47 T post υ1 (nI a) (nI r) (nI d) (nI wt) := by
    intro wt hwt hw
    unfold w_Outl_tryReading_j47 w_Outl_tryReading_l55
    refine LoopN (fun c y => ∃ i, c = 100 - i ∧ i ≤ 100 ∧ y.1.1 = υ1.1 ∧ y.1.2.2 = υ1.2.2 ∧ AgX xq xk υ1 y.1 ∧ y.2.2 = nI i ∧ y.2.1 = lN (sumN (fun k => isN true w (ranN K) (P k)) i) ∧ ∀ j, j < 100 → gL y.1 103 j = lN (if j < i then ntN true w (ranN K) (P j) else P j)) ?_ (n := 100) ⟨0, rfl, Nat.zero_le _, rfl, rfl, AgX.refl _, rfl, rfl, ?_⟩
    · rintro c ⟨υ, s6, a8⟩ KK ⟨i, hc, hi, eu, eu2, agu, e8, hs, h103⟩ ih
      simp only [] at eu eu2 agu e8 hs h103 ⊢
      subst e8
      unfold w_Outl_tryReading_b55
      rw [show (99 : Int32) = nI 99 from rfl, nI_ltI (by decide) (by omega)]
      refine ⟨fun z => ?_, fun z => ?_⟩
      · have hi100 : i = 100 := by omega
        subst hi100
        unfold w_Court_lasts
        refine s_answerOf (hS1.i1 eu eu2).1 ha hr (by omega) ?_
        intro υ2 ag2 hQ2
        have hS2 := (hS1.i1 eu eu2).q ag2 hQ2
        rw [hp.1]
        simp only []
        rw [jmin99 (by omega), nI_clamp (by omega)]
        refine ⟨vp_in_nI (by omega) (by decide), vp_in_nI (by omega) (by decide), fun σ5 e5 => ?_⟩
        have g103 : ∀ j, gL υ2 103 j = gL υ 103 j := fun j => ag2.2.1 103 j (by unfold xl; omega)
        refine k σ5 ((xqk ag1).trans (agu.trans ((xqk ag2).trans ?_))) ?_ ?_
        · subst e5; exact AgX.l103 υ2
        · subst e5; exact hS2.i1 rfl rfl
        · intro j hj
          subst e5
          rw [gL_sL]
          simp only []
          by_cases hjl : j = lasN K a r (d % 7)
          · rw [if_pos ⟨trivial, hjl⟩, g103, h103 _ (by omega), hs, lN_add, ← hjl, if_pos hj, if_pos rfl]
          · rw [if_neg (fun x => hjl x.2), g103, h103 j hj, if_pos hj, if_neg hjl, Nat.add_zero]
      · have hin : vp_in (nI i) 100 := vp_in_nI (by omega) (by decide)
        have hPi := hPk i (by omega)
        have g := h103 i (by omega)
        rw [if_neg (by omega)] at g
        have hwi := hw (P i) hPi
        rw [nI_clamp (by omega), g, mul10 hPi hwt, show (10 : Int32) - nI wt = nI (10 - wt) from pk_sub (a := 10) hwt, mul10 hPi (by omega), hwi.1, hwi.2, nI_1]
        refine ⟨hin, fun v9 e9 => ⟨hin, hin, fun σ12 e12 => ?_⟩⟩
        refine ih (100 - (i + 1)) _ (by omega) ⟨i + 1, rfl, by omega, ?_, ?_, ?_, rfl, ?_, ?_⟩
        · subst e12; exact eu
        · subst e12; exact eu2
        · subst e12; exact agu.trans (AgX.l103 υ)
        · rw [e9, hs, lN_add]; rfl
        · intro j hj
          subst e12
          rw [gL_sL]
          by_cases hji : j = i
          · subst hji; rw [if_pos ⟨rfl, rfl⟩, if_pos (by omega)]
          · rw [if_neg (fun x => hji x.2), h103 j hj]
            congr 1
            by_cases hlt : j < i
            · rw [if_pos hlt, if_pos (by omega)]
            · rw [if_neg hlt, if_neg (by omega)]
    · intro j hj
      rw [if_neg (by omega)]
      have : gL υ1 103 j = gL σ 103 j := ag1.2.1 103 j (by unfold xl; omega)
      rw [this]; exact hrow j hj
  unfold w_Outl_tryReading_j27
  simp only []
  rw [h208, hdr.1, nI_leI (by omega) (by omega), h2081, hrn.1]
  refine ⟨fun z => ⟨fun _ => go 0 (by omega) ?_, fun z2 => absurd trivial z2⟩, fun z => ⟨fun z2 => absurd z2 (by decide), fun _ => go (ranN K) hr10 ?_⟩⟩
  · have hwf : w = false := by rw [← hwet]; exact decide_eq_false (by unfold dryN; omega)
    intro x hx
    unfold ntN isN
    rw [hwf]
    simp
  · have hwt : w = true := by rw [← hwet]; exact decide_eq_true (by unfold dryN; omega)
    intro x hx
    unfold ntN isN
    rw [hwt]
    exact ⟨rfl, rfl⟩
theorem s_Xlikely {d0 : Nat} {a1 a2 a3 : Int32} {post : Int64 → DD → Prop} (hS : XS σ T K L) (hday : gI σ 208 0 = nI d0) (hd0 : d0 ≤ 999) (k : ∀ τ, AgX scrX scrL σ τ → XS τ T K L → post (likS K L d0 a1 a2 a3) τ) : w_Face_likely T σ a1 a2 a3 post := by
  have hI := hS.1.2.2
  have ha8 := hI.a
  have hr4 := hI.r
  unfold likS at k
  unfold w_Face_likely
  refine s_XisAct hS.1.1 hI (br0 (fun h1 => ?_) (fun h1 => ?_))
  · rw [h1] at k; exact k σ (AgX.refl σ) hS
  refine s_XisReader hS.1.1 hI (br0 (fun h2 => ?_) (fun h2 => ?_))
  · rw [h1, h2] at k; exact k σ (AgX.refl σ) hS
  rw [h1, h2] at k
  have no : inB a3 0 60 = false → post (-1) σ := by
    intro h
    have kk := k σ (AgX.refl σ) hS
    rw [h] at kk; simpa using kk
  refine ⟨fun z => no (decide_eq_false (by grind)), fun z1 => ⟨fun z2 => ?_, fun z2 => no (decide_eq_false (by grind))⟩⟩
  have h3 : inB a3 0 60 = true := decide_eq_true (by grind)
  rw [h3] at k
  simp only [Bool.and_true, if_true] at k
  obtain ⟨a, ha, e1⟩ := actB_e hI h1
  obtain ⟨r, hr, e2⟩ := rdrB_e hI h2
  obtain ⟨n, -, n60, e3⟩ := inB_n (lo := 0) (hi := 60) h3 (by decide) (by decide)
  subst e1; subst e2; subst e3
  rw [nI_clamp (by omega), nI_clamp (by omega), nI_clamp (by omega)] at k
  have xqk : ∀ {υ1 υ2 : DD}, AgX xq xl υ1 υ2 → AgX xq xk υ1 υ2 := fun a => a.mono (fun o p h => h) (fun o h => Or.inl h)
  have scr : ∀ {υ1 υ2 : DD}, AgX xq xk υ1 υ2 → AgX scrX scrL υ1 υ2 := fun a => a.mono (fun o p => xq_scr) (fun o h => by unfold xk at h; unfold scrL; omega)
  unfold w_Outl_chances w_J7_fill_d0a16 w_J7_fill_d0a16_l6
  intro v21 e21 v5 e5
  rw [hday] at e21
  subst e21; subst e5
  refine LoopN (fun c y => ∃ i, c = 100 - i ∧ i ≤ 100 ∧ y.1.1 = σ.1 ∧ y.1.2.2 = σ.2.2 ∧ AgX xq xk σ y.1 ∧ y.2 = nI i ∧ ∀ j, j < i → gL y.1 103 j = lN 0) ?_ (n := 100) ⟨0, rfl, Nat.zero_le _, rfl, rfl, AgX.refl σ, rfl, by omega⟩
  rintro c ⟨υ, a3'⟩ KK ⟨i, hc, hi, eu, eu2, agu, e3, hz⟩ ih
  simp only [] at eu eu2 agu e3 hz ⊢
  subst e3
  unfold w_J7_fill_d0a16_b6
  rw [show Int32.ofNat 100 = nI 100 from rfl, nI_leI (by decide) (by omega)]
  refine ⟨fun z => ?_, fun z => ?_⟩
  · have hi100 : i = 100 := by omega
    subst hi100
    have hSu := hS.i1 eu eu2
    have hst := stN_lt (L := L) hI ha d0
    have main : ∀ υ1 t0, AgX xq xk υ υ1 → XS υ1 T K L → (∀ j, gL υ1 103 j = gL υ 103 j) → jmax 0 (jmin 99 t0) = nI (stN K L a d0) → w_Outl_chances_j43 T (fun r9 σ10 => post r9 σ10) υ1 (nI a) (nI r) (nI n) (nI d0) t0 := by
      intro υ1 t0 ag1 hS1 g103 ht0
      unfold w_Outl_chances_j43
      rw [ht0, nI_clamp (by omega)]
      refine ⟨vp_in_nI (by omega) (by decide), fun σ18 e18 => ?_⟩
      have hrow : rowL σ18 103 (likP K L a r d0 0) := by
        intro j hj
        subst e18
        rw [gL_sL]
        unfold likP
        by_cases hjs : j = stN K L a d0
        · rw [if_pos ⟨rfl, hjs⟩, if_pos hjs]; rfl
        · rw [if_neg (fun x => hjs x.2), if_neg hjs, g103]; exact hz j hj
      have ag18 : AgX xq xk σ σ18 := by subst e18; exact agu.trans (ag1.trans (AgX.l103 υ1))
      have hS18 : XS σ18 T K L := by subst e18; exact hS1.i1 rfl rfl
      unfold w_Outl_chances_l68
      refine LoopN (fun c y => ∃ i, c = n + 1 - i ∧ i ≤ n + 1 ∧ AgX xq xk σ y.1 ∧ XS y.1 T K L ∧ y.2 = nI (d0 + i) ∧ rowL y.1 103 (likP K L a r d0 i)) ?_ (n := n + 1) ⟨0, rfl, Nat.zero_le _, ag18, hS18, rfl, hrow⟩
      rintro c ⟨υ, a6⟩ KK ⟨i, hc, hi, ag, hSu, e6, hrow⟩ ih
      simp only [] at ag hSu e6 hrow ⊢
      subst e6
      unfold w_Outl_chances_b68
      rw [nI_add, nI_ltI (by omega) (by omega)]
      refine ⟨fun z => ?_, fun z => ?_⟩
      · have hin : i = n + 1 := by omega
        subst hin
        unfold w_Outl_chances_l151
        refine LoopN (fun c y => ∃ j, c = 100 - j ∧ j ≤ 100 ∧ y.1 = υ ∧ y.2.2 = nI j ∧ y.2.1 = lN (sumN (likP K L a r d0 (n + 1)) j)) ?_ (n := 100) ⟨0, rfl, Nat.zero_le _, rfl, rfl, rfl⟩
        rintro c ⟨υ', s4, a6⟩ KK ⟨j, hc, hj, eu', e6, hs⟩ ih
        simp only [] at eu' e6 hs ⊢
        subst eu'; subst e6
        unfold w_Outl_chances_b151
        rw [show (99 : Int32) = nI 99 from rfl, nI_ltI (by decide) (by omega)]
        refine ⟨fun z => ?_, fun z => ?_⟩
        · have hj100 : j = 100 := by omega
          subst hj100
          rw [hs]; exact k υ' (scr ag) hSu
        · rw [nI_clamp (by omega), nI_1]
          refine ⟨vp_in_nI (by omega) (by decide), fun v3 e3 => ?_⟩
          refine ih (100 - (j + 1)) _ (by omega) ⟨j + 1, rfl, by omega, rfl, rfl, ?_⟩
          rw [e3, hs, hrow j (by omega), lN_add]; rfl
      · refine s_canAlone hSu.1 ha hr (by omega) ?_
        intro υ1 ag1 hQ1
        have hS1 := hSu.q ag1 hQ1
        have r1 : rowL υ1 103 (likP K L a r d0 i) := fun j hj => by rw [ag1.2.1 103 j (by unfold xl; omega)]; exact hrow j hj
        -- a day less
        have shift : ∀ (υ2 : DD) (Q : Nat → Nat), AgX xq xk υ υ2 → XS υ2 T K L → rowL υ2 103 Q → (∀ j, j < 100 → (if j < 99 then Q (j + 1) else 0) = likP K L a r d0 (i + 1) j) → w_Outl_chances_l102 T (fun σ a6 => KK (σ, a6)) (fun r9 σ10 => post r9 σ10) υ2 (nI a) (nI r) (nI n) (nI d0) (nI (d0 + i)) 0 := by
          intro υ2 Q ag2 hS2 hQ hnext
          unfold w_Outl_chances_l102
          refine LoopN (fun c y => ∃ j, c = 99 - j ∧ j ≤ 99 ∧ y.1.1 = υ2.1 ∧ y.1.2.2 = υ2.2.2 ∧ AgX xq xk υ2 y.1 ∧ y.2 = nI j ∧ (∀ j', j' < j → gL y.1 103 j' = lN (Q (j' + 1))) ∧ ∀ j', j ≤ j' → j' < 100 → gL y.1 103 j' = lN (Q j')) ?_ (n := 99) ⟨0, rfl, Nat.zero_le _, rfl, rfl, AgX.refl _, rfl, by omega, fun j' _ h => hQ j' h⟩
          rintro c ⟨υ3, a7⟩ KK2 ⟨j, hc, hj, eu3, eu4, ag3, e7, hlo, hhi⟩ ih2
          simp only [] at eu3 eu4 ag3 e7 hlo hhi ⊢
          subst e7
          unfold w_Outl_chances_b102
          rw [show (99 : Int32) = nI 99 from rfl, nI_leI (by decide) (by omega)]
          refine ⟨fun z3 σ2 e2 => ?_, fun z3 => ?_⟩
          · have hj99 : j = 99 := by omega
            subst hj99
            rw [nI_1]
            refine ih (n + 1 - (i + 1)) _ (by omega) ⟨i + 1, rfl, by omega, ?_, ?_, rfl, ?_⟩
            · subst e2; exact ag.trans (ag2.trans (ag3.trans (AgX.l103 υ3)))
            · subst e2; exact (hS2.i1 eu3 eu4).i1 rfl rfl
            · intro j' hj'
              subst e2
              rw [gL_sL, ← hnext j' hj']
              by_cases h99 : j' = 99
              · rw [if_pos ⟨rfl, h99⟩, if_neg (by omega)]; rfl
              · rw [if_neg (fun x => h99 x.2), if_pos (by omega)]; exact hlo j' (by omega)
          · rw [nI_1, nI_clamp (by omega), nI_clamp (by omega)]
            refine ⟨vp_in_nI (by omega) (by decide), vp_in_nI (by omega) (by decide), fun σ5 e5 => ?_⟩
            refine ih2 (99 - (j + 1)) _ (by omega) ⟨j + 1, rfl, by omega, ?_, ?_, ?_, rfl, ?_, ?_⟩
            · subst e5; exact eu3
            · subst e5; exact eu4
            · subst e5; exact ag3.trans (AgX.l103 υ3)
            · intro j' hj'
              subst e5
              rw [gL_sL]
              by_cases hjj : j' = j
              · subst hjj; rw [if_pos ⟨rfl, rfl⟩]; exact hhi (j' + 1) (by omega) (by omega)
              · rw [if_neg (fun x => hjj x.2)]; exact hlo j' (by omega)
            · intro j' h1 h2
              subst e5
              rw [gL_sL, if_neg (by omega)]; exact hhi j' (by omega) h2
        refine br0 (fun hb => ?_) (fun hb => ?_)
        · refine shift υ1 (likP K L a r d0 i) (xqk ag1) hS1 r1 ?_
          intro j hj
          show _ = stp (canA K a r (d0 + i)) _ _ _ _ j
          rw [hb]
          unfold stp ntN isN
          simp only [Bool.false_eq_true, if_false]
          have h0 : ∀ n, sumN (fun _ => 0) n = 0 := by
            intro n
            induction n with
            | zero => rfl
            | succ n ih => unfold sumN; rw [ih]
          rw [h0]
          simp
        · refine s_tryReading hS1 ha hr (by omega) (likP_tot hI i) r1 ?_
          intro υ2 ag2 hS2 hrow2
          refine shift υ2 _ ((xqk ag1).trans ag2) hS2 hrow2 ?_
          intro j hj
          show _ = stp (canA K a r (d0 + i)) _ _ _ _ j
          rw [hb]
          unfold stp
          have hla99 := (lasN_e hI (r := r) (w := (d0 + i) % 7) ha).2
          by_cases h99 : j < 99
          · rw [if_pos h99, if_pos h99]
          · rw [if_neg h99, if_neg h99, if_neg (by omega)]
    refine ⟨fun z2 => ?_, fun z2 => ?_⟩
    · have hd1 : ¬ d0 = 0 := fun h => z2 (by rw [h]; rfl)
      rw [show nI d0 - 1 = nI (d0 - 1) from pk_sub (a := d0) (b := 1) (by omega)]
      refine s_holdsUntil hSu ha (by omega) ?_
      intro υ1 ag1 hS1
      refine main υ1 _ (xqk ag1) hS1 (fun j => ag1.2.1 103 j (by unfold xl; omega)) ?_
      have hu := unt_lt hI hSu.2.2.1 (d := d0 - 1) ha
      have hst2 : stN K L a d0 = unt K L a (d0 - 1) - d0 := by unfold stN; rw [if_neg hd1]
      rw [hst2] at hst ⊢
      exact clamp99 hu (by omega) hst
    · have hd1 : d0 = 0 := by rw [show (0 : Int32) = nI 0 from rfl, nI_eq (by omega) (by decide)] at z2; exact z2
      refine main υ 0 (AgX.refl υ) hSu (fun _ => rfl) ?_
      unfold stN; rw [if_pos hd1]; decide
  · rw [nI_clamp (by omega), nI_1]
    refine ⟨vp_in_nI (by omega) (by decide), fun σ2 e2 => ?_⟩
    refine ih (100 - (i + 1)) _ (by omega) ⟨i + 1, rfl, by omega, ?_, ?_, ?_, rfl, ?_⟩
    · subst e2; exact eu
    · subst e2; exact eu2
    · subst e2; exact agu.trans (AgX.l103 υ)
    · intro j hj
      subst e2
      rw [gL_sL]
      by_cases hji : j = i
      · subst hji; rw [if_pos ⟨rfl, rfl⟩]; rfl
      · rw [if_neg (by omega)]; exact hz j (by omega)
end LKX
