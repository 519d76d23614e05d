/-! ===== orders: the model runs them ===== -/
def smI (z : Int32) : Int32 := if z < 0 then -1 else if z ≤ 1000000 then z else -1
theorem s_small {σ : DD} {z : Int32} {post : Int32 → DD → Prop} (k : post (smI z) σ) : w_M_small σ (i2l z) post := by
  have q1 : (i2l z < 0) ↔ z < 0 := by
    rw [Int64.lt_iff_toInt_lt, Int32.lt_iff_toInt_lt]
    show z.toInt64.toInt < 0 ↔ z.toInt < 0
    rw [Int32.toInt_toInt64]
  have q2 : (1000000 < i2l z) ↔ ¬ z ≤ 1000000 := by
    rw [Int64.lt_iff_toInt_lt, Int32.le_iff_toInt_le]
    show (1000000 : Int) < z.toInt64.toInt ↔ ¬ z.toInt ≤ 1000000
    rw [Int32.toInt_toInt64]; omega
  have q3 : (lg_cmp (i2l z) 1000000 ≤ 0) ↔ z ≤ 1000000 := by
    have := lgc_gt (x := i2l z) (y := 1000000)
    constructor
    · intro h
      by_cases c : z ≤ 1000000
      · exact c
      · have := this.2 (q2.2 c); grind
    · intro h
      have h2 : ¬ 0 < lg_cmp (i2l z) 1000000 := fun w => q2.1 (this.1 w) h
      grind
  unfold w_M_small
  rw [lgc_lt, q1, q3, l2i_i2l]
  unfold smI at k
  refine ⟨fun w => ?_, fun w => ⟨fun w2 => ?_, fun w2 => ?_⟩⟩
  · rw [if_pos w] at k; exact k
  · rw [if_neg w, if_pos w2] at k; exact k
  · rw [if_neg w, if_neg w2] at k; exact k
theorem ord_in {c v : Nat → Int32} {i l j l' : Nat} {x : CLS} (hv : ∀ k, 0 ≤ v k) (hx : pOrder c v i l = .inr (j, l', x)) : ((x.1 = 22 ∧ InI x.2.1 ∧ InI x.2.2.1) ∨ (x.1 = 24 ∧ x.2.1 = d1 ∧ x.2.2.1 = d1)) ∧ ∃ t, t ≤ 20 ∧ x.2.2.2.1 = nI t := by
  have tm : ∀ h A B i l, pTimes true c v h A B i l = .inr (j, l', x) → x.1 = h ∧ x.2.1 = A ∧ x.2.2.1 = B ∧ ∃ t, t ≤ 20 ∧ x.2.2.2.1 = nI t := by
    intro h A B i l hp
    unfold pTimes at hp
    by_cases c25 : c i = 25
    · rw [if_pos c25] at hp
      by_cases cn : c (i + 1) = 50 ∧ 1 ≤ v (i + 1) ∧ v (i + 1) ≤ 20
      · rw [if_pos cn] at hp
        obtain ⟨C, hxe, -⟩ := pIf_inv hp
        rw [hxe]
        refine ⟨rfl, rfl, rfl, ?_⟩
        obtain ⟨e, hlt⟩ := nI_toN (hv (i + 1))
        refine ⟨_, ?_, e⟩
        have := cn.2.2
        rw [e, show (20 : Int32) = nI 20 from rfl, nI_leI hlt (by decide)] at this
        exact this
      · rw [if_neg cn] at hp; cases hp
    · rw [if_neg c25] at hp
      obtain ⟨C, hxe, -⟩ := pIf_inv hp
      rw [hxe]
      exact ⟨rfl, rfl, rfl, 1, by decide, rfl⟩
  unfold pOrder at hx
  by_cases c22 : c i = 22
  · rw [if_pos c22] at hx
    cases h1 : pSum true c v 8 (i + 1) l with
    | inl w => rw [h1] at hx; cases hx
    | inr w =>
      obtain ⟨j1, l1, A⟩ := w
      rw [h1] at hx
      simp only [] at hx
      by_cases c23 : c j1 = 23
      · rw [if_pos c23] at hx
        cases h2 : pSum true c v 8 (j1 + 1) l1 with
        | inl w => rw [h2] at hx; cases hx
        | inr w =>
          obtain ⟨j2, l2, B⟩ := w
          rw [h2] at hx
          obtain ⟨q1, q2, q3, q4⟩ := tm 22 A B j2 l2 hx
          exact ⟨Or.inl ⟨q1, by rw [q2]; exact in_sum 8 _ _ _ _ _ h1, by rw [q3]; exact in_sum 8 _ _ _ _ _ h2⟩, q4⟩
      · rw [if_neg c23] at hx; cases hx
  · rw [if_neg c22] at hx
    by_cases c24 : c i = 24
    · rw [if_pos c24] at hx
      obtain ⟨q1, q2, q3, q4⟩ := tm 24 d1 d1 (i + 1) l hx
      exact ⟨Or.inr ⟨q1, q2, q3⟩, q4⟩
    · rw [if_neg c24] at hx; cases hx
section RN
variable {σ σ0 τ υ : DD} {N i l j l' : Nat} {c v : Nat → Int32} {K : Nat → Int32} {L0 : List RD} {y : OST}
theorem smI_act (hI : KI K) (z : Int32) : actB K (smI z) = actB K z ∧ (actB K z = true → smI z = z) := by
  have h8 := hI.a
  have hlt : nI (nA K) ≤ 8 := by rw [show (8 : Int32) = nI 8 from rfl, nI_leI (by omega) (by decide)]; omega
  unfold smI actB
  by_cases c1 : z < 0
  · rw [if_pos c1]
    have e1 : decide (0 ≤ z ∧ z < nI (nA K)) = false := decide_eq_false (fun w => by have := w.1; grind)
    rw [e1]
    exact ⟨decide_eq_false (fun w => absurd w.1 (by decide)), fun w => absurd w (by decide)⟩
  · rw [if_neg c1]
    by_cases c2 : z ≤ 1000000
    · rw [if_pos c2]; exact ⟨rfl, fun _ => rfl⟩
    · rw [if_neg c2]
      have e1 : decide (0 ≤ z ∧ z < nI (nA K)) = false := decide_eq_false (fun w => by have := w.2; grind)
      rw [e1]
      exact ⟨decide_eq_false (fun w => absurd w.1 (by decide)), fun w => absurd w (by decide)⟩
theorem smI_rdr (hI : KI K) (z : Int32) : rdrB K (smI z) = rdrB K z ∧ (rdrB K z = true → smI z = z) := by
  have h8 := hI.r
  have hlt : nI (nR K) ≤ 8 := by rw [show (8 : Int32) = nI 8 from rfl, nI_leI (by omega) (by decide)]; omega
  unfold smI rdrB
  by_cases c1 : z < 0
  · rw [if_pos c1]
    have e1 : decide (0 ≤ z ∧ z < nI (nR K)) = false := decide_eq_false (fun w => by have := w.1; grind)
    rw [e1]
    exact ⟨decide_eq_false (fun w => absurd w.1 (by decide)), fun w => absurd w (by decide)⟩
  · rw [if_neg c1]
    by_cases c2 : z ≤ 1000000
    · rw [if_pos c2]; exact ⟨rfl, fun _ => rfl⟩
    · rw [if_neg c2]
      have e1 : decide (0 ≤ z ∧ z < nI (nR K)) = false := decide_eq_false (fun w => by have := w.2; grind)
      rw [e1]
      exact ⟨decide_eq_false (fun w => absurd w.1 (by decide)), fun w => absurd w (by decide)⟩
def orP (o k : Nat) : Prop := goP o k ∨ lgP o k ∨ (o = 4 ∧ k = 395) ∨ (o = 0 ∧ (k = 45 ∨ k = 46 ∨ k = 47))
/-- the model in the midst of orders -/
def OM (σ0 σ : DD) (K : Nat → Int32) (L0 : List RD) (y : OST) (N : Nat) (c v : Nat → Int32) : Prop := GI orP σ0 σ ∧ MS σ K y.1 ∧ gI σ 4 395 = nI y.2.1 ∧ y.2.1 ≤ 999 ∧ (∀ z, z ∈ y.1 → z.2.2 ≤ y.2.1) ∧ y.1.length ≤ 24 ∧ (∃ P, y.1 = L0 ++ P) ∧ gI σ 0 45 = nI y.2.2.1 ∧ gI σ 0 46 = y.2.2.2 ∧ TK6 σ N c v
theorem OM.gi {P : Nat → Nat → Prop} (h : OM σ0 σ K L0 y N c v) (a : GI P σ τ) (hM : MS τ K y.1) (hP : ∀ o k, P o k → orP o k ∧ ¬ o = 4 ∧ ¬ (o = 0 ∧ (k = 45 ∨ k = 46))) : OM σ0 τ K L0 y N c v := by
  obtain ⟨h1, h2, h3, h4, h5, h6, h7, h8, h9, h10⟩ := h
  refine ⟨h1.trans (a.mono (fun o k w => (hP o k w).1)), hM, ?_, h4, h5, h6, h7, ?_, ?_, h10.g (fun k _ => a _ _ (fun w => (hP _ _ w).2.1 rfl))⟩
  · rw [a _ _ (fun w => (hP _ _ w).2.1 rfl)]; exact h3
  · rw [a _ _ (fun w => (hP _ _ w).2.2 (by omega))]; exact h8
  · rw [a _ _ (fun w => (hP _ _ w).2.2 (by omega))]; exact h9
/-- once -/
theorem run_1 {x : CLS} {KK : DD → Prop} {post : Int32 → DD → Prop} (hO : OM σ0 σ K L0 y N c v) (h47 : gI σ 0 47 = nI (2400 + i)) (hi : i ≤ N) (hl : l ≤ 50) (hx : pOrder c v i l = .inr (j, l', x)) (hin : (x.1 = 22 ∧ InI x.2.1 ∧ InI x.2.2.1) ∨ (x.1 = 24 ∧ x.2.1 = d1 ∧ x.2.2.1 = d1))
    (k1 : ∀ y', oneO K x y = .inr y' → ∀ τ, OM σ0 τ K L0 y' N c v → gI τ 0 47 = nI (2400 + i) → KK τ)
    (k0 : ∀ w, oneO K x y = .inl w → ∀ τ r y', OM σ0 τ K L0 y' N c v → ¬ r = 0 → (r = -5 ↔ w = -5) → (w = -3 ∨ w = -5) → post r τ) :
    w_M_goesAlong σ (nI (2400 + N)) 1 (fun σ5 => (¬ (gI σ5 0 51) = 0 → (¬ (gI σ5 0 50) = 0 → w_M_obeys σ5 (fun r8 σ9 => (0 ≤ r8 → ∀ σ11, σ11 = sI σ9 0 45 ((gI σ9 0 45) + 1) → KK σ11) ∧ (¬ 0 ≤ r8 → post r8 σ9))) ∧ ((gI σ5 0 50) = 0 → post (-3) σ5)) ∧ ((gI σ5 0 51) = 0 → KK σ5)) := by
  obtain ⟨L, d, dn, la⟩ := y
  have hO' := hO
  obtain ⟨h1, h2, h3, h4, h5, h6, h7, h8, h9, h10⟩ := hO
  simp only [] at h2 h3 h4 h5 h6 h7 h8 h9
  have hI := h2.2.1
  refine s_goes (live := true) h2 h3 h4 h8 h9 h10 h47 hi hl hx (fun τ a hM z48 z22 z49 hh hs => ?_)
  obtain ⟨s51, s50, sl⟩ := hs rfl
  have hOt : OM σ0 τ K L0 (L, d, dn, la) N c v := hO'.gi a hM (fun o k w => ⟨Or.inl w, by unfold goP soP qP at w; omega, by unfold goP soP qP at w; omega⟩)
  have g47 : gI τ 0 47 = nI (2400 + i) := by rw [a _ _ (by unfold goP soP qP; omega)]; exact h47
  have one : oneO K x (L, d, dn, la) = if x.2.2.2.2 (envO K L d dn la) = some true then (if x.1 = 24 then (if d = 999 then .inl (-3) else .inr (L, d + 1, dn + 1, la)) else sumsO K (L, d, dn, la) (x.2.1 (envO K L d dn la)) (x.2.2.1 (envO K L d dn la))) else .inr (L, d, dn, la) := rfl
  have hOd : d ≤ 999 := h4
  rw [s51]
  refine br1 (fun z => ?_) (fun z => ?_)
  · have zt := of_decide_eq_true z
    rw [if_pos zt] at one
    rw [s50]
    refine br1 (fun z2 => ?_) (fun z2 => ?_)
    · unfold w_M_obeys
      rw [z49]
      refine ⟨fun z3 => ?_, fun z3 => ?_⟩
      · rw [if_neg z3] at one
        have x22 : x.1 = 22 := by rcases hh with w | w; exact absurd w z3; exact w
        have henv : ∀ j, ∃ z : Int32, envO K L d dn la j = i2l z := fun j => ⟨_, rfl⟩
        rw [Bool.and_eq_true] at z2
        cases hA : x.2.1 (envO K L d dn la) with
        | none => rw [hA] at z2; exact absurd z2.1 (by decide)
        | some aa =>
          cases hB : x.2.2.1 (envO K L d dn la) with
          | none => rw [hB] at z2; exact absurd z2.2 (by decide)
          | some rr =>
            have hin2 : InI x.2.1 ∧ InI x.2.2.1 := by
              rcases hin with w | w
              · exact w.2
              · exact absurd w.1 z3
            obtain ⟨za, ea⟩ := hin2.1 _ henv _ hA
            obtain ⟨zr, er⟩ := hin2.2 _ henv _ hB
            have hg := sl x22 aa hA rr hB
            rw [hA, hB, ea, er] at one
            have one2 : oneO K x (L, d, dn, la) = tellO K (L, d, dn, la) za zr := by rw [one]; show tellO K _ (l2i (i2l za)) (l2i (i2l zr)) = _; rw [l2i_i2l, l2i_i2l]
            rw [hg.1, ea]
            refine s_small ?_
            rw [hg.2, er]
            refine s_small ?_
            have sa := smI_act hI za
            have sr := smI_rdr hI zr
            have tO : tellO K (L, d, dn, la) za zr = if (actB K za && rdrB K zr) = false then .inl (-3) else if canS K L d za zr = false then .inl (-3) else if L.length < 24 then .inr (L ++ [(za.toNatClampNeg, zr.toNatClampNeg, d)], d, dn + 1, za) else .inl (-5) := rfl
            have cs : (actB K za && rdrB K zr) = true → smI za = za ∧ smI zr = zr := by
              intro w
              rw [Bool.and_eq_true] at w
              exact ⟨sa.2 w.1, sr.2 w.2⟩
            refine s_readsKept hM hOt.2.2.1 hOd (fun w => ?_) (fun τ2 w w2 a2 hM2 => ?_) (fun τ2 w w2 w3 a2 hM2 => ?_) (fun a r τ2 w w2 ea2 er2 ha hr w3 a2 hM2 => ?_)
            all_goals rw [sa.1, sr.1] at w
            · rw [if_pos w] at tO
              exact ⟨fun _ => ⟨fun z => absurd z (by decide), fun _ => k0 (-3) (one2.trans tO) τ (-2) _ hOt (by decide) ⟨fun z => absurd z (by decide), fun z => absurd z (by decide)⟩ (Or.inl rfl)⟩, fun z => absurd z (by decide)⟩
            · have hc := cs w
              rw [hc.1, hc.2] at w2
              rw [if_neg (by rw [w]; decide), if_pos w2] at tO
              have hO2 : OM σ0 τ2 K L0 (L, d, dn, la) N c v := hOt.gi (GI.of a2 (fun o k w => w)) hM2 (fun o k w => ⟨Or.inl (Or.inl (Or.inl w)), by unfold qP at w; omega, by unfold qP at w; omega⟩)
              exact ⟨fun _ => ⟨fun z => absurd z (by decide), fun _ => k0 (-3) (one2.trans tO) τ2 (-3) _ hO2 (by decide) ⟨fun z => absurd z (by decide), fun z => absurd z (by decide)⟩ (Or.inl rfl)⟩, fun z => absurd z (by decide)⟩
            · have hc := cs w
              rw [hc.1, hc.2] at w2
              rw [if_neg (by rw [w]; decide), if_neg (by rw [w2]; decide), if_neg w3] at tO
              have hO2 : OM σ0 τ2 K L0 (L, d, dn, la) N c v := hOt.gi (GI.of a2 (fun o k w => w)) hM2 (fun o k w => ⟨Or.inl (Or.inl (Or.inl w)), by unfold qP at w; omega, by unfold qP at w; omega⟩)
              exact ⟨fun _ => ⟨fun z => absurd z (by decide), fun _ => k0 (-5) (one2.trans tO) τ2 (-5) _ hO2 (by decide) ⟨fun _ => rfl, fun _ => rfl⟩ (Or.inr rfl)⟩, fun z => absurd z (by decide)⟩
            · have hc := cs w
              rw [hc.1, hc.2] at w2
              rw [if_neg (by rw [w]; decide), if_neg (by rw [w2]; decide), if_pos w3] at tO
              rw [hc.1] at ea2
              rw [hc.2] at er2
              have h8' := hI.a
              have h4' := hI.r
              have ta : za.toNatClampNeg = a := by rw [ea2, nI_clamp (by omega)]
              have tr : zr.toNatClampNeg = r := by rw [er2, nI_clamp (by omega)]
              rw [ta, tr] at tO
              refine ⟨fun z => absurd rfl z, fun _ σ9 e9 => ⟨fun _ σ11 e11 => ?_, fun z => absurd (by decide) z⟩⟩
              rw [hc.1] at e9
              have g45 : gI σ9 0 45 = nI dn := by rw [e9, gI_sI, if_neg (by omega), a2.at _ _ (by unfold rkP qP lgP; omega)]; exact hOt.2.2.2.2.2.2.2.1
              rw [g45, nI_1] at e11
              have b11 : Ag (fun o k => o = 0 ∧ (k = 45 ∨ k = 46)) τ2 σ11 := by rw [e11, e9]; exact (Ag.put (by omega)).set (by omega)
              refine k1 _ (one2.trans tO) σ11 ⟨hOt.1.trans ((GI.of a2 (fun o k w => ?_)).trans (GI.of b11 (fun o k w => Or.inr (Or.inr (Or.inr (by omega)))))), hM2.lo b11 (by omega), ?_, hOd, fun z hz => ?_, ?_, ?_, ?_, ?_, ?_⟩ ?_
              · rcases w with w | w
                · exact Or.inl (Or.inl (Or.inl w))
                · exact Or.inr (Or.inl w)
              · simp only []; rw [b11.at _ _ (by omega), a2.at _ _ (by unfold rkP qP lgP; omega)]; exact hOt.2.2.1
              · rcases List.mem_append.1 hz with q | q
                · exact h5 z q
                · rw [List.mem_singleton.1 q]; exact Nat.le_refl _
              · simp only []; rw [List.length_append]; simp; omega
              · obtain ⟨P, hP⟩ := h7
                exact ⟨P ++ [(a, r, d)], by simp only []; rw [hP, List.append_assoc]⟩
              · rw [e11, gI_same]
              · rw [e11, gI_sI, if_neg (by omega), e9, gI_same]
              · exact (hOt.2.2.2.2.2.2.2.2.2.g (fun k hk => a2.at _ _ (by unfold rkP qP lgP; omega))).g (fun k hk => b11.at _ _ (by omega))
              · rw [b11.at _ _ (by omega), a2.at _ _ (by unfold rkP qP lgP; omega)]; exact g47
      · rw [if_pos z3] at one
        rw [hOt.2.2.1, show nI d = 999 ↔ d = 999 from nI_eq (a := d) (b := 999) (by omega) (by decide)]
        refine ⟨fun z4 σ12 e12 => ⟨fun _ σ11 e11 => ?_, fun z => absurd (by decide) z⟩, fun z4 => ⟨fun z => absurd z (by decide), fun _ => ?_⟩⟩
        · rw [if_neg z4] at one
          rw [nI_1] at e12
          have g45 : gI σ12 0 45 = nI dn := by rw [e12, gI_sI, if_neg (by omega)]; exact hOt.2.2.2.2.2.2.2.1
          rw [g45, nI_1] at e11
          have hM12 : MS σ12 K L := by rw [e12]; exact hM.day
          have b11 : Ag (fun o k => o = 0 ∧ k = 45) σ12 σ11 := by rw [e11]; exact Ag.put ⟨rfl, rfl⟩
          have b12 : Ag (fun o k => o = 4 ∧ k = 395) τ σ12 := by rw [e12]; exact Ag.put ⟨rfl, rfl⟩
          refine k1 _ one σ11 ⟨hOt.1.trans ((GI.of b12 (fun o k w => Or.inr (Or.inr (Or.inl w)))).trans (GI.of b11 (fun o k w => Or.inr (Or.inr (Or.inr (by omega)))))), hM12.lo b11 (by omega), ?_, by simp only []; omega, fun z hz => ?_, h6, h7, ?_, ?_, ?_⟩ ?_
          · rw [b11.at _ _ (by omega), e12, gI_same]
          · have := h5 z hz; simp only []; omega
          · rw [e11, gI_same]
          · rw [b11.at _ _ (by omega), b12.at _ _ (by omega)]; exact hOt.2.2.2.2.2.2.2.2.1
          · exact (hOt.2.2.2.2.2.2.2.2.2.g (fun k hk => b12.at _ _ (by omega))).g (fun k hk => b11.at _ _ (by omega))
          · rw [b11.at _ _ (by omega), b12.at _ _ (by omega)]; exact g47
        · rw [if_pos z4] at one
          exact k0 (-3) one τ (-3) _ hOt (by decide) ⟨fun z => absurd z (by decide), fun z => absurd z (by decide)⟩ (Or.inl rfl)
    · have ih : oneO K x (L, d, dn, la) = .inl (-3) := by
        rw [one]
        rcases hh with w | w
        · exfalso
          rw [Bool.and_eq_false_iff] at z2
          have hx24 : x.2.1 = d1 ∧ x.2.2.1 = d1 := by
            rcases hin with q | q
            · rw [w] at q; exact absurd q.1 (by decide)
            · exact q.2
          rcases z2 with q | q
          · rw [hx24.1] at q; exact absurd q (by simp [d1])
          · rw [hx24.2] at q; exact absurd q (by simp [d1])
        · rw [if_neg (by rw [w]; decide)]
          rw [Bool.and_eq_false_iff] at z2
          unfold sumsO
          rcases z2 with q | q
          · cases hA : x.2.1 (envO K L d dn la) with
            | none => rfl
            | some aa => rw [hA] at q; exact absurd q (by simp)
          · cases hB : x.2.2.1 (envO K L d dn la) with
            | none => cases x.2.1 (envO K L d dn la) <;> rfl
            | some aa => rw [hB] at q; exact absurd q (by simp)
      exact k0 (-3) ih τ (-3) _ hOt (by decide) ⟨fun z => absurd z (by decide), fun z => absurd z (by decide)⟩ (Or.inl rfl)
  · rw [if_neg (of_decide_eq_false z)] at one
    exact k1 _ one τ hOt g47
end RN
