/-! ===== mornings, both ===== -/
def mornV (l : List (List Nat)) (n : Nat) (i : Int32) : Int32 := if l = [] then -1 else if i = -1 then nI (l.foldl (upR 0 []) (n + 1, [])).1 else nI ((l.foldl (upR 0 []) (n + 1, [])).2.getD i.toNatClampNeg 0)
def mornS (K : Nat → Int32) (L : List RD) (d0 : Nat) (a1 a2 a3 a4 a5 : Int32) : Int32 := if actsB K a1 && actsB K a2 && rdrB K a3 && inB a4 1 5 && inB a5 (-1) (a4 - 1) then mornV (vRm K L a4.toNatClampNeg a3.toNatClampNeg a1.toNatClampNeg a2.toNatClampNeg d0 a4.toNatClampNeg 0 (Ut K L)) a4.toNatClampNeg a5 else -1
theorem vR_clash {n N t0 : Nat} {op : Nat → Nat → Bool} {la : Nat → Nat → Nat} {nd : Nat → Option Nat} {mi th : Nat → Bool} (h : ∃ a, a < N ∧ mi a = true ∧ th a = true) : ∀ m k U, vR n N t0 op la nd mi th m k U = [] := by
  obtain ⟨a, ha, h1, h2⟩ := h
  intro m
  induction m with
  | zero =>
    intro k U
    unfold vR
    rw [if_neg]
    intro hg
    unfold goalR at hg
    rw [List.all_eq_true] at hg
    have := hg a (List.mem_range.2 ha)
    rw [h1, h2] at this
    cases hh : hE n t0 U a <;> rw [hh] at this <;> simp at this
  | succ m ih =>
    intro k U
    rw [vR_S, ih, List.map_nil, List.append_nil]
    unfold vS
    rw [List.flatMap_eq_nil_iff]
    intro b _
    split
    · rw [ih]; rfl
    · rfl
/-- whatever number it starts from -/
theorem fold_start {l : List (List Nat)} {n F G : Nat} {b c : List Nat} (hl : l ≠ []) (h : ∀ row, row ∈ l → cntR row ≤ n) (hF : n < F) (hG : n < G) : l.foldl (upR 0 []) (F, b) = l.foldl (upR 0 []) (G, c) := by
  cases l with
  | nil => exact absurd rfl hl
  | cons x l =>
    have hx := h x (List.mem_cons_self ..)
    rw [List.foldl_cons, List.foldl_cons]
    have e1 : upR 0 [] (F, b) x = (0 + cntR x, [] ++ x) := by unfold upR; rw [if_pos (by simp only []; omega)]
    have e2 : upR 0 [] (G, c) x = (0 + cntR x, [] ++ x) := by unfold upR; rw [if_pos (by simp only []; omega)]
    rw [e1, e2]
/-- what it comes to: as long as a row of the list -/
theorem fold_res {l : List (List Nat)} {n F : Nat} {b : List Nat} (hl : l ≠ []) (h : ∀ row, row ∈ l → row.length = n ∧ cntR row ≤ n) (hF : n < F) : (l.foldl (upR 0 []) (F, b)).1 ≤ n ∧ (l.foldl (upR 0 []) (F, b)).2.length = n := by
  rcases fold_spec (used := 0) (pre := []) l (F, b) with ⟨h1, h2⟩ | ⟨l1, x, l2, h1, h2, h3, h4, h5⟩
  · cases l with
    | nil => exact absurd rfl hl
    | cons x l =>
      have := h2 x (List.mem_cons_self ..)
      have := h x (List.mem_cons_self ..)
      simp only [] at *
      omega
  · rw [h2]
    have := h x (by rw [h1]; simp)
    simp only [List.nil_append]
    omega
theorem inB_e {x lo hi : Int32} (h : inB x lo hi = true) : lo ≤ x ∧ x ≤ hi := of_decide_eq_true h
section MA
variable {σ τ : DD} {T : TXT} {K : Nat → Int32} {L : List RD}
theorem s_Mmornings {d0 : Nat} {a1 a2 a3 a4 a5 : Int32} {post : Int32 → DD → Prop} (hS : MS σ K L) (hday : gI σ 4 395 = nI d0) (hd0 : d0 ≤ 999) (hLd : ∀ x, x ∈ L → x.2.2 ≤ d0) (hL24 : L.length ≤ 24) (k : ∀ τ, PM σ τ → MS τ K L → post (mornS K L d0 a1 a2 a3 a4 a5) τ) : w_M_mornings σ a1 a2 a3 a4 a5 post := by
  have hI := hS.2.1
  have ha8 := hI.a
  have hr4 := hI.r
  unfold mornS at k
  unfold w_M_mornings
  refine s_areActs hS.1.1 hI (br0 (fun h1 => ?_) (fun h1 => ?_))
  · rw [h1] at k; exact k σ (PM.refl σ) hS
  refine s_areActs hS.1.1 hI (br0 (fun h2 => ?_) (fun h2 => ?_))
  · rw [h1, h2] at k; exact k σ (PM.refl σ) hS
  refine s_isReader hS.1.1 hI (br0 (fun h3 => ?_) (fun h3 => ?_))
  · rw [h1, h2, h3] at k; exact k σ (PM.refl σ) hS
  refine s_lies (br0 (fun h4 => ?_) (fun h4 => ?_))
  · rw [h1, h2, h3, h4] at k; exact k σ (PM.refl σ) hS
  refine s_lies (br1 (fun h5 => ?_) (fun h5 => ?_))
  rotate_left
  · rw [h1, h2, h3, h4, h5] at k; exact k σ (PM.refl σ) hS
  rw [h1, h2, h3, h4, h5] at k
  simp only [Bool.and_true, if_true] at k
  obtain ⟨m0, hm0, e1⟩ := actsB_e hI h1
  obtain ⟨m1, hm1, e2⟩ := actsB_e hI h2
  obtain ⟨r, hr, e3⟩ := rdrB_e hI h3
  have h4' := inB_e h4
  have h5' := inB_e h5
  obtain ⟨e4, h4b⟩ := nI_toN (x := a4) (by grind)
  generalize a4.toNatClampNeg = n at e4 h4b k
  subst e1; subst e2; subst e3; subst e4
  have hn5 : 1 ≤ n ∧ n ≤ 5 := by
    have y1 := h4'.1
    have y2 := h4'.2
    rw [show (1 : Int32) = nI 1 from rfl, nI_leI (by decide) h4b] at y1
    rw [show (5 : Int32) = nI 5 from rfl, nI_leI h4b (by decide)] at y2
    exact ⟨y1, y2⟩
  have hp8 := pow8 ha8.2
  rw [nI_clamp (by omega), nI_clamp (by omega), nI_clamp (by omega)] at k
  intro σ16 e16 σ18 e18 σ20 e20 σ22 e22 σ24 e24
  have ag : Ag (fun o p => o = 0 ∧ 32 ≤ p ∧ p ≤ 36) σ σ24 := by
    subst e16; subst e18; subst e20; subst e22; subst e24
    refine (((((Ag.put ?_).set ?_).set ?_).set ?_).set ?_) <;> omega
  have hS24 : MS σ24 K L := ⟨⟨hS.1.1.lg ag (by omega), hS.1.2.ag ag (by omega) (by omega) (by omega)⟩, hI, hS.2.2.1.ag ag (by omega), hS.2.2.2⟩
  have hset : MSet σ24 n r m0 m1 d0 := by
    refine ⟨?_, ?_, ?_, ?_, ?_⟩
    · subst e16; subst e18; subst e20; subst e22; subst e24; simp [gI_sI]
    · subst e16; subst e18; subst e20; subst e22; subst e24; simp [gI_sI]
    · subst e16; subst e18; subst e20; subst e22; subst e24; simp [gI_sI]
    · subst e16; subst e18; subst e20; subst e22; subst e24; simp [gI_sI]
    · rw [ag.at 4 395 (by omega)]; exact hday
  have h32 : gI σ24 0 32 = nI 1000000 := by
    subst e16; subst e18; subst e20; subst e22; subst e24; simp [gI_sI]; rfl
  refine s_tries hI hr (by omega) hd0 hm0 hm1 hLd hL24 n 0 12 0 [] (1000000, []) [] σ24 _ (by omega) (by omega) (by omega) (by simp) rfl (by simp) (by rw [List.append_nil]; exact hS24) hset (Nat.le_refl _) h32 (by intro i x hx; simp at hx) (by intro i x hx; simp at hx) ?_
  intro τ agt hSt t32 tr32 _
  rw [List.append_nil] at hSt t32 tr32
  have kk := k τ ((PM.ag ag (by intro o p; unfold pers; omega)).trans (PM.m agt)) hSt
  have hlen : ∀ row, row ∈ vRm K L n r m0 m1 d0 n 0 (Ut K L) → row.length = n ∧ cntR row ≤ n := fun row hrow => by
    have := vR_len _ _ _ _ _ _ _ _ (by omega) _ _ _ _ hrow
    exact ⟨this.1, this.2.1⟩
  unfold mornV at kk
  by_cases hl : vRm K L n r m0 m1 d0 n 0 (Ut K L) = []
  · rw [if_pos hl] at kk
    rw [hl] at t32
    have t32' : gI τ 0 32 = 1000000 := t32
    exact ⟨fun z => absurd t32' z, fun _ => kk⟩
  · rw [if_neg hl] at kk
    have hst := fold_start (n := n) (F := 1000000) (G := n + 1) (b := []) (c := []) hl (fun row hrow => (hlen row hrow).2) (by omega) (by omega)
    rw [hst] at t32 tr32
    have hres := fold_res (n := n) (F := n + 1) (b := []) hl hlen (by omega)
    generalize (vRm K L n r m0 m1 d0 n 0 (Ut K L)).foldl (upR 0 []) (n + 1, []) = acc at t32 tr32 hres kk
    rw [t32, show (1000000 : Int32) = nI 1000000 from rfl, nI_eq (by omega) (by decide)]
    refine ⟨fun _ => ⟨fun z => ?_, fun z => ?_⟩, fun z => by omega⟩
    · rw [if_neg z] at kk
      have h0 : 0 ≤ a5 := by grind
      obtain ⟨e5, h5b⟩ := nI_toN h0
      have hlt : a5.toNatClampNeg < n := by
        have := h5'.2
        rw [e5, show nI n - 1 = nI (n - 1) from pk_sub (a := n) (b := 1) (by omega), nI_leI h5b (by omega)] at this
        omega
      have hg : acc.2[a5.toNatClampNeg]? = some (acc.2.getD a5.toNatClampNeg 0) := by
        rw [List.getD_eq_getElem?_getD, List.getElem?_eq_getElem (by omega)]; rfl
      rw [tr32 _ _ hg]
      refine ⟨?_, kk⟩
      rw [e5]; exact vp_in_nI (by omega) (by decide)
    · rw [if_pos z] at kk; exact kk
theorem s_Xmornings {d0 : Nat} {a1 a2 a3 a4 a5 : Int32} {post : Int32 → DD → Prop} (hS : XS σ T K L) (hday : gI σ 208 0 = nI d0) (hd0 : d0 ≤ 999) (hLd : ∀ x, x ∈ L → x.2.2 ≤ d0) (k : ∀ τ, AgX scrX scrL σ τ → XS τ T K L → post (mornS K L d0 a1 a2 a3 a4 a5) τ) : w_Face_mornings T σ a1 a2 a3 a4 a5 post := by
  have hI := hS.1.2.2
  have ha8 := hI.a
  have hr4 := hI.r
  unfold mornS at k
  unfold w_Face_mornings
  refine s_XareActs hS.1.1 hI (br0 (fun h1 => ?_) (fun h1 => ?_))
  · rw [h1] at k; exact k σ (AgX.refl σ) hS
  refine s_XareActs hS.1.1 hI (br0 (fun h2 => ?_) (fun h2 => ?_))
  · rw [h1, h2] at k; exact k σ (AgX.refl σ) hS
  refine s_XisReader hS.1.1 hI (br1 (fun h3 => ?_) (fun h3 => ?_))
  rotate_left
  · rw [h1, h2, h3] at k; exact k σ (AgX.refl σ) hS
  rw [h1, h2, h3] at k
  have no : inB a4 1 5 = false ∨ inB a5 (-1) (a4 - 1) = false → post (-1) σ := by
    intro h
    have kk := k σ (AgX.refl σ) hS
    rcases h with h | h <;> rw [h] at kk <;> simpa using kk
  refine ⟨fun z => no (Or.inl (decide_eq_false (by grind))), fun z1 => ⟨fun z => no (Or.inl (decide_eq_false (by grind))), fun z2 => ⟨fun z => no (Or.inr (decide_eq_false (by grind))), fun z3 => ⟨fun z4 => ?_, fun z4 => no (Or.inr (decide_eq_false (by grind)))⟩⟩⟩⟩
  have h4 : inB a4 1 5 = true := decide_eq_true (by grind)
  have h5 : inB a5 (-1) (a4 - 1) = true := decide_eq_true (by grind)
  rw [h4, h5] at k
  simp only [Bool.and_true, if_true] at k
  obtain ⟨m0, hm0, e1⟩ := actsB_e hI h1
  obtain ⟨m1, hm1, e2⟩ := actsB_e hI h2
  obtain ⟨r, hr, e3⟩ := rdrB_e hI h3
  have h4' := inB_e h4
  have h5' := inB_e h5
  obtain ⟨e4, h4b⟩ := nI_toN (x := a4) (by grind)
  generalize a4.toNatClampNeg = n at e4 h4b k
  subst e1; subst e2; subst e3; subst e4
  have hn5 : 1 ≤ n ∧ n ≤ 5 := by
    have y1 := h4'.1
    have y2 := h4'.2
    rw [show (1 : Int32) = nI 1 from rfl, nI_leI (by decide) h4b] at y1
    rw [show (5 : Int32) = nI 5 from rfl, nI_leI h4b (by decide)] at y2
    exact ⟨y1, y2⟩
  have hp8 := pow8 ha8.2
  rw [nI_clamp (by omega), nI_clamp (by omega), nI_clamp (by omega)] at k
  have hlen : ∀ row, row ∈ vRm K L n r m0 m1 d0 n 0 (Ut K L) → row.length = n ∧ cntR row ≤ n := fun row hrow => by
    have := vR_len _ _ _ _ _ _ _ _ (by omega) _ _ _ _ hrow
    exact ⟨this.1, this.2.1⟩
  unfold w_Morn_fewestReadings
  have empty : vRm K L n r m0 m1 d0 n 0 (Ut K L) = [] → ∀ τ, AgX scrX scrL σ τ → XS τ T K L → post (-1) τ := by
    intro hl τ ag hSt
    have kk := k τ ag hSt
    unfold mornV at kk
    rw [if_pos hl] at kk; exact kk
  have e0b := bits_of hm0 (show nA K ≤ 16 by omega)
  have e1b := bits_of hm1 (show nA K ≤ 16 by omega)
  refine ⟨fun _ => ?_, fun z => ?_⟩
  · refine s_prepare hS hday hd0 hLd ?_
    intro υ agp hSu hpl hpu
    unfold w_Morn_fewestReadings_l19
    refine LoopN (fun c y => ∃ i, c = n - i ∧ i ≤ n ∧ AgX scrX scrL σ y.1 ∧ XS y.1 T K L ∧ PL y.1 K n m0 m1 d0 ∧ PU y.1 K (Ut K L) ∧ y.2 = nI i ∧ ∀ j, j < i → PO y.1 K L (fun _ => r) d0 j) ?_ (n := n) ⟨0, rfl, Nat.zero_le _, agp, hSu, hpl, hpu, rfl, by omega⟩
    rintro c ⟨υ, a5'⟩ KK ⟨i, hc, hi, ag, hSu, hpl, hpu, ea, hpo⟩ ih
    simp only [] at ag hSu hpl hpu ea hpo ⊢
    subst ea
    unfold w_Morn_fewestReadings_b19
    rw [nI_leI (by omega) (by omega)]
    refine ⟨fun w => ?_, fun w => ?_⟩
    · have hin : i = n := by omega
      subst hin
      refine s_findNeeded hSu hpl hm0 hm1 ?_
      intro ne hclo υ2 ag2 h12
      intro σ4 e4
      have ag4 : AgX (fun o p => o = 70 ∧ (p = 12 ∨ p = 13)) (fun _ => False) υ σ4 := by
        subst e4
        exact (ag2.mono (by intro o p h; omega) (fun o h => h)).set ⟨rfl, Or.inr rfl⟩
      have hS4 := hSu.ag ag4 (by omega) (by omega) (by omega) (by omega)
      have hpl4 : PL σ4 K i m0 m1 d0 := by
        unfold PL; rw [ag4.i 70 8 (by omega), ag4.i 70 9 (by omega), ag4.i 70 10 (by omega), ag4.i 70 11 (by omega)]; exact hpl
      have hpu4 : PU σ4 K (Ut K L) := by
        intro a ha; rw [ag4.i 73 a (by omega)]; exact hpu a ha
      have hU : ∀ a, Ut K L a < 3000 := by
        intro a
        unfold Ut unt
        cases hla : lat L a 1999 with
        | none => simp
        | some x =>
          have hm := lat_mem hla
          have hb := hSu.2.2.1 x hm.1
          have ha : a < nA K := by rw [← hm.2.1]; exact hb.1
          have := (lasN_e hI (r := x.2.1) (w := x.2.2 % 7) ha).2
          simp only []; omega
      refine s_seek (ne := ne) hI hr (by omega) hd0 hm0 hm1 i 0 12 0 (Ut K L) (i + 1, []) [] σ4 _ (by omega) (by omega) (by omega) rfl hS4 hpl4 hpu4 hU ?_ ?_ ?_ ?_ (by intro j x hx; simp at hx) (by intro j x hx; simp at hx) ?_
      · intro j hj
        unfold PO
        rw [ag4.row 74 (by omega), ag4.row 75 (by omega)]
        exact hpo j hj
      · subst e4; rw [gI_sI, if_neg (by omega)]; exact h12
      · simp only []; omega
      · subst e4; rw [gI_same, nI_1]
      · intro τ agt _ t13 tr77 _
        have agT : AgX scrX scrL σ τ := ag.trans ((ag4.mono (by intro o p h; unfold scrX; omega) (by intro o h; exact h.elim)).trans (agt.mono (by intro o p h; unfold skP at h; unfold scrX; omega) (by intro o h; exact h.elim)))
        have hSt : XS τ T K L := hS4.ag agt (by unfold skP; omega) (by unfold skP; omega) (by unfold skP; omega) (by unfold skP; omega)
        have hus := fold_useful i (nA K) d0 (fun k a => canB K L a r (d0 + k)) (fun k a => lasN K a r ((d0 + k) % 7)) (ndF K) (bOf (nI m0)) (bOf (nI m1)) ne hclo (by omega) (fun a b h => (ndF_lt hI h).2.1) (Ut K L) (used := 0) (pre := []) (i + 1, [])
        have hus' : (uRm K L i r m0 m1 d0 ne i 0 (Ut K L)).foldl (upR 0 []) (i + 1, []) = (vRm K L i r m0 m1 d0 i 0 (Ut K L)).foldl (upR 0 []) (i + 1, []) := hus
        rw [hus'] at t13 tr77
        by_cases hl : vRm K L i r m0 m1 d0 i 0 (Ut K L) = []
        · rw [hl] at t13
          have t13' : gI τ 70 13 = nI (i + 1) := t13
          rw [t13', nI_leI (by omega) (by omega)]
          refine ⟨fun z => by omega, fun _ => ⟨fun z => empty hl τ agT hSt, fun z => ⟨fun z2 => absurd rfl z2, fun _ => empty hl τ agT hSt⟩⟩⟩
        · have hres := fold_res (n := i) (F := i + 1) (b := []) hl hlen (by omega)
          have kk := k τ agT hSt
          unfold mornV at kk
          rw [if_neg hl] at kk
          generalize (vRm K L i r m0 m1 d0 i 0 (Ut K L)).foldl (upR 0 []) (i + 1, []) = acc at t13 tr77 hres kk
          rw [t13, nI_leI (by omega) (by omega)]
          refine ⟨fun _ => ⟨fun z => ?_, fun z => ⟨fun _ => ?_, fun z2 => absurd z2 (nI_m1 (by omega))⟩⟩, fun z => by omega⟩
          · rw [if_pos z] at kk; exact kk
          · rw [if_neg z] at kk
            have h0 : 0 ≤ a5 := by grind
            obtain ⟨e5, h5b⟩ := nI_toN h0
            have hlt : a5.toNatClampNeg < i := by
              have := h5'.2
              rw [e5, show nI i - 1 = nI (i - 1) from pk_sub (a := i) (b := 1) (by omega), nI_leI h5b (by omega)] at this
              omega
            have hg : acc.2[a5.toNatClampNeg]? = some (acc.2.getD a5.toNatClampNeg 0) := by
              rw [List.getD_eq_getElem?_getD, List.getElem?_eq_getElem (by omega)]; rfl
            rw [tr77 _ _ hg]
            refine ⟨?_, kk⟩
            rw [e5]; exact vp_in_nI (by omega) (by decide)
    · refine s_lookAhead hSu hr hd0 (by omega) hpl.2.2.2 ?_
      intro υ2 ag2 hS2 hpo2
      rw [nI_1]
      refine ih (n - (i + 1)) _ (by omega) ⟨i + 1, rfl, by omega, ag.trans (ag2.mono (by intro o p h; unfold laP xq at h; unfold scrX; omega) (fun o => xl_scr)), hS2, ?_, ?_, rfl, ?_⟩
      · unfold PL; rw [ag2.i 70 8 (by unfold laP xq; omega), ag2.i 70 9 (by unfold laP xq; omega), ag2.i 70 10 (by unfold laP xq; omega), ag2.i 70 11 (by unfold laP xq; omega)]; exact hpl
      · intro a ha; rw [ag2.i 73 a (by unfold laP xq; omega)]; exact hpu a ha
      · intro j hj
        by_cases hji : j = i
        · subst hji; exact hpo2
        · unfold PO
          have hj' := hpo j (by omega)
          unfold PO at hj'
          refine ⟨?_, ?_⟩
          · rw [ag2.i 74 j (by unfold laP xq; omega)]; exact hj'.1
          · intro a ha; rw [ag2.i 75 _ (by unfold laP xq; omega)]; exact hj'.2 a ha
  · have hl : vRm K L n r m0 m1 d0 n 0 (Ut K L) = [] := by
      refine vR_clash ?_ n 0 (Ut K L)
      rw [e0b, e1b, bits_and _ _ (by omega), bits_eq0 (by omega)] at z
      simp only [Classical.not_forall] at z
      obtain ⟨a, ha, hz⟩ := z
      simp only [Bool.not_eq_false, Bool.and_eq_true] at hz
      exact ⟨a, ha, hz.1, hz.2⟩
    exact ⟨fun z => empty hl σ (AgX.refl σ) hS, fun z => ⟨fun z2 => absurd rfl z2, fun _ => empty hl σ (AgX.refl σ) hS⟩⟩
end MA
