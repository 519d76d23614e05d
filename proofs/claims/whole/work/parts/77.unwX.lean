section UX
variable {σ τ : DD} {T : TXT} {K : Nat → Int32} {L : List RD}
theorem so_snoc {a r day i : Nat} : soF K (L ++ [(a, r, day)]) i = if fA K i = a ∧ day ≤ fD K i ∧ (∀ y, lat L (fA K i) (fD K i) = some y → y.2.2 ≤ day) then ((bnB K i && decide (fD K i - day < lasN K a r (day % 7))) == fI K i) else soF K L i := by
  unfold soF hold
  have hl : lat (L ++ [(a, r, day)]) (fA K i) (fD K i) = latF (fA K i) (fD K i) (lat L (fA K i) (fD K i)) (a, r, day) := by
    unfold lat; rw [List.foldl_append]; rfl
  rw [hl]
  unfold latF
  by_cases hc : a = fA K i ∧ day ≤ fD K i ∧ (∀ y, lat L (fA K i) (fD K i) = some y → y.2.2 ≤ day)
  · rw [if_pos hc, if_pos ⟨hc.1.symm, hc.2⟩]
    simp only []
    rw [← hc.1]
  · rw [if_neg hc, if_neg (fun h => hc ⟨h.1.symm, h.2⟩)]
def sdV (K : Nat → Int32) (L : List RD) (i : Nat) : Int32 := match lat L (fA K i) (fD K i) with
  | none => -1
  | some x => nI x.2.2
def FLk (σ : DD) (K : Nat → Int32) (L : List RD) (n : Nat) : Prop := ∀ i, i < n → gI σ 104 i = bl (soF K L i) ∧ gI σ 105 i = sdV K L i
theorem RXs.nf (h : RXs σ 200 T K) : gI σ 200 12 = K 402 := h.2.2.1
theorem RXs.fn (h : RXs σ 200 T K) {i : Nat} (hi : i < nF K) : gI σ 214 i = K (363 + 4 * i) ∧ gI σ 215 i = K (363 + 4 * i + 1) ∧ gI σ 216 i = K (363 + 4 * i + 2) ∧ gI σ 217 i = K (363 + 4 * i + 3) := h.2.2.2.2.2.2.2.2.2.2.1 i hi
theorem s_binds {i : Nat} {post : Int32 → DD → Prop} (hR : RXs σ 200 T K) (hI : KI K) (hi : i < nF K) (k : post (bl (bnB K i)) σ) : w_Outl_binds T σ (nI i) post := by
  have hf8 := hI.f
  have ha8 := hI.a
  have hf := fin_e hI hi
  have hr := hR.fn hi
  obtain ⟨m, hm, em⟩ := binds_e hI hf.2.2.2.2.2
  unfold w_Outl_binds
  rw [nI_clamp (by omega), hr.2.2.1, hf.2.2.2.2.1]
  refine ⟨vp_in_nI (by omega) (by decide), s_trait 2 rfl hR hI hf.2.2.2.2.2 (by omega) ⟨vp_in_nI (by omega) (by decide), ?_⟩⟩
  rw [hr.2.1, hf.2.2.1, em, bOf_bit hm (by omega) (by omega), decide_eq_true (show fK K i < 6 by omega), Bool.true_and]
  have ebn : bnB K i = bOf (nI m) (fK K i) := by unfold bnB; rw [em]
  rw [ebn] at k
  exact br0 (fun h => by rw [h] at k; exact k) (fun h => by rw [h] at k; exact k)
def olP (o p : Nat) : Prop := xq o p ∨ o = 104 ∨ o = 105
theorem s_look {post : DD → Prop} (hS : XS σ T K L) (k : ∀ τ, AgX olP xl σ τ → XS τ T K L → FLk τ K L (nF K) → post τ) : w_Outl_lookAtFines T σ post := by
  have hI := hS.1.2.2
  have ha8 := hI.a
  have hf8 := hI.f
  have xo : ∀ {υ1 υ2 : DD}, AgX xq xl υ1 υ2 → AgX olP xl υ1 υ2 := fun a => a.mono (fun o p h => Or.inl h) (fun o h => h)
  unfold w_Outl_lookAtFines w_Outl_lookAtFines_l2
  refine LoopN (fun c y => ∃ i, c = nF K - i ∧ i ≤ nF K ∧ AgX olP xl σ y.1 ∧ XS y.1 T K L ∧ y.2 = nI i ∧ FLk y.1 K L i) ?_ (n := nF K) ⟨0, rfl, Nat.zero_le _, AgX.refl σ, hS, rfl, by intro i hi; omega⟩
  rintro c ⟨υ, a1⟩ KK ⟨i, hc, hi, ag, hSu, e1, hfl⟩ ih
  simp only [] at ag hSu e1 hfl ⊢
  subst e1
  unfold w_Outl_lookAtFines_b2
  rw [hSu.1.1.nf, hf8.1, nI_leI (by omega) (by omega)]
  refine ⟨fun z => ?_, fun z => ?_⟩
  · have : i = nF K := by omega
    subst this
    exact k υ ag hSu hfl
  · have hf := fin_e hI (i := i) (by omega)
    have hin : vp_in (nI i) 8 := vp_in_nI (by omega) (by decide)
    have hr := hSu.1.1.fn (i := i) (by omega)
    rw [nI_clamp (by omega), hr.2.2.1, hf.2.2.2.2.1, hr.1, hf.1]
    refine ⟨hin, fun v16 e16 => ⟨hin, fun v19 e19 => ?_⟩⟩
    subst e16; subst e19
    have j58 : ∀ υ' (b : Bool), AgX xq xl υ υ' → XS υ' T K L → b = (bnB K i && hold K L (fA K i) (fD K i)) → w_Outl_lookAtFines_j58 T (fun σ a1 => KK (σ, a1)) post υ' (nI i) (nI (fA K i)) (nI (fD K i)) (bl b) := by
      intro υ' b a' hS' hb
      have hr' := hS'.1.1.fn (i := i) (by omega)
      have j93 : ∀ t2 : Bool, t2 = soF K L i → w_Outl_lookAtFines_j93 T (fun σ a1 => KK (σ, a1)) post υ' (nI i) (nI (fA K i)) (nI (fD K i)) (nI i) (bl t2) := by
        intro t2 ht2
        unfold w_Outl_lookAtFines_j93
        rw [nI_clamp (by omega)]
        refine ⟨hin, fun σ4 e4 => ?_⟩
        have enar : vp_nar .boolean (bl t2) = bl t2 := by cases t2 <;> decide
        rw [enar] at e4
        have ag4 : AgX (fun o p => o = 104) (fun _ => False) υ' σ4 := by subst e4; exact AgX.put rfl
        have hS4 := hS'.ag ag4 (by omega) (by omega) (by omega) (by omega)
        have j130 : ∀ v, v = sdV K L i → w_Outl_lookAtFines_j130 T (fun σ a1 => KK (σ, a1)) post σ4 (nI i) (nI i) v := by
          intro v hv
          unfold w_Outl_lookAtFines_j130
          rw [nI_clamp (by omega), nI_1]
          refine ⟨hin, fun σ1 e1 => ?_⟩
          have ag1 : AgX (fun o p => o = 105) (fun _ => False) σ4 σ1 := by subst e1; exact AgX.put rfl
          refine ih (nF K - (i + 1)) _ (by omega) ⟨i + 1, rfl, by omega, ag.trans ((xo a').trans ((ag4.mono (fun o p h => Or.inr (Or.inl h)) (fun o h => h.elim)).trans (ag1.mono (fun o p h => Or.inr (Or.inr h)) (fun o h => h.elim)))), hS4.ag ag1 (by omega) (by omega) (by omega) (by omega), rfl, ?_⟩
          intro j hj
          by_cases hji : j = i
          · subst hji
            refine ⟨?_, ?_⟩
            · subst e1; rw [gI_sI, if_neg (by omega)]
              subst e4; rw [gI_same, ht2]
            · subst e1; rw [gI_same]; exact hv
          · have := hfl j (by omega)
            refine ⟨?_, ?_⟩
            · subst e1; rw [gI_sI, if_neg (by omega)]
              subst e4; rw [gI_sI, if_neg (by omega), a'.i 104 j (by unfold xq; omega)]; exact this.1
            · subst e1; rw [gI_sI, if_neg (by omega)]
              subst e4; rw [gI_sI, if_neg (by omega), a'.i 105 j (by unfold xq; omega)]; exact this.2
        refine s_latestTold hS4 (by omega) (by omega) (fun hn => ⟨fun w => absurd rfl w, fun _ => j130 _ (by unfold sdV; rw [hn])⟩) (fun q x hx hl => ⟨fun _ => ?_, fun w => absurd w (nI_m1 ?_)⟩)
        · have hq : q < L.length := by rw [List.getElem?_eq_some_iff] at hx; exact hx.1
          have h84 := hS4.2.1.2.1
          rw [nI_clamp (by omega), (hS4.2.1.x hx).2.2]
          exact ⟨vp_in_nI (by omega) (by decide), j130 _ (by unfold sdV; rw [hl])⟩
        · have hq : q < L.length := by rw [List.getElem?_eq_some_iff] at hx; exact hx.1
          have h84 := hS4.2.1.2.1
          omega
      unfold w_Outl_lookAtFines_j58 w_Outl_lookAtFines_j85
      rw [nI_clamp (by omega), hr'.2.2.2]
      refine ⟨hin, fun w => ?_, fun w => ?_⟩
      · have hfi : fI K i = false := decide_eq_false w
        cases b with
        | false => exact ⟨fun w2 => absurd rfl w2, fun _ => j93 true (by unfold soF; rw [← hb, hfi]; rfl)⟩
        | true => exact ⟨fun _ => j93 false (by unfold soF; rw [← hb, hfi]; rfl), fun w2 => absurd w2 (by decide)⟩
      · have hfi : fI K i = true := decide_eq_true w
        cases b with
        | false => exact ⟨fun _ => j93 false (by unfold soF; rw [← hb, hfi]; rfl), fun w2 => absurd w2 (by decide)⟩
        | true => exact ⟨fun w2 => absurd rfl w2, fun _ => j93 true (by unfold soF; rw [← hb, hfi]; rfl)⟩
    unfold w_Outl_lookAtFines_j57
    refine s_binds hSu.1.1 hI (by omega) (br0 (fun hb => j58 υ false (AgX.refl υ) hSu (by rw [hb]; rfl)) (fun hb => ?_))
    refine s_holds hSu hf.2.2.2.2.2 (by omega) ?_
    intro υ1 ag1 hS1
    exact br0 (fun hh => j58 υ1 false ag1 hS1 (by rw [hh, Bool.and_false])) (fun hh => j58 υ1 true ag1 hS1 (by rw [hb, hh]; rfl))
theorem ol_scr {υ1 υ2 : DD} (a : AgX olP xl υ1 υ2) : AgX scrX scrL υ1 υ2 := a.mono (by intro o p h; unfold olP xq at h; unfold scrX; omega) (fun o => xl_scr)
theorem s_Xjudge {post : Int32 → DD → Prop} (hS : XS σ T K L) (k : ∀ τ, AgX scrX scrL σ τ → XS τ T K L → post (bl (soA K L)) τ) : w_Face_judge T σ post := by
  have hI := hS.1.2.2
  have hf8 := hI.f
  unfold w_Face_judge w_Outl_areFinesSo
  refine s_look hS ?_
  intro υ ag hSu hfl
  have kk := k υ (ol_scr ag) hSu
  unfold w_Outl_areFinesSo_l6
  refine LoopN (fun c y => ∃ i, c = nF K - i ∧ i ≤ nF K ∧ y.1 = υ ∧ y.2 = nI i ∧ (List.range i).all (soF K L) = true) ?_ (n := nF K) ⟨0, rfl, Nat.zero_le _, rfl, rfl, rfl⟩
  rintro c ⟨υ', a1⟩ KK ⟨i, hc, hi, eu, e1, hall⟩ ih
  simp only [] at eu e1 hall ⊢
  subst eu; subst e1
  unfold w_Outl_areFinesSo_b6
  rw [hSu.1.1.nf, hf8.1, nI_leI (by omega) (by omega)]
  refine ⟨fun z => ?_, fun z => ?_⟩
  · have : i = nF K := by omega
    subst this
    unfold soA at kk
    rw [hall] at kk
    exact ⟨fun w => absurd w (by decide), fun _ => kk⟩
  · rw [nI_clamp (by omega), (hfl i (by omega)).1]
    refine ⟨vp_in_nI (by omega) (by decide), br1 (fun hb => ?_) (fun hb => ?_)⟩
    · rw [nI_1]
      refine ih (nF K - (i + 1)) _ (by omega) ⟨i + 1, rfl, by omega, rfl, rfl, ?_⟩
      rw [all_range_succ, hall, hb]; rfl
    · have hf' : soA K L = false := by
        unfold soA
        rw [List.all_eq_false]
        exact ⟨i, List.mem_range.2 (by omega), by rw [hb]; simp⟩
      rw [hf'] at kk
      exact ⟨fun _ => kk, fun w => absurd rfl w⟩
theorem s_would {a r day : Nat} {post : Int32 → DD → Prop} (hS : XS σ T K L) (hfl : FLk σ K L (nF K)) (ha : a < nA K) (hr : r < nR K) (hd : day ≤ 999) (k : ∀ τ, AgX xq xl σ τ → XS τ T K L → post (bl (soA K (L ++ [(a, r, day)]))) τ) : w_Outl_wouldMakeSo T σ (nI a) (nI r) (nI day) post := by
  have hI := hS.1.2.2
  have ha8 := hI.a
  have hf8 := hI.f
  generalize hL' : L ++ [(a, r, day)] = L' at k
  unfold w_Outl_wouldMakeSo w_Outl_wouldMakeSo_l3
  refine LoopN (fun c y => ∃ i, c = nF K - i ∧ i ≤ nF K ∧ AgX xq xl σ y.1 ∧ XS y.1 T K L ∧ y.2 = nI i ∧ (List.range i).all (soF K L') = true) ?_ (n := nF K) ⟨0, rfl, Nat.zero_le _, AgX.refl σ, hS, rfl, rfl⟩
  rintro c ⟨υ, a4⟩ KK ⟨i, hc, hi, ag, hSu, e4, hall⟩ ih
  simp only [] at ag hSu e4 hall ⊢
  subst e4
  unfold w_Outl_wouldMakeSo_b3
  rw [hSu.1.1.nf, hf8.1, nI_leI (by omega) (by omega)]
  refine ⟨fun z => ?_, fun z => ?_⟩
  · have : i = nF K := by omega
    subst this
    have kk := k υ ag hSu
    unfold soA at kk
    rw [hall] at kk; exact kk
  · have hf := fin_e hI (i := i) (by omega)
    have hin : vp_in (nI i) 8 := vp_in_nI (by omega) (by decide)
    have hrr := hSu.1.1.fn (i := i) (by omega)
    have hsn := so_snoc (K := K) (L := L) (a := a) (r := r) (day := day) (i := i)
    rw [hL'] at hsn
    have j143 : ∀ υ' (b : Bool), AgX xq xl υ υ' → XS υ' T K L → b = soF K L' i → w_Outl_wouldMakeSo_j143 T (fun σ a4 => KK (σ, a4)) post υ' (nI a) (nI r) (nI day) (nI i) (bl b) := by
      intro υ' b a' hS' hb
      unfold w_Outl_wouldMakeSo_j143
      refine br1 (fun h => ?_) (fun h => ?_)
      · rw [nI_1]
        refine ih (nF K - (i + 1)) _ (by omega) ⟨i + 1, rfl, by omega, ag.trans a', hS', rfl, ?_⟩
        rw [all_range_succ, hall, ← hb, h]; rfl
      · have kk := k υ' (ag.trans a') hS'
        have hf' : soA K L' = false := by
          unfold soA
          rw [List.all_eq_false]
          exact ⟨i, List.mem_range.2 (by omega), by rw [← hb, h]; simp⟩
        rw [hf'] at kk; exact kk
    have g104 : gI υ 104 i = bl (soF K L i) := by rw [ag.i 104 i (by unfold xq; omega)]; exact (hfl i (by omega)).1
    have g105 : gI υ 105 i = sdV K L i := by rw [ag.i 105 i (by unfold xq; omega)]; exact (hfl i (by omega)).2
    have no : ¬ (fA K i = a ∧ day ≤ fD K i ∧ (∀ y, lat L (fA K i) (fD K i) = some y → y.2.2 ≤ day)) → w_Outl_wouldMakeSo_j63 T (fun σ a4 => KK (σ, a4)) post υ (nI a) (nI r) (nI day) (nI i) (nI (fD K i)) 0 := by
      intro hno
      unfold w_Outl_wouldMakeSo_j63
      rw [nI_clamp (by omega), g104]
      refine ⟨hin, fun v6 e6 => ⟨fun _ => ?_, fun w => absurd rfl w⟩⟩
      rw [e6]
      exact j143 υ _ (AgX.refl υ) hSu (by rw [hsn, if_neg hno])
    have yes : (fA K i = a ∧ day ≤ fD K i ∧ (∀ y, lat L (fA K i) (fD K i) = some y → y.2.2 ≤ day)) → w_Outl_wouldMakeSo_j63 T (fun σ a4 => KK (σ, a4)) post υ (nI a) (nI r) (nI day) (nI i) (nI (fD K i)) 1 := by
      intro hyes
      rw [if_pos hyes] at hsn
      have j110 : ∀ υ' (b : Bool), AgX xq xl υ υ' → XS υ' T K L → b = (bnB K i && decide (fD K i - day < lasN K a r (day % 7))) → w_Outl_wouldMakeSo_j110 T (fun σ a4 => KK (σ, a4)) post υ' (nI a) (nI r) (nI day) (nI i) (bl b) := by
        intro υ' b a' hS' hb
        have hr' := hS'.1.1.fn (i := i) (by omega)
        unfold w_Outl_wouldMakeSo_j110 w_Outl_wouldMakeSo_j133 w_Outl_wouldMakeSo_j141
        rw [nI_clamp (by omega), hr'.2.2.2]
        refine ⟨hin, fun w => ?_, fun w => ?_⟩
        · have hfi : fI K i = false := decide_eq_false w
          cases b with
          | false => exact ⟨fun w2 => absurd rfl w2, fun _ => j143 υ' true a' hS' (by rw [hsn, ← hb, hfi]; rfl)⟩
          | true => exact ⟨fun _ => j143 υ' false a' hS' (by rw [hsn, ← hb, hfi]; rfl), fun w2 => absurd w2 (by decide)⟩
        · have hfi : fI K i = true := decide_eq_true w
          cases b with
          | false => exact ⟨fun _ => j143 υ' false a' hS' (by rw [hsn, ← hb, hfi]; rfl), fun w2 => absurd w2 (by decide)⟩
          | true => exact ⟨fun w2 => absurd rfl w2, fun _ => j143 υ' true a' hS' (by rw [hsn, ← hb, hfi]; rfl)⟩
      unfold w_Outl_wouldMakeSo_j63 w_Outl_wouldMakeSo_j109
      rw [nI_clamp (by omega)]
      refine ⟨hin, fun v6 e6 => ⟨fun w => absurd w (by decide), fun _ => ?_⟩⟩
      refine s_binds hSu.1.1 hI (by omega) (br0 (fun hb => j110 υ false (AgX.refl υ) hSu (by rw [hb]; rfl)) (fun hb => ?_))
      unfold w_Court_lasts
      refine s_answerOf hSu.1 ha hr (by omega) ?_
      intro υ1 ag1 hQ1
      have hS1 := hSu.q ag1 hQ1
      have hla := (lasN_e hI (r := r) (w := day % 7) ha).2
      rw [(pack_e hI ha).1, pk_sub hyes.2.1]
      simp only []
      rw [nI_leI (by omega) (by omega)]
      refine ⟨fun w => j110 υ1 false ag1 hS1 (by rw [decide_eq_false (by omega), Bool.and_false]), fun w => j110 υ1 true ag1 hS1 (by rw [hb, decide_eq_true (by omega)]; rfl)⟩
    unfold w_Outl_wouldMakeSo_j62
    rw [nI_clamp (by omega), hrr.1, hf.1, hrr.2.2.1, hf.2.2.2.2.1, nI_eq (by omega) (by omega), g105]
    refine ⟨hin, fun v17 e17 => ?_⟩
    subst e17
    rw [nI_ltI (by omega) (by omega)]
    refine ⟨hin, fun w => no (fun h => w h.1), fun w => ⟨fun w2 => no (fun h => by omega), fun w2 => ⟨hin, fun w3 => no ?_, fun w3 => yes ⟨w, by omega, ?_⟩⟩⟩⟩
    · intro h
      unfold sdV at w3
      cases hl : lat L (fA K i) (fD K i) with
      | none =>
        rw [hl] at w3
        have := nI_pos' (n := day) (by omega)
        simp only [] at w3
        grind
      | some y =>
        rw [hl] at w3
        have hy := h.2.2 y hl
        have hyb := hSu.2.2.1 y (lat_mem hl).1
        simp only [] at w3
        rw [nI_ltI (by omega) (by omega)] at w3
        omega
    · intro y hl
      unfold sdV at w3
      rw [hl] at w3
      have hyb := hSu.2.2.1 y (lat_mem hl).1
      simp only [] at w3
      rw [nI_ltI (by omega) (by omega)] at w3
      omega
theorem cntB_s (p : Nat → Bool) (n : Nat) : cntB p (n + 1) = cntB p n + (if p n then 1 else 0) := rfl
theorem cntB_skip {p : Nat → Bool} {a : Nat} : ∀ n, (∀ i, a ≤ i → i < a + n → p i = false) → cntB p (a + n) = cntB p a := by
  intro n
  induction n with
  | zero => intro _; rfl
  | succ n ih =>
    intro h
    rw [show a + (n + 1) = (a + n) + 1 from rfl, cntB_s, ih (fun i h1 h2 => h i h1 (by omega)), h (a + n) (by omega) (by omega)]; rfl
theorem s_Xunwritten {d0 : Nat} {a1 : Int32} {post : Int32 → DD → Prop} (hS : XS σ T K L) (hday : gI σ 208 0 = nI d0) (hd0 : d0 ≤ 999) (k : ∀ r, isUn K L d0 a1 r → ∀ τ, AgX scrX scrL σ τ → XS τ T K L → post r τ) : w_Face_unwritten T σ a1 post := by
  have hI := hS.1.2.2
  have ha8 := hI.a
  have hr4 := hI.r
  unfold w_Face_unwritten
  refine ⟨fun hge => ?_, fun hlt => k (-1) (Or.inl ⟨by grind, rfl⟩) σ (AgX.refl σ) hS⟩
  unfold w_Outl_unwrittenReading
  refine s_look hS ?_
  intro υ0 ag0 hS0 hfl0
  intro v12 e12
  rw [ag0.i 208 0 (by unfold olP xq; omega), hday] at e12
  subst e12
  have flk : ∀ υ, AgX xq xl υ0 υ → FLk υ K L (nF K) := fun υ a i hi => by
    rw [a.i 104 i (by unfold xq; omega), a.i 105 i (by unfold xq; omega)]; exact hfl0 i hi
  have sc : ∀ υ, AgX xq xl υ0 υ → AgX scrX scrL σ υ := fun υ a => (ol_scr ag0).trans a.scr
  -- where the search stands
  have offA : ∀ ago r a, nA K ≤ a → a < 8 → r < 4 → okU K L d0 (32 * ago + 8 * r + a) = false := by
    intro ago r a h1 h2 h3
    unfold okU
    rw [show (32 * ago + 8 * r + a) % 8 = a from by omega, decide_eq_false (show ¬ a < nA K by omega)]; simp
  have offR : ∀ ago r a, nR K ≤ r → r < 4 → a < 8 → okU K L d0 (32 * ago + 8 * r + a) = false := by
    intro ago r a h1 h2 h3
    unfold okU
    rw [show (32 * ago + 8 * r + a) / 8 % 4 = r from by omega, decide_eq_false (show ¬ r < nR K by omega)]; simp
  have offD : ∀ x, d0 < x / 32 → okU K L d0 x = false := by
    intro x h
    unfold okU
    rw [decide_eq_false (show ¬ x / 32 ≤ d0 by omega)]; simp
  unfold w_Outl_unwrittenReading_l19
  refine LoopN (fun c y => ∃ ago, c = 30 - ago ∧ ago ≤ 30 ∧ AgX xq xl υ0 y.1 ∧ XS y.1 T K L ∧ y.2.2 = nI ago ∧ y.2.1 = nI (cntB (okU K L d0) (32 * ago)) ∧ ∀ j, j < 32 * ago → okU K L d0 j = true → ¬ nI (cntB (okU K L d0) j) = a1) ?_ (n := 30) ⟨0, rfl, Nat.zero_le _, AgX.refl _, hS0, rfl, rfl, by omega⟩
  rintro c ⟨υ, a2, a4⟩ KK ⟨ago, hc, hago, ag, hSu, e4, e2, hno⟩ ih
  simp only [] at ag hSu e4 e2 hno ⊢
  subst e4; subst e2
  have fin : (∀ j, 32 * ago ≤ j → j < 960 → okU K L d0 j = false) → w_Outl_unwrittenReading_j121 T (fun r2 σ3 => post r2 σ3) υ a1 (nI (cntB (okU K L d0) (32 * ago))) := by
    intro hoff
    have hcnt : cntB (okU K L d0) 960 = cntB (okU K L d0) (32 * ago) := by
      have := cntB_skip (p := okU K L d0) (a := 32 * ago) (960 - 32 * ago) (fun i h1 h2 => hoff i h1 (by omega))
      rw [show 32 * ago + (960 - 32 * ago) = 960 from by omega] at this; exact this
    unfold w_Outl_unwrittenReading_j121
    refine ⟨fun z => k (-1) (Or.inr (Or.inr ⟨by grind, Or.inr ⟨?_, rfl⟩⟩)) υ (sc υ ag) hSu, fun z => k _ (Or.inr (Or.inl ⟨z, by rw [hcnt]⟩)) υ (sc υ ag) hSu⟩
    intro j hj hjo
    by_cases hlt : j < 32 * ago
    · exact hno j hlt hjo
    · rw [hoff j (by omega) hj] at hjo; simp at hjo
  unfold w_Outl_unwrittenReading_b19
  rw [show (30 : Int32) = nI 30 from rfl, nI_leI (by decide) (by omega), nI_ltI (by omega) (by omega)]
  refine ⟨fun z => fin (fun j h1 h2 => by omega), fun z => ⟨fun z2 => fin (fun j h1 h2 => offD j (by omega)), fun z2 => ?_⟩⟩
  unfold w_Outl_unwrittenReading_l35
  refine LoopN (fun c y => ∃ r, c = nR K - r ∧ r ≤ nR K ∧ AgX xq xl υ0 y.1 ∧ XS y.1 T K L ∧ y.2.2 = nI r ∧ y.2.1 = nI (cntB (okU K L d0) (32 * ago + 8 * r)) ∧ ∀ j, j < 32 * ago + 8 * r → okU K L d0 j = true → ¬ nI (cntB (okU K L d0) j) = a1) ?_ (n := nR K) ⟨0, rfl, Nat.zero_le _, ag, hSu, rfl, rfl, hno⟩
  rintro c ⟨υ, a2, a5⟩ KK1 ⟨r, hc1, hr, ag, hSu, e5, e2, hno⟩ ih1
  simp only [] at ag hSu e5 e2 hno ⊢
  subst e5; subst e2
  unfold w_Outl_unwrittenReading_b35
  rw [hSu.1.1.nr, hr4.1, nI_leI (by omega) (by omega)]
  refine ⟨fun z3 => ?_, fun z3 => ?_⟩
  · have hre : r = nR K := by omega
    have hoff : ∀ j, 32 * ago + 8 * r ≤ j → j < 32 * ago + 8 * r + (32 - 8 * r) → okU K L d0 j = false := by
      intro j h1 h2
      have := offR ago ((j - 32 * ago) / 8) ((j - 32 * ago) % 8) (by omega) (by omega) (by omega)
      rw [show 32 * ago + 8 * ((j - 32 * ago) / 8) + (j - 32 * ago) % 8 = j from by omega] at this
      exact this
    have hcnt := cntB_skip (p := okU K L d0) (a := 32 * ago + 8 * r) (32 - 8 * r) hoff
    rw [show 32 * ago + 8 * r + (32 - 8 * r) = 32 * (ago + 1) from by omega] at hcnt hoff
    rw [nI_1]
    refine ih (30 - (ago + 1)) _ (by omega) ⟨ago + 1, rfl, by omega, ag, hSu, rfl, by simp only []; rw [hcnt], ?_⟩
    intro j hj hjo
    by_cases hlt : j < 32 * ago + 8 * r
    · exact hno j hlt hjo
    · rw [hoff j (by omega) hj] at hjo; simp at hjo
  · unfold w_Outl_unwrittenReading_l50
    refine LoopN (fun c y => ∃ a, c = nA K - a ∧ a ≤ nA K ∧ AgX xq xl υ0 y.1 ∧ XS y.1 T K L ∧ y.2.2 = nI a ∧ y.2.1 = nI (cntB (okU K L d0) (32 * ago + 8 * r + a)) ∧ ∀ j, j < 32 * ago + 8 * r + a → okU K L d0 j = true → ¬ nI (cntB (okU K L d0) j) = a1) ?_ (n := nA K) ⟨0, rfl, Nat.zero_le _, ag, hSu, rfl, rfl, hno⟩
    rintro c ⟨υ, a2, a6⟩ KK2 ⟨a, hc2, ha, ag, hSu, e6, e2, hno⟩ ih2
    simp only [] at ag hSu e6 e2 hno ⊢
    subst e6; subst e2
    unfold w_Outl_unwrittenReading_b50
    rw [hSu.1.1.na, ha8.1, nI_leI (by omega) (by omega)]
    refine ⟨fun z4 => ?_, fun z4 => ?_⟩
    · have hoff : ∀ j, 32 * ago + 8 * r + a ≤ j → j < 32 * ago + 8 * r + a + (8 - a) → okU K L d0 j = false := by
        intro j h1 h2
        have := offA ago r (j - 32 * ago - 8 * r) (by omega) (by omega) (by omega)
        rw [show 32 * ago + 8 * r + (j - 32 * ago - 8 * r) = j from by omega] at this
        exact this
      have hcnt := cntB_skip (p := okU K L d0) (a := 32 * ago + 8 * r + a) (8 - a) hoff
      rw [show 32 * ago + 8 * r + a + (8 - a) = 32 * ago + 8 * (r + 1) from by omega] at hcnt hoff
      rw [nI_1]
      refine ih1 (nR K - (r + 1)) _ (by omega) ⟨r + 1, rfl, by omega, ag, hSu, rfl, by simp only []; rw [hcnt], ?_⟩
      intro j hj hjo
      by_cases hlt : j < 32 * ago + 8 * r + a
      · exact hno j hlt hjo
      · rw [hoff j (by omega) hj] at hjo; simp at hjo
    · rw [pk_sub (by omega)]
      refine s_would hSu (flk υ ag) (by omega) (by omega) (by omega) ?_
      intro υ1 ag1 hS1
      have hk32 : (32 * ago + 8 * r + a) / 32 = ago := by omega
      have hk8 : (32 * ago + 8 * r + a) / 8 % 4 = r := by omega
      have hka : (32 * ago + 8 * r + a) % 8 = a := by omega
      have hok : okU K L d0 (32 * ago + 8 * r + a) = soA K (L ++ [(a, r, d0 - ago)]) := by
        unfold okU
        rw [hk32, hk8, hka, decide_eq_true (show ago ≤ d0 by omega), decide_eq_true (show r < nR K by omega), decide_eq_true (show a < nA K by omega)]; rfl
      have hcl := cntB_le (p := okU K L d0) (32 * ago + 8 * r + a)
      refine br1 (fun hs => ⟨fun w => ?_, fun w => ?_⟩) (fun hs => ?_)
      · rw [nI_1, nI_1]
        refine ih2 (nA K - (a + 1)) _ (by omega) ⟨a + 1, rfl, by omega, ag.trans ag1, hS1, rfl, ?_, ?_⟩
        · simp only []
          rw [show 32 * ago + 8 * r + (a + 1) = (32 * ago + 8 * r + a) + 1 from rfl, cntB_s, hok, hs]; rfl
        · intro j hj hjo
          by_cases hji : j = 32 * ago + 8 * r + a
          · rw [hji]; exact w
          · exact hno j (by omega) hjo
      · have e : nI ago * 32 + nI r * 8 + nI a = nI (32 * ago + 8 * r + a) := by
          rw [show (32 : Int32) = nI 32 from rfl, show (8 : Int32) = nI 8 from rfl, pk_mul, pk_mul, nI_add, nI_add]; congr 1; omega
        rw [e]
        refine k _ (Or.inr (Or.inr ⟨by rw [← w]; exact nI_pos' (by omega), Or.inl ⟨_, by omega, by rw [hok]; exact hs, w, rfl⟩⟩)) υ1 (sc υ1 (ag.trans ag1)) hS1
      · rw [nI_1]
        refine ih2 (nA K - (a + 1)) _ (by omega) ⟨a + 1, rfl, by omega, ag.trans ag1, hS1, rfl, ?_, ?_⟩
        · simp only []
          rw [show 32 * ago + 8 * r + (a + 1) = (32 * ago + 8 * r + a) + 1 from rfl, cntB_s, hok, hs]; rfl
        · intro j hj hjo
          by_cases hji : j = 32 * ago + 8 * r + a
          · rw [hji, hok, hs] at hjo; simp at hjo
          · exact hno j (by omega) hjo
end UX
