/-! ===== the game, both ===== -/
def gameS (K : Nat → Int32) (L : List RD) (d0 : Nat) (a1 a2 a3 a4 a5 a6 : Int32) : Int32 := if actsB K a1 && actsB K a2 && rdrB K a3 && rdrB K a4 && !decide (a3 = a4) && inB a5 1 4 && inB a6 0 1 then (if a6 = 0 then (gRm K L a5.toNatClampNeg a3.toNatClampNeg a4.toNatClampNeg a1.toNatClampNeg a2.toNatClampNeg d0 a5.toNatClampNeg 0 (Ut K L)).1 else nI (gRm K L a5.toNatClampNeg a3.toNatClampNeg a4.toNatClampNeg a1.toNatClampNeg a2.toNatClampNeg d0 a5.toNatClampNeg 0 (Ut K L)).2) else -1000
theorem inB_n {x : Int32} {lo hi : Nat} (h : inB x (nI lo) (nI hi) = true) (hh : hi < 2 ^ 31) (hl : lo < 2 ^ 31) : ∃ n, lo ≤ n ∧ n ≤ hi ∧ x = nI n := by
  have h' := inB_e h
  have h0 : 0 ≤ x := by
    have := nI_pos' hl
    grind
  obtain ⟨e, hb⟩ := nI_toN h0
  refine ⟨_, ?_, ?_, e⟩
  · have := h'.1; rw [e, nI_leI hl hb] at this; exact this
  · have := h'.2; rw [e, nI_leI hb hh] at this; exact this
section GGA
variable {σ τ : DD} {T : TXT} {K : Nat → Int32} {L : List RD}
theorem s_Mgame {d0 : Nat} {a1 a2 a3 a4 a5 a6 : Int32} {post : Int32 → DD → Prop} (hS : MS σ K L) (hday : gI σ 4 395 = nI d0) (hd0 : d0 ≤ 999) (hLd : ∀ x, x ∈ L → x.2.2 ≤ d0) (hL24 : L.length ≤ 24) (k : ∀ τ, PM σ τ → MS τ K L → post (gameS K L d0 a1 a2 a3 a4 a5 a6) τ) : w_M_game σ a1 a2 a3 a4 a5 a6 post := by
  have hI := hS.2.1
  have ha8 := hI.a
  have hr4 := hI.r
  unfold gameS at k
  unfold w_M_game
  refine s_areActs hS.1.1 hI (br0 (fun h1 => ?_) (fun h1 => ?_))
  · rw [h1] at k; exact k σ (PM.refl σ) hS
  refine s_areActs hS.1.1 hI (br0 (fun h2 => ?_) (fun h2 => ?_))
  · rw [h1, h2] at k; exact k σ (PM.refl σ) hS
  refine s_isReader hS.1.1 hI (br0 (fun h3 => ?_) (fun h3 => ?_))
  · rw [h1, h2, h3] at k; exact k σ (PM.refl σ) hS
  refine s_isReader hS.1.1 hI (br0 (fun h4 => ?_) (fun h4 => ?_))
  · rw [h1, h2, h3, h4] at k; exact k σ (PM.refl σ) hS
  refine ⟨fun h34 => ?_, fun h34 => ?_⟩
  · rw [h1, h2, h3, h4, decide_eq_true h34] at k; exact k σ (PM.refl σ) hS
  refine s_lies (br0 (fun h5 => ?_) (fun h5 => ?_))
  · rw [h1, h2, h3, h4, decide_eq_false h34, h5] at k; exact k σ (PM.refl σ) hS
  refine s_lies (br1 (fun h6 => ?_) (fun h6 => ?_))
  rotate_left
  · rw [h1, h2, h3, h4, decide_eq_false h34, h5, h6] at k; exact k σ (PM.refl σ) hS
  rw [h1, h2, h3, h4, decide_eq_false h34, h5, h6] at k
  simp only [Bool.and_true, Bool.not_false, if_true] at k
  obtain ⟨m0, hm0, e1⟩ := actsB_e hI h1
  obtain ⟨m1, hm1, e2⟩ := actsB_e hI h2
  obtain ⟨r0, hr0, e3⟩ := rdrB_e hI h3
  obtain ⟨r1, hr1, e4⟩ := rdrB_e hI h4
  obtain ⟨n, n1, n4, e5⟩ := inB_n (lo := 1) (hi := 4) h5 (by decide) (by decide)
  subst e1; subst e2; subst e3; subst e4; subst e5
  have hp8 := pow8 ha8.2
  rw [nI_clamp (by omega), nI_clamp (by omega), nI_clamp (by omega), nI_clamp (by omega), nI_clamp (by omega)] at k
  have e0 : rfN r0 r1 0 = r0 := rfl
  have e1 : rfN r0 r1 (0 + 1) = r1 := rfl
  rw [← e0, ← e1]
  refine s_plays hI (n := n) hr0 hr1 (by omega) hd0 hm0 hm1 hLd hL24 n 0 12 [] σ _ (by omega) (by omega) (by simp) (by simp) (by rw [List.append_nil]; exact hS) hday ?_
  intro τ ag hSt h37
  rw [List.append_nil] at hSt h37 ⊢
  have kk := k τ (PM.ag ag (by intro o p; unfold gP qP lgP pers; omega)) hSt
  refine ⟨fun z => ?_, fun z => ?_⟩
  · rw [if_neg z] at kk
    rw [h37 (by omega)]; exact kk
  · rw [if_pos z] at kk; exact kk
theorem Ut_lt (hI : KI K) (hL : LI K L) (a : Nat) : Ut K L a < 3000 := by
  unfold Ut unt
  cases hla : lat L a 1999 with
  | none => simp
  | some x =>
    have hm := lat_mem hla
    have hb := hL x hm.1
    have ha : a < nA K := by rw [← hm.2.1]; exact hb.1
    have := (lasN_e hI (r := x.2.1) (w := x.2.2 % 7) ha).2
    simp only []; omega
theorem s_Xgame {d0 : Nat} {a1 a2 a3 a4 a5 a6 : Int32} {post : Int32 → DD → Prop} (hS : XS σ T K L) (hday : gI σ 208 0 = nI d0) (hd0 : d0 ≤ 999) (hLd : ∀ x, x ∈ L → x.2.2 ≤ d0) (k : ∀ τ, AgX scrX scrL σ τ → XS τ T K L → post (gameS K L d0 a1 a2 a3 a4 a5 a6) τ) : w_Face_game T σ a1 a2 a3 a4 a5 a6 post := by
  have hI := hS.1.2.2
  have ha8 := hI.a
  have hr4 := hI.r
  unfold gameS at k
  unfold w_Face_game
  refine s_XareActs hS.1.1 hI (br0 (fun h1 => ?_) (fun h1 => ?_))
  · rw [h1] at k; exact k σ (AgX.refl σ) hS
  refine s_XareActs hS.1.1 hI (br1 (fun h2 => ?_) (fun h2 => ?_))
  rotate_left
  · rw [h1, h2] at k; exact k σ (AgX.refl σ) hS
  refine s_XisReader hS.1.1 hI (br0 (fun h3 => ?_) (fun h3 => ?_))
  · rw [h1, h2, h3] at k; exact k σ (AgX.refl σ) hS
  refine s_XisReader hS.1.1 hI (br0 (fun h4 => ?_) (fun h4 => ?_))
  · rw [h1, h2, h3, h4] at k; exact k σ (AgX.refl σ) hS
  rw [h1, h2, h3, h4] at k
  refine ⟨fun h34 => ?_, fun h34 => ?_⟩
  rotate_left
  · rw [decide_eq_true h34] at k; exact k σ (AgX.refl σ) hS
  rw [decide_eq_false h34] at k
  have no : inB a5 1 4 = false ∨ inB a6 0 1 = false → post (-1000) σ := by
    intro h
    have kk := k σ (AgX.refl σ) hS
    rcases h with h | h <;> rw [h] at kk <;> simpa using kk
  refine ⟨fun z => no (Or.inl (decide_eq_false (by grind))), fun z1 => ⟨fun z => no (Or.inl (decide_eq_false (by grind))), fun z2 => ⟨fun z => no (Or.inr (decide_eq_false (by grind))), fun z3 => ⟨fun z4 => ?_, fun z4 => no (Or.inr (decide_eq_false (by grind)))⟩⟩⟩⟩
  have h5 : inB a5 1 4 = true := decide_eq_true (by grind)
  have h6 : inB a6 0 1 = true := decide_eq_true (by grind)
  rw [h5, h6] at k
  simp only [Bool.and_true, Bool.not_false, if_true] at k
  obtain ⟨m0, hm0, e1⟩ := actsB_e hI h1
  obtain ⟨m1, hm1, e2⟩ := actsB_e hI h2
  obtain ⟨r0, hr0, e3⟩ := rdrB_e hI h3
  obtain ⟨r1, hr1, e4⟩ := rdrB_e hI h4
  obtain ⟨n, n1, n4, e5⟩ := inB_n (lo := 1) (hi := 4) h5 (by decide) (by decide)
  subst e1; subst e2; subst e3; subst e4; subst e5
  have hp8 := pow8 ha8.2
  rw [nI_clamp (by omega), nI_clamp (by omega), nI_clamp (by omega), nI_clamp (by omega), nI_clamp (by omega)] at k
  unfold w_Morn_playOut
  refine s_prepare hS hday hd0 hLd ?_
  intro υ agp hSu hpl hpu
  unfold w_Morn_playOut_l11
  refine LoopN (fun c y => ∃ i, c = n - i ∧ i ≤ n ∧ AgX scrX scrL σ y.1 ∧ XS y.1 T K L ∧ PL y.1 K n m0 m1 d0 ∧ PU y.1 K (Ut K L) ∧ y.2 = nI i ∧ ∀ j, j < i → PO y.1 K L (rfN r0 r1) d0 j) ?_ (n := n) ⟨0, rfl, Nat.zero_le _, agp, hSu, hpl, hpu, rfl, by omega⟩
  rintro c ⟨υ, a6'⟩ KK ⟨i, hc, hi, ag, hSu, hpl, hpu, ea, hpo⟩ ih
  simp only [] at ag hSu hpl hpu ea hpo ⊢
  subst ea
  unfold w_Morn_playOut_b11
  rw [nI_leI (by omega) (by omega)]
  have look : ∀ r, r = rfN r0 r1 i → i < n → w_Morn_playOut_j34 T (fun σ a6 => KK (σ, a6)) (fun r18 σ19 => (¬ a6 = 0 → post (gI σ19 70 7) σ19) ∧ (a6 = 0 → post r18 σ19)) υ (nI r0) (nI r1) (nI n) (nI i) (nI i) (nI r) := by
    intro r hr hin
    unfold w_Morn_playOut_j34
    have hrr : r < nR K := by rw [hr]; unfold rfN; split <;> assumption
    refine s_lookAhead hSu hrr hd0 (by omega) hpl.2.2.2 ?_
    intro υ2 ag2 hS2 hpo2
    rw [nI_1]
    refine ih (n - (i + 1)) _ (by omega) ⟨i + 1, rfl, by omega, ag.trans (ag2.mono (by intro o p h; unfold laP xq at h; unfold scrX; omega) (fun o => xl_scr)), hS2, ?_, ?_, rfl, ?_⟩
    · unfold PL; rw [ag2.i 70 8 (by unfold laP xq; omega), ag2.i 70 9 (by unfold laP xq; omega), ag2.i 70 10 (by unfold laP xq; omega), ag2.i 70 11 (by unfold laP xq; omega)]; exact hpl
    · intro a ha; rw [ag2.i 73 a (by unfold laP xq; omega)]; exact hpu a ha
    · intro j hj
      by_cases hji : j = i
      · subst hji
        unfold PO at hpo2 ⊢
        rw [← hr]; exact hpo2
      · unfold PO
        have hj' := hpo j (by omega)
        unfold PO at hj'
        refine ⟨?_, ?_⟩
        · rw [ag2.i 74 j (by unfold laP xq; omega)]; exact hj'.1
        · intro a ha; rw [ag2.i 75 _ (by unfold laP xq; omega)]; exact hj'.2 a ha
  refine ⟨fun w => ?_, fun w => ⟨fun z => look r1 ?_ (by omega), fun z => look r0 ?_ (by omega)⟩⟩
  · have hin : i = n := by omega
    subst hin
    unfold w_Morn_play
    refine s_play hI hr0 hr1 (by omega) hd0 hm0 hm1 i 0 12 (Ut K L) (-99) 99 υ _ (by omega) (by omega) hSu hpl hpu (Ut_lt hI hSu.2.2.1) hpo (by decide) (by decide) (by decide) ?_
    intro c τ agt _ _ hab hc8 h7
    have agT : AgX scrX scrL σ τ := ag.trans (agt.mono (by intro o p h; unfold plP at h; unfold scrX; omega) (by intro o h; exact h.elim))
    have hSt : XS τ T K L := hSu.ag agt (by unfold plP; omega) (by unfold plP; omega) (by unfold plP; omega) (by unfold plP; omega)
    have kk := k τ agT hSt
    refine ⟨fun z => ?_, fun z => ?_⟩
    · rw [if_neg z] at kk
      rw [h7 rfl rfl rfl (by omega)]; exact kk
    · rw [if_pos z] at kk
      have : c = (gRm K L i r0 r1 m0 m1 d0 i 0 (Ut K L)).1 := by
        unfold Bd8 at hc8
        exact hab.1 (by grind) (by grind)
      rw [this]; exact kk
  · have : mxB i = false := by
      cases h : mxB i with
      | false => rfl
      | true => exact absurd ((jrem2 (by omega)).2 h) z
    unfold mxB at this
    have := of_decide_eq_false this
    unfold rfN; rw [if_neg this]
  · have := (jrem2 (by omega)).1 z
    unfold mxB at this
    have := of_decide_eq_true this
    unfold rfN; rw [if_pos this]
end GGA
