/-! ===== the class's parser: orders, a clause ===== -/
section PX9
variable {σ τ υ : DD} {T : TXT} {b : Nat → Nat} {sz N n i l s u s0 u0 : Nat} {o : Bool}
abbrev obP (T : TXT) (post : Int32 → DD → Prop) (n : Nat) : Int32 → DD → Prop := fun r27 σ28 => (¬ r27 = 0 → w_Pars_clause_j71 T post σ28 (nI (6 * n))) ∧ (r27 = 0 → post 0 σ28)
theorem pd_times {post : Int32 → DD → Prop} {A B : DS} {h : Int32} {p0 p1 i0 : Nat} (hN : N ≤ 400) (hn : n < 12) (hc : ∀ k, N ≤ k → tC b sz k = 0) (hC : CB σ τ b sz true n s0 u0 i l s u) (hi : i ≤ N) (hl : l ≤ 50)
    (h0 : gI τ 33 (6 * n) = nI p0) (h1 : gI τ 33 (6 * n + 1) = nI p1) (h4 : gI τ 33 (6 * n + 4) = kX h) (h5 : gI τ 33 (6 * n + 5) = 1) (hp0 : s0 ≤ p0) (hp1 : p0 ≤ p1) (hp2 : p1 ≤ s) (sA : Sec (gI τ 32) p0 p1 16 A) (sB : Sec (gI τ 32) p1 s 16 B) (dA : Dep u A) (dB : Dep u B) (hi0 : i0 ≤ i)
    (k : ClK σ b sz N true n i0 s0 u0 (pTimes true (tC b sz) (tV b sz) h A B i l) post) : w_Pars_orderBody_j62 T (obP T post n) τ (nI (6 * n)) := by
  unfold w_Pars_orderBody_j62
  refine s_isWord (w := 8) (k := 25) (by decide) rfl hC.2.1.1 (br0 (fun z => ⟨fun _ => ?_, fun z => absurd z (by decide)⟩) (fun z => ?_))
  · have hz : ¬ tC b sz i = 25 := fun w => of_decide_eq_false z (w.trans (by decide))
    have e3 : pTimes true (tC b sz) (tV b sz) h A B i l = pIf true (tC b sz) (tV b sz) h A B 1 i l := by unfold pTimes; rw [if_neg hz]
    rw [e3] at k
    exact cl_ifK (i0 := i0) hN hn hc hC hi hl h0 h1 h4 h5 hp0 hp1 hp2 sA sB dA dB hi0 k
  · have hz : tC b sz i = 25 := (of_decide_eq_true z).trans (by decide)
    have hlt : i < N := lt_of_c hc (by rw [hz]; decide)
    have hvr := tV_rng (b := b) (sz := sz) (i + 1)
    unfold w_Pars_timesOf
    refine s_adv hC.2.1 (fun τ1 a1 c1 hP1 => s_number hP1.1 ?_)
    have hC1 := hC.fwd a1 c1 hP1
    have bad : ¬ (tC b sz (i + 1) = 50 ∧ 1 ≤ tV b sz (i + 1) ∧ tV b sz (i + 1) ≤ 20) → w_Pars_timesOf_j26 T (fun r4 σ5 => (r4 = 0 → obP T post n 0 σ5) ∧ (¬ r4 = 0 → obP T post n 1 σ5)) τ1 := by
      intro w
      unfold w_Pars_timesOf_j26
      refine halt_cl (post := fun r4 σ5 => (r4 = 0 → obP T post n 0 σ5) ∧ (¬ r4 = 0 → obP T post n 1 σ5)) hC1 hlt hN (fun τ2 a2 q8 => ⟨fun _ => ⟨fun z => absurd rfl z, fun _ => k.1 (i + 1) ?_ τ2 a2 q8⟩, fun z => absurd rfl z⟩)
      unfold pTimes; rw [if_pos hz, if_neg w]
    by_cases c50 : tC b sz (i + 1) = 50
    · rw [if_pos c50, show nI (min 9999 (vlT b sz (tP b sz (i + 1)))) < 1 ↔ min 9999 (vlT b sz (tP b sz (i + 1))) < 1 from nI_ltI (b := 1) (by omega) (by decide), show nI (min 9999 (vlT b sz (tP b sz (i + 1)))) ≤ 20 ↔ min 9999 (vlT b sz (tP b sz (i + 1))) ≤ 20 from nI_leI (b := 20) (by omega) (by decide)]
      have v1 : (1 ≤ tV b sz (i + 1)) ↔ 1 ≤ vlT b sz (tP b sz (i + 1)) := nI_leI (a := 1) (by decide) (by omega)
      have v20 : (tV b sz (i + 1) ≤ 20) ↔ vlT b sz (tP b sz (i + 1)) ≤ 20 := nI_leI (b := 20) (by omega) (by decide)
      refine ⟨fun z1 => bad (fun w => by have := v1.1 w.2.1; omega), fun z1 => ⟨fun z2 => ?_, fun z2 => bad (fun w => by have := v20.1 w.2.2; omega)⟩⟩
      have hlt2 : i + 1 < N := lt_of_c hc (by rw [c50]; decide)
      have ev : nI (min 9999 (vlT b sz (tP b sz (i + 1)))) = tV b sz (i + 1) := by unfold tV; congr 1; omega
      rw [ev, show nI (6 * n) + 5 = nI (6 * n + 5) from nI_add _ 5, nI_clamp (by omega)]
      refine ⟨vp_in_nI (by omega) (by decide), fun σ9 e9 => ?_⟩
      have hC9 : CB σ σ9 b sz true n s0 u0 (i + 1) l s u := by rw [e9]; exact hC1.h33 (by omega)
      have e3 : pTimes true (tC b sz) (tV b sz) h A B i l = pIf true (tC b sz) (tV b sz) h A B (tV b sz (i + 1)) (i + 2) l := by unfold pTimes; rw [if_pos hz, if_pos ⟨c50, v1.2 (by omega), v20.2 (by omega)⟩]
      rw [e3] at k
      refine s_adv hC9.2.1 (fun τ2 a2 c2 hP2 => ⟨fun z => absurd z (by decide), fun _ => ⟨fun _ => ?_, fun z => absurd z (by decide)⟩⟩)
      have c9 : ∀ k, gI τ2 32 k = gI τ 32 k := fun k => by rw [c2, e9, gI_sI, if_neg (by omega), c1]
      refine cl_ifK (i0 := i0) hN hn hc (hC9.fwd a2 c2 hP2) hlt2 hl (p0 := p0) (p1 := p1) ?_ ?_ ?_ ?_ hp0 hp1 hp2 (sA.cg (fun k _ _ => c9 k)) (sB.cg (fun k _ _ => c9 k)) dA dB (by omega) k
      · rw [h_pd a2, e9, gI_sI, if_neg (by omega), h_pd a1]; exact h0
      · rw [h_pd a2, e9, gI_sI, if_neg (by omega), h_pd a1]; exact h1
      · rw [h_pd a2, e9, gI_sI, if_neg (by omega), h_pd a1]; exact h4
      · rw [h_pd a2, e9, gI_same]
    · rw [if_neg c50]
      exact ⟨fun _ => bad (fun w => c50 w.1), fun z => absurd (by decide) z⟩
theorem pd_order {post : Int32 → DD → Prop} (hN : N ≤ 400) (hn : n < 12) (hc : ∀ k, N ≤ k → tC b sz k = 0) (hC : CB σ τ b sz true n s0 u0 i l s u) (hi : i ≤ N) (hl : l ≤ 50) (h0 : gI τ 33 (6 * n) = nI s) (h5 : gI τ 33 (6 * n + 5) = 1) (k : ClK σ b sz N true n i s0 u0 (pOrder (tC b sz) (tV b sz) i l) post) : w_Pars_orderBody T τ (nI (6 * n)) (obP T post n) := by
  have hss := hC.2.2.2.1
  unfold w_Pars_orderBody
  refine s_indexAmong (s := 6) (by decide) hC.2.1.1 ?_
  have hix : ixS (csS 6) 0 (tC b sz i) = if tC b sz i = 22 then 0 else if tC b sz i = 24 then 1 else -1 := rfl
  have head : ∀ r : Int32, ¬ r = -1 → ∀ hd : Int32, r = kX hd → tC b sz i = hd → ¬ hd = 0 → ∀ Q : DD → Prop, (∀ τ1, CB σ τ1 b sz true n s0 u0 (i + 1) l s u → i < N → gI τ1 33 (6 * n) = nI s → gI τ1 33 (6 * n + 1) = nI s → gI τ1 33 (6 * n + 4) = kX hd → gI τ1 33 (6 * n + 5) = 1 → Q τ1) → vp_in (nI (6 * n) + 4) 72 ∧ ∀ σ10, σ10 = sI τ 33 ((nI (6 * n) + 4).toNatClampNeg) r → vp_in (nI (6 * n) + 1) 72 ∧ ∀ σ13, σ13 = sI σ10 33 ((nI (6 * n) + 1).toNatClampNeg) (gI σ10 30 4) → w_Tape_advance T σ13 Q := by
    intro r hr hd hrk hcd hd0 Q hQ
    rw [show nI (6 * n) + 4 = nI (6 * n + 4) from nI_add _ 4, show nI (6 * n) + 1 = nI (6 * n + 1) from nI_add _ 1, nI_clamp (by omega), nI_clamp (by omega)]
    refine ⟨vp_in_nI (by omega) (by decide), fun σ10 e10 => ⟨vp_in_nI (by omega) (by decide), fun σ13 e13 => ?_⟩⟩
    have hC10 : CB σ σ10 b sz true n s0 u0 i l s u := by rw [e10]; exact hC.h33 (by omega)
    rw [hC10.2.1.2.2.1] at e13
    have hC13 : CB σ σ13 b sz true n s0 u0 i l s u := by rw [e13]; exact hC10.h33 (by omega)
    refine s_adv hC13.2.1 (fun τ1 a1 c1 hP1 => hQ τ1 (hC13.fwd a1 c1 hP1) (lt_of_c hc (by rw [hcd]; exact hd0)) ?_ ?_ ?_ ?_)
    · rw [h_pd a1, e13, gI_sI, if_neg (by omega), e10, gI_sI, if_neg (by omega)]; exact h0
    · rw [h_pd a1, e13, gI_same]
    · rw [h_pd a1, e13, gI_sI, if_neg (by omega), e10, gI_same, hrk]
    · rw [h_pd a1, e13, gI_sI, if_neg (by omega), e10, gI_sI, if_neg (by omega)]; exact h5
  by_cases c1 : tC b sz i = 22
  · rw [hix, if_pos c1]
    refine ⟨fun _ => head 0 (by decide) 22 (by decide) c1 (by decide) _ (fun τ1 hC1 hlt g0 g1 g4 g5 => ⟨fun z => absurd rfl z, fun _ => ?_⟩), fun z => absurd z (by decide)⟩
    have prg := Prg_sum (o := true) (v := tV b sz) hc 8
    unfold w_Pars_whatByWhom
    refine pd_sum8 (T := T) (o := true) hN hc τ1 (i + 1) l s u _ hC1.2.1 hlt hl (fun e h2 τ2 a2 q8 q4 => ⟨fun z => absurd rfl z, fun _ => ⟨fun z => absurd rfl z, fun _ => ⟨fun z => absurd rfl z, fun _ => ?_⟩⟩⟩) (fun j l1 A h2 τ2 s1 u1 hG => ⟨fun _ => ?_, fun z => absurd z (by decide)⟩)
    · exact k.1 e (by unfold pOrder; rw [if_pos c1, h2]) τ2 (hC1.1.c.trans (pd_cl a2)) q8
    · have hj := (prg (i + 1) l hlt hl).1 j l1 A h2
      have hC2 := hC1.pg hG
      rw [show nI (6 * n) + 1 = nI (6 * n + 1) from nI_add _ 1, nI_clamp (by omega), hC2.2.1.2.2.1]
      refine ⟨vp_in_nI (by omega) (by decide), fun σ4 e4 => ?_⟩
      have hC4 : CB σ σ4 b sz true n s0 u0 j l1 s1 u1 := by rw [e4]; exact hC2.h33 (by omega)
      have c4 : ∀ k, gI σ4 32 k = gI τ2 32 k := fun k => by rw [e4, gI_sI, if_neg (by omega)]
      refine s_isWord (w := 7) (k := 23) (by decide) rfl hC4.2.1.1 (br1 (fun z => ?_) (fun z => ?_))
      · have hz : tC b sz j = 23 := (of_decide_eq_true z).trans (by decide)
        have hlt2 : j < N := lt_of_c hc (by rw [hz]; decide)
        refine s_adv hC4.2.1 (fun τ3 a3 c3 hP3 => pd_sum8 (T := T) (o := true) hN hc τ3 (j + 1) l1 s1 u1 _ hP3 hlt2 hj.2.2.2 (fun e h3 τ5 a5 q8 q4 => ⟨Or.inl rfl, fun z => absurd rfl z, fun _ => ⟨fun z => absurd rfl z, fun _ => ?_⟩⟩) (fun j2 l2 B h3 τ5 s2 u2 hG2 => ⟨Or.inr rfl, fun _ => ?_, fun z => absurd z (by decide)⟩))
        · exact k.1 e (by unfold pOrder; rw [if_pos c1, h2]; simp only []; rw [if_pos hz, h3]) τ5 (hC4.1.c.trans (pd_cl (a3.q.trans a5))) q8
        · have hj2 := (prg (j + 1) l1 hlt2 hj.2.2.2).1 j2 l2 B h3
          have hC3 := hC4.fwd a3 c3 hP3
          have a5 := hG2.1
          have e3 : pOrder (tC b sz) (tV b sz) i l = pTimes true (tC b sz) (tV b sz) 22 A B j2 l2 := by unfold pOrder; rw [if_pos c1, h2]; simp only []; rw [if_pos hz, h3]
          rw [e3] at k
          have q3 := hG.2.2.1
          have q4 := hG2.2.2.1
          refine pd_times (p0 := s) (p1 := s1) (i0 := i) hN hn hc (hC3.pg hG2) hj2.2.1 hj2.2.2.2 ?_ ?_ ?_ ?_ hss (by omega) (by omega) ((sec_pg hG hj.2.2.2).cg (fun k k1 k2 => ?_)) (sec_pg hG2 hj2.2.2.2) (hG.2.2.2.2.2.2.2.1.mo hG2.2.2.2.2.2.2.1) hG2.2.2.2.2.2.2.2.1 (by omega) k
          · rw [h_pd a5, h_pd a3, e4, gI_sI, if_neg (by omega), h_pd hG.1]; exact g0
          · rw [h_pd a5, h_pd a3, e4, gI_same]
          · rw [h_pd a5, h_pd a3, e4, gI_sI, if_neg (by omega), h_pd hG.1]; exact g4
          · rw [h_pd a5, h_pd a3, e4, gI_sI, if_neg (by omega), h_pd hG.1]; exact g5
          · rw [hG2.2.2.2.2.2.1 k k2, c3, c4]
      · have hz : ¬ tC b sz j = 23 := fun w => of_decide_eq_false z (w.trans (by decide))
        refine halt_cl (post := fun r19 σ20 => (¬ r19 = 0 → w_Pars_orderBody_j62 T (obP T post n) σ20 (nI (6 * n))) ∧ (r19 = 0 → obP T post n 0 σ20)) hC4 hj.2.1 hN (fun τ3 a3 q8 => ⟨fun z => absurd rfl z, fun _ => ⟨fun z => absurd rfl z, fun _ => k.1 j ?_ τ3 a3 q8⟩⟩)
        unfold pOrder; rw [if_pos c1, h2]; simp only []; rw [if_neg hz]
  by_cases c2 : tC b sz i = 24
  · rw [hix, if_neg c1, if_pos c2]
    refine ⟨fun _ => head 1 (by decide) 24 (by decide) c2 (by decide) _ (fun τ1 hC1 hlt g0 g1 g4 g5 => ⟨fun _ => ?_, fun z => absurd z (by decide)⟩), fun z => absurd z (by decide)⟩
    have e3 : pOrder (tC b sz) (tV b sz) i l = pTimes true (tC b sz) (tV b sz) 24 d1 d1 (i + 1) l := by unfold pOrder; rw [if_neg c1, if_pos c2]
    rw [e3] at k
    exact pd_times (p0 := s) (p1 := s) (i0 := i) hN hn hc hC1 hlt hl g0 g1 g4 g5 hss (Nat.le_refl _) (Nat.le_refl _) (Or.inl ⟨rfl, rfl⟩) (Or.inl ⟨rfl, rfl⟩) (dep_1 u) (dep_1 u) (by omega) k
  · rw [hix, if_neg c1, if_neg c2]
    refine ⟨fun z => absurd rfl z, fun _ => halt_cl (post := obP T post n) hC hi hN (fun τ2 a2 q8 => ⟨fun z => absurd rfl z, fun _ => k.1 i ?_ τ2 a2 q8⟩)⟩
    unfold pOrder; rw [if_neg c1, if_neg c2]
/-- a clause -/
theorem pd_clause {post : Int32 → DD → Prop} (hN : N ≤ 400) (hn : n < 12) (hc : ∀ k, N ≤ k → tC b sz k = 0) (hP : PC σ b sz o i l s u) (h5 : gI σ 30 5 = nI n) (hi : i ≤ N) (hl : l ≤ 50) (k : ClK σ b sz N o n i s u (pOne o (tC b sz) (tV b sz) i l) post) : w_Pars_clause T σ post := by
  unfold w_Pars_clause
  rw [h5, show nI n < 12 ↔ n < 12 from nI_ltI (a := n) (b := 12) (by omega) (by decide)]
  refine ⟨fun _ v18 e18 => ?_, fun z => absurd hn z⟩
  rw [show (6 : Int32) = nI 6 from rfl, pk_mul, Nat.mul_comm] at e18
  subst e18
  rw [show nI (6 * n) + 0 = nI (6 * n) from nI_add _ 0, show nI (6 * n) + 5 = nI (6 * n + 5) from nI_add _ 5, nI_clamp (by omega), nI_clamp (by omega), hP.2.2.1]
  refine ⟨vp_in_nI (by omega) (by decide), fun σ20 e20 => ⟨vp_in_nI (by omega) (by decide), fun σ23 e23 => ?_⟩⟩
  have hC : CB σ σ b sz o n s u i l s u := ⟨AgX.refl σ, hP, h5, Nat.le_refl _, fun _ _ => rfl, fun _ w => w⟩
  have hC23 : CB σ σ23 b sz o n s u i l s u := by rw [e23, e20]; exact (hC.h33 (by omega)).h33 (by omega)
  have g0 : gI σ23 33 (6 * n) = nI s := by rw [e23, gI_sI, if_neg (by omega), e20, gI_same]
  have g5 : gI σ23 33 (6 * n + 5) = 1 := by rw [e23, gI_same]
  rw [hC23.2.1.2.2.2.2.2.2]
  cases o with
  | false => exact ⟨fun z => absurd z (by decide), fun _ => pd_law hN hn hc hC23 hi hl g0 g5 k⟩
  | true => exact ⟨fun _ => pd_order hN hn hc hC23 hi hl g0 g5 k, fun z => absurd rfl z⟩
theorem pd_clause12 {post : Int32 → DD → Prop} (hN : N ≤ 400) (hP : PC σ b sz o i l s u) (h5 : gI σ 30 5 = nI 12) (hi : i ≤ N) (k : ∀ τ, AgX pdQ noL σ τ → gI τ 30 8 = nI (tP b sz i) → post 0 τ) : w_Pars_clause T σ post := by
  unfold w_Pars_clause
  rw [h5]
  exact ⟨fun z => absurd z (by decide), fun _ => s_halt hP hi hN (fun τ a q8 _ => k τ a q8)⟩
end PX9
