/-! ===== the class's parser: clauses of laws, orders ===== -/
section PX8
variable {σ τ υ : DD} {T : TXT} {b : Nat → Nat} {sz N n i l s u s0 u0 : Nat} {o : Bool}
/-- what a clause must leave -/
def ClK (σ : DD) (b : Nat → Nat) (sz N : Nat) (o : Bool) (n i s0 u0 : Nat) (p : PR CLS) (post : Int32 → DD → Prop) : Prop :=
  (∀ e, p = .inl e → ∀ τ, AgX (clQ n) noL σ τ → gI τ 30 8 = nI (tP b sz e) → post 0 τ) ∧
  ∀ j l' x, p = .inr (j, l', x) → i ≤ j → j ≤ N → l' ≤ 50 → ∀ τ s' u', AgX (clS n) noL σ τ → PC τ b sz o j l' s' u' → gI τ 30 5 = nI (n + 1) → s0 ≤ s' → (∀ k, k < s0 → gI τ 32 k = gI σ 32 k) → (∀ j, u0.testBit j = true → u'.testBit j = true) → ClP u' x → ClOK (gI τ 33) (gI τ 32) (wW o) n s0 s' x → post 1 τ
theorem cl_ifK {post : Int32 → DD → Prop} {A B : DS} {h t : Int32} {p0 p1 i0 : Nat} (hN : N ≤ 400) (hn : n < 12) (hc : ∀ k, N ≤ k → tC b sz k = 0) (hC : CB σ τ b sz o n s0 u0 i l s u) (hi : i ≤ N) (hl : l ≤ 50)
    (h0 : gI τ 33 (6 * n) = nI p0) (h1 : gI τ 33 (6 * n + 1) = nI p1) (h4 : gI τ 33 (6 * n + 4) = kX h) (h5 : gI τ 33 (6 * n + 5) = t) (hp0 : s0 ≤ p0) (hp1 : p0 ≤ p1) (hp2 : p1 ≤ s) (sA : Sec (gI τ 32) p0 p1 (wW o) A) (sB : Sec (gI τ 32) p1 s (wW o) B) (dA : Dep u A) (dB : Dep u B) (hi0 : i0 ≤ i)
    (k : ClK σ b sz N o n i0 s0 u0 (pIf o (tC b sz) (tV b sz) h A B t i l) post) : w_Pars_clause_j71 T post τ (nI (6 * n)) := cl_if hN hn hc hC hi hl h0 h1 h4 h5 hp0 hp1 hp2 sA sB dA dB k.1 (fun j l' x hp q1 q2 q3 => k.2 j l' x hp (by omega) q2 q3)
theorem halt_cl {post : Int32 → DD → Prop} (hC : CB σ τ b sz o n s0 u0 i l s u) (hi : i ≤ N) (hN : N ≤ 400) (k : ∀ τ, AgX (clQ n) noL σ τ → gI τ 30 8 = nI (tP b sz i) → post 0 τ) : w_Pars_halt T τ (fun r σ => bz r ∧ post r σ) := s_halt hC.2.1 hi hN (fun υ a q8 _ => k υ (hC.1.c.trans (pd_cl a)) q8)
theorem pd_law {post : Int32 → DD → Prop} (hN : N ≤ 400) (hn : n < 12) (hc : ∀ k, N ≤ k → tC b sz k = 0) (hC : CB σ τ b sz false n s0 u0 i l s u) (hi : i ≤ N) (hl : l ≤ 50) (h0 : gI τ 33 (6 * n) = nI s) (h5 : gI τ 33 (6 * n + 5) = 1) (k : ClK σ b sz N false n i s0 u0 (pClause (tC b sz) (tV b sz) i l) post) : w_Pars_lawBody T τ (nI (6 * n)) (fun r30 σ31 => (r30 = 0 → post 0 σ31) ∧ (¬ r30 = 0 → w_Pars_clause_j71 T post σ31 (nI (6 * n)))) := by
  have hss := hC.2.2.2.1
  unfold w_Pars_lawBody
  refine s_indexAmong (s := 0) (by decide) hC.2.1.1 ?_
  have hix : ixS (csS 0) 0 (tC b sz i) = if tC b sz i = 1 then 0 else if tC b sz i = 2 then 1 else if tC b sz i = 3 then 2 else -1 := rfl
  have head : ∀ r : Int32, ¬ r = -1 → ∀ hd : Int32, r = kX hd → tC b sz i = hd → ¬ hd = 0 → ∀ Q : DD → Prop, (∀ τ1, CB σ τ1 b sz false n s0 u0 (i + 1) l s u → i < N → gI τ1 33 (6 * n) = nI s → gI τ1 33 (6 * n + 4) = kX hd → gI τ1 33 (6 * n + 5) = 1 → Q τ1) → vp_in (nI (6 * n) + 4) 72 ∧ ∀ σ7, σ7 = sI τ 33 ((nI (6 * n) + 4).toNatClampNeg) r → w_Tape_advance T σ7 Q := by
    intro r hr hd hrk hcd hd0 Q hQ
    rw [show nI (6 * n) + 4 = nI (6 * n + 4) from nI_add _ 4, nI_clamp (by omega)]
    refine ⟨vp_in_nI (by omega) (by decide), fun σ7 e7 => ?_⟩
    have hC7 : CB σ σ7 b sz false n s0 u0 i l s u := by rw [e7]; exact hC.h33 (by omega)
    refine s_adv hC7.2.1 (fun τ1 a1 c1 hP1 => hQ τ1 (hC7.fwd a1 c1 hP1) (lt_of_c hc (by rw [hcd]; exact hd0)) ?_ ?_ ?_)
    · rw [h_pd a1, e7, gI_sI, if_neg (by omega)]; exact h0
    · rw [h_pd a1, e7, gI_same, hrk]
    · rw [h_pd a1, e7, gI_sI, if_neg (by omega)]; exact h5
  have j54 : ∀ τ1 (s1 : Nat) (t0 : Int32) (P : Int32 → DD → Prop), gI τ1 30 4 = nI s1 → bz t0 → P t0 (sI τ1 33 (6 * n + 1) (nI s1)) → w_Pars_lawBody_j54 T P τ1 (nI (6 * n)) t0 := by
    intro τ1 s1 t0 P hs hz hp
    unfold w_Pars_lawBody_j54
    rw [show nI (6 * n) + 1 = nI (6 * n + 1) from nI_add _ 1, nI_clamp (by omega), hs]
    refine ⟨vp_in_nI (by omega) (by decide), fun σ1 e1 => ⟨hz, ?_⟩⟩
    rw [e1]; exact hp
  have sums : ∀ hd : Int32, (hd = 1 ∨ hd = 2) → tC b sz i = hd → ∀ τ1, CB σ τ1 b sz false n s0 u0 (i + 1) l s u → i < N → gI τ1 33 (6 * n) = nI s → gI τ1 33 (6 * n + 4) = kX hd → gI τ1 33 (6 * n + 5) = 1 → w_Pars_sum T τ1 0 (fun r13 σ14 => (r13 = 0 → w_Pars_lawBody_j54 T (fun r30 σ31 => (r30 = 0 → post 0 σ31) ∧ (¬ r30 = 0 → w_Pars_clause_j71 T post σ31 (nI (6 * n)))) σ14 (nI (6 * n)) 0) ∧ (¬ r13 = 0 → w_Pars_lawBody_j49 T (fun r30 σ31 => (r30 = 0 → post 0 σ31) ∧ (¬ r30 = 0 → w_Pars_clause_j71 T post σ31 (nI (6 * n)))) σ14 (nI (6 * n)))) := by
    intro hd hhd hcd τ1 hC1 hlt g0 g4 g5
    have prg := Prg_sum (o := false) (v := tV b sz) hc 8
    have w12 : tC b sz i = 1 ∨ tC b sz i = 2 := by rw [hcd]; exact hhd
    refine pd_sum8 (T := T) (o := false) hN hc τ1 (i + 1) l s u _ hC1.2.1 hlt hl (fun e h2 τ2 a2 q8 q4 => ⟨fun _ => ?_, fun z => absurd rfl z⟩) (fun j l' D h2 τ2 s' u' hG => ⟨fun z => absurd z (by decide), fun _ => ?_⟩)
    · obtain ⟨s', -, hs'⟩ := q4
      refine j54 τ2 s' 0 _ hs' (Or.inl rfl) ⟨fun _ => k.1 e ?_ _ ((hC1.1.c.trans (pd_cl a2)).set (Or.inr (Or.inl ⟨rfl, by omega, by omega⟩))) ?_, fun z => absurd rfl z⟩
      · unfold pClause; rw [if_pos w12, h2]
      · rw [gI_sI, if_neg (by omega)]; exact q8
    · have hj := (prg (i + 1) l hlt hl).1 j l' D h2
      have hC2 := hC1.pg hG
      have e3 : pClause (tC b sz) (tV b sz) i l = pIf false (tC b sz) (tV b sz) hd D d1 1 j l' := by unfold pClause; rw [if_pos w12, h2]; simp only []; rw [hcd]
      unfold w_Pars_lawBody_j49
      refine j54 τ2 s' 1 _ hC2.2.1.2.2.1 (Or.inr rfl) ⟨fun z => absurd z (by decide), fun _ => ?_⟩
      have hC3 : CB σ (sI τ2 33 (6 * n + 1) (nI s')) b sz false n s0 u0 j l' s' u' := hC2.h33 (by omega)
      have a2 := hG.1
      rw [e3] at k
      have c3 : ∀ k, gI (sI τ2 33 (6 * n + 1) (nI s')) 32 k = gI τ2 32 k := fun k => by rw [gI_sI, if_neg (by omega)]
      refine cl_ifK (p0 := s) (p1 := s') (i0 := i) hN hn hc hC3 hj.2.1 hj.2.2.2 ?_ gI_same ?_ ?_ hss (by have := hG.2.2.1; omega) (Nat.le_refl _) ((sec_pg hG hj.2.2.2).cg (fun k _ _ => c3 k)) (Or.inl ⟨rfl, rfl⟩) hG.2.2.2.2.2.2.2.1 (dep_1 u') (by omega) k
      · rw [gI_sI, if_neg (by omega), h_pd a2]; exact g0
      · rw [gI_sI, if_neg (by omega), h_pd a2]; exact g4
      · rw [gI_sI, if_neg (by omega), h_pd a2]; exact g5
  by_cases c1 : tC b sz i = 1
  · rw [hix, if_pos c1]
    refine ⟨fun _ => head 0 (by decide) 1 (by decide) c1 (by decide) _ (fun τ1 hC1 hlt g0 g4 g5 => ⟨fun z => absurd z (by decide), fun _ => sums 1 (Or.inl rfl) c1 τ1 hC1 hlt g0 g4 g5⟩), fun z => absurd z (by decide)⟩
  by_cases c2 : tC b sz i = 2
  · rw [hix, if_neg c1, if_pos c2]
    refine ⟨fun _ => head 1 (by decide) 2 (by decide) c2 (by decide) _ (fun τ1 hC1 hlt g0 g4 g5 => ⟨fun z => absurd z (by decide), fun _ => sums 2 (Or.inr rfl) c2 τ1 hC1 hlt g0 g4 g5⟩), fun z => absurd z (by decide)⟩
  have n12 : ¬ (tC b sz i = 1 ∨ tC b sz i = 2) := fun w => by rcases w with w | w; exact c1 w; exact c2 w
  by_cases c3 : tC b sz i = 3
  · rw [hix, if_neg c1, if_neg c2, if_pos c3]
    refine ⟨fun _ => head 2 (by decide) 3 (by decide) c3 (by decide) _ (fun τ1 hC1 hlt g0 g4 g5 => ⟨fun _ => ?_, fun z => absurd rfl z⟩), fun z => absurd z (by decide)⟩
    unfold w_Pars_lawBody_j49
    have e3 : pClause (tC b sz) (tV b sz) i l = pIf false (tC b sz) (tV b sz) 3 d1 d1 1 (i + 1) l := by unfold pClause; rw [if_neg n12, if_pos c3]
    refine j54 τ1 s 1 _ hC1.2.1.2.2.1 (Or.inr rfl) ⟨fun z => absurd z (by decide), fun _ => ?_⟩
    have hC3 : CB σ (sI τ1 33 (6 * n + 1) (nI s)) b sz false n s0 u0 (i + 1) l s u := hC1.h33 (by omega)
    rw [e3] at k
    refine cl_ifK (p0 := s) (p1 := s) (i0 := i) hN hn hc hC3 hlt hl ?_ gI_same ?_ ?_ hss (Nat.le_refl _) (Nat.le_refl _) (Or.inl ⟨rfl, rfl⟩) (Or.inl ⟨rfl, rfl⟩) (dep_1 u) (dep_1 u) (by omega) k
    · rw [gI_sI, if_neg (by omega)]; exact g0
    · rw [gI_sI, if_neg (by omega)]; exact g4
    · rw [gI_sI, if_neg (by omega)]; exact g5
  · rw [hix, if_neg c1, if_neg c2, if_neg c3]
    refine ⟨fun z => absurd rfl z, fun _ => halt_cl (post := fun r30 σ31 => (r30 = 0 → post 0 σ31) ∧ (¬ r30 = 0 → w_Pars_clause_j71 T post σ31 (nI (6 * n)))) hC hi hN (fun τ2 a2 q8 => ⟨fun _ => k.1 i ?_ τ2 a2 q8, fun z => absurd rfl z⟩)⟩
    unfold pClause; rw [if_neg n12, if_neg c3]
end PX8
