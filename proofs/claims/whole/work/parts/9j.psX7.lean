/-! ===== the class's parser: clauses ===== -/
def clQ (n : Nat) (o k : Nat) : Prop := pdQ o k ∨ (o = 33 ∧ 6 * n ≤ k ∧ k < 6 * n + 6) ∨ (o = 30 ∧ k = 5)
def clS (n : Nat) (o k : Nat) : Prop := pdS o k ∨ (o = 33 ∧ 6 * n ≤ k ∧ k < 6 * n + 6) ∨ (o = 30 ∧ k = 5)
def ClP (u : Nat) (x : CLS) : Prop := Dep u x.2.1 ∧ Dep u x.2.2.1 ∧ Dep u (tD x.2.2.2.2)
def ClOK (hd cd : Nat → Int32) (W c lo hi : Nat) (x : CLS) : Prop := ∃ p0 p1 p2 p3, hd (6 * c) = nI p0 ∧ hd (6 * c + 1) = nI p1 ∧ hd (6 * c + 2) = nI p2 ∧ hd (6 * c + 3) = nI p3 ∧ lo ≤ p0 ∧ p0 ≤ p1 ∧ p1 ≤ p2 ∧ p2 ≤ p3 ∧ p3 ≤ hi ∧ hd (6 * c + 4) = kX x.1 ∧ hd (6 * c + 5) = x.2.2.2.1 ∧ Sec cd p0 p1 W x.2.1 ∧ Sec cd p1 p2 W x.2.2.1 ∧ Sec cd p2 p3 W (tD x.2.2.2.2)
theorem Sec.cg {cd cd' : Nat → Int32} {a b W : Nat} {D : DS} (h : Sec cd a b W D) (hc : ∀ k, a ≤ k → k < b → cd' k = cd k) : Sec cd' a b W D := by
  rcases h with h | ⟨n, h1, h2, h3, h4⟩
  · exact Or.inl h
  · exact Or.inr ⟨n, h1, h2, h3, h4.cg hc⟩
theorem dep_1 (u : Nat) : Dep u d1 := fun _ _ _ => rfl
theorem dep_t (u : Nat) : Dep u (tD (fun _ => some true)) := fun _ _ _ => rfl
section PX7
variable {σ τ υ : DD} {T : TXT} {b : Nat → Nat} {sz N n i l s u s0 u0 : Nat} {o : Bool}
theorem pd_cl {σ τ : DD} (a : AgX pdQ noL σ τ) : AgX (clQ n) noL σ τ := a.mono (fun o k w => Or.inl w) (fun _ w => w)
theorem pd_cs {σ τ : DD} (a : AgX pdS noL σ τ) : AgX (clS n) noL σ τ := a.mono (fun o k w => Or.inl w) (fun _ w => w)
theorem AgX.c {σ τ : DD} (a : AgX (clS n) noL σ τ) : AgX (clQ n) noL σ τ := a.mono (fun o k w => by unfold clS pdS at w; unfold clQ pdQ; omega) (fun _ w => w)
theorem PC.h33 {P : Nat → Nat → Prop} (h : PC σ b sz o i l s u) (a : AgX P noL σ τ) (hP : ∀ o k, P o k → o = 33 ∨ (o = 30 ∧ k = 5)) : PC τ b sz o i l s u := h.ag a (fun p w => by have := hP _ _ w; omega) (fun p w => by have := hP _ _ w; omega) (fun w => by have := hP _ _ w; omega) (fun w => by have := hP _ _ w; omega) (fun w => by have := hP _ _ w; omega) (fun w => by have := hP _ _ w; omega)
/-- how far a clause is -/
def CB (σ τ : DD) (b : Nat → Nat) (sz : Nat) (o : Bool) (n s0 u0 i l s u : Nat) : Prop := AgX (clS n) noL σ τ ∧ PC τ b sz o i l s u ∧ gI τ 30 5 = nI n ∧ s0 ≤ s ∧ (∀ k, k < s0 → gI τ 32 k = gI σ 32 k) ∧ ∀ j, u0.testBit j = true → u.testBit j = true
theorem CB.h33 (h : CB σ τ b sz o n s0 u0 i l s u) {k : Nat} {x : Int32} (hk : 6 * n ≤ k ∧ k < 6 * n + 6) : CB σ (sI τ 33 k x) b sz o n s0 u0 i l s u := by
  have a : AgX (fun o k' => o = 33 ∧ k' = k) noL τ (sI τ 33 k x) := AgX.put ⟨rfl, rfl⟩
  refine ⟨h.1.set (Or.inr (Or.inl ⟨rfl, hk⟩)), h.2.1.h33 a (by omega), ?_, h.2.2.2.1, fun k' hk' => ?_, h.2.2.2.2.2⟩
  · rw [a.i _ _ (by omega)]; exact h.2.2.1
  · rw [a.i _ _ (by omega)]; exact h.2.2.2.2.1 k' hk'
theorem CB.pg {j l' s' u' : Nat} {D : DS} (h : CB σ τ b sz o n s0 u0 i l s u) (hG : PG τ υ b sz o i l s u j l' s' u' D) : CB σ υ b sz o n s0 u0 j l' s' u' := by
  obtain ⟨p1, p2, p3, p4, p5, p6, p7, p8, p9⟩ := hG
  refine ⟨h.1.trans (pd_cs p1), p2, ?_, by have := h.2.2.2.1; omega, fun k hk => ?_, fun j hj => p7 j (h.2.2.2.2.2 j hj)⟩
  · rw [p1.i _ _ (by unfold pdS; omega)]; exact h.2.2.1
  · rw [p6 k (by have := h.2.2.2.1; omega)]; exact h.2.2.2.2.1 k hk
theorem CB.fwd (h : CB σ τ b sz o n s0 u0 i l s u) (a : AgX pdS noL τ υ) (c : ∀ k, gI υ 32 k = gI τ 32 k) (hP : PC υ b sz o (i + 1) l s u) : CB σ υ b sz o n s0 u0 (i + 1) l s u := by
  refine ⟨h.1.trans (pd_cs a), hP, ?_, h.2.2.2.1, fun k hk => ?_, h.2.2.2.2.2⟩
  · rw [a.i _ _ (by unfold pdS; omega)]; exact h.2.2.1
  · rw [c]; exact h.2.2.2.2.1 k hk
theorem h_pd {k : Nat} (a : AgX pdS noL σ τ) : gI τ 33 k = gI σ 33 k := a.i _ _ (by unfold pdS; omega)
theorem sec_pg {j l' s' u' : Nat} {D : DS} (hG : PG τ υ b sz o i l s u j l' s' u' D) (hl : l' ≤ 50) : Sec (gI υ 32) s s' (wW o) D := by
  obtain ⟨p1, p2, p3, p4, p5, p6, p7, p8, p9⟩ := hG
  exact Or.inr ⟨l' - l, by omega, by omega, p3, p9⟩
/-- the end of a clause -/
theorem cl_if {post : Int32 → DD → Prop} {A B : DS} {h t : Int32} {p0 p1 : Nat} (hN : N ≤ 400) (hn : n < 12) (hc : ∀ k, N ≤ k → tC b sz k = 0) (hC : CB σ τ b sz o n s0 u0 i l s u) (hi : i ≤ N) (hl : l ≤ 50)
    (h0 : gI τ 33 (6 * n) = nI p0) (h1 : gI τ 33 (6 * n + 1) = nI p1) (h4 : gI τ 33 (6 * n + 4) = kX h) (h5 : gI τ 33 (6 * n + 5) = t) (hp0 : s0 ≤ p0) (hp1 : p0 ≤ p1) (hp2 : p1 ≤ s) (sA : Sec (gI τ 32) p0 p1 (wW o) A) (sB : Sec (gI τ 32) p1 s (wW o) B) (dA : Dep u A) (dB : Dep u B)
    (k0 : ∀ e, pIf o (tC b sz) (tV b sz) h A B t i l = .inl e → ∀ τ, AgX (clQ n) noL σ τ → gI τ 30 8 = nI (tP b sz e) → post 0 τ)
    (k1 : ∀ j l' x, pIf o (tC b sz) (tV b sz) h A B t i l = .inr (j, l', x) → i ≤ j → j ≤ N → l' ≤ 50 → ∀ τ s' u', AgX (clS n) noL σ τ → PC τ b sz o j l' s' u' → gI τ 30 5 = nI (n + 1) → s0 ≤ s' → (∀ k, k < s0 → gI τ 32 k = gI σ 32 k) → (∀ j, u0.testBit j = true → u'.testBit j = true) → ClP u' x → ClOK (gI τ 33) (gI τ 32) (wW o) n s0 s' x → post 1 τ) : w_Pars_clause_j71 T post τ (nI (6 * n)) := by
  have hss := hC.2.1.2.2.2.2.2.1
  -- the last part
  have fin : ∀ υ i' l' s' u' (C : DB), CB σ υ b sz o n s0 u0 i' l' s' u' → s ≤ s' → (∀ k, k < s → gI υ 32 k = gI τ 32 k) → (∀ j, u.testBit j = true → u'.testBit j = true) → gI υ 33 (6 * n) = nI p0 → gI υ 33 (6 * n + 1) = nI p1 → gI υ 33 (6 * n + 2) = nI s → gI υ 33 (6 * n + 4) = kX h → gI υ 33 (6 * n + 5) = t → Sec (gI υ 32) s s' (wW o) (tD C) → Dep u' (tD C) → pIf o (tC b sz) (tV b sz) h A B t i l = .inr (i', l', (h, A, B, t, C)) → i ≤ i' → i' ≤ N → l' ≤ 50 → w_Pars_clause_j112 T post υ (nI (6 * n)) := by
    intro υ i' l' s' u' C hU hs cU mU g0 g1 g2 g4 g5 sC dC hp hii hiN hlN
    unfold w_Pars_clause_j112
    rw [show nI (6 * n) + 3 = nI (6 * n + 3) from nI_add _ 3, nI_clamp (by omega), hU.2.1.2.2.1]
    refine ⟨vp_in_nI (by omega) (by decide), fun σ1 e1 σ4 e4 => ?_⟩
    have hU1 : CB σ σ1 b sz o n s0 u0 i' l' s' u' := by rw [e1]; exact hU.h33 (by omega)
    rw [hU1.2.2.1, nI_1] at e4
    have a4 : AgX (fun o k => o = 30 ∧ k = 5) noL σ1 σ4 := by rw [e4]; exact AgX.put ⟨rfl, rfl⟩
    have r33 : ∀ k, ¬ k = 6 * n + 3 → gI σ4 33 k = gI υ 33 k := fun k hk => by rw [a4.i _ _ (by omega), e1, gI_sI, if_neg (by omega)]
    have r32 : ∀ k, gI σ4 32 k = gI υ 32 k := fun k => by rw [a4.i _ _ (by omega), e1, gI_sI, if_neg (by omega)]
    refine k1 i' l' _ hp hii hiN hlN σ4 s' u' (hU1.1.trans (a4.mono (fun o k w => Or.inr (Or.inr w)) (fun _ w => w))) (hU1.2.1.h33 a4 (by omega)) (by rw [e4, gI_same]) hU.2.2.2.1 (fun k hk => ?_) hU.2.2.2.2.2 ⟨dA.mo mU, dB.mo mU, dC⟩ ⟨p0, p1, s, s', ?_, ?_, ?_, ?_, hp0, hp1, hp2, hs, Nat.le_refl _, ?_, ?_, ?_, ?_, ?_⟩
    · rw [r32]; exact hU.2.2.2.2.1 k hk
    · rw [r33 _ (by omega)]; exact g0
    · rw [r33 _ (by omega)]; exact g1
    · rw [r33 _ (by omega)]; exact g2
    · rw [a4.i _ _ (by omega), e1, gI_same]
    · rw [r33 _ (by omega)]; exact g4
    · rw [r33 _ (by omega)]; exact g5
    · exact sA.cg (fun k k1 k2 => by rw [r32]; exact cU k (by omega))
    · exact sB.cg (fun k k1 k2 => by rw [r32]; exact cU k k2)
    · exact sC.cg (fun k k1 k2 => r32 k)
  unfold w_Pars_clause_j71
  rw [show nI (6 * n) + 2 = nI (6 * n + 2) from nI_add _ 2, nI_clamp (by omega), hC.2.1.2.2.1]
  refine ⟨vp_in_nI (by omega) (by decide), fun σ6 e6 => ?_⟩
  have hC6 : CB σ σ6 b sz o n s0 u0 i l s u := by rw [e6]; exact hC.h33 (by omega)
  have r6 : ∀ k, ¬ k = 6 * n + 2 → gI σ6 33 k = gI τ 33 k := fun k hk => by rw [e6, gI_sI, if_neg (by omega)]
  have r62 : gI σ6 33 (6 * n + 2) = nI s := by rw [e6, gI_same]
  have c6 : ∀ k, gI σ6 32 k = gI τ 32 k := fun k => by rw [e6, gI_sI, if_neg (by omega)]
  refine s_isWord (w := 9) (k := 4) (by decide) rfl hC6.2.1.1 (br0 (fun z => ?_) (fun z => ?_))
  · have hz : ¬ tC b sz i = 4 := fun w => of_decide_eq_false z (w.trans (by decide))
    refine fin σ6 i l s u (fun _ => some true) hC6 (Nat.le_refl _) (fun k _ => c6 k) (fun _ w => w) ?_ ?_ r62 ?_ ?_ (Or.inl ⟨rfl, rfl⟩) (dep_t u) (by unfold pIf; rw [if_neg hz]) (Nat.le_refl _) hi hl
    · rw [r6 _ (by omega)]; exact h0
    · rw [r6 _ (by omega)]; exact h1
    · rw [r6 _ (by omega)]; exact h4
    · rw [r6 _ (by omega)]; exact h5
  · have hz : tC b sz i = 4 := (of_decide_eq_true z).trans (by decide)
    have hlt : i < N := lt_of_c hc (by rw [hz]; decide)
    have prg := Prg_test (o := o) (v := tV b sz) hc 8
    refine s_adv hC6.2.1 (fun τ1 a1 c1 hP1 => pd_test8 (T := T) (o := o) hN hc τ1 (i + 1) l s u _ hP1 hlt hl (fun e h2 τ2 a2 q8 q4 => ⟨fun z => absurd rfl z, fun _ => ?_⟩) (fun j l' C h2 τ2 s' u' hG => ⟨fun _ => ?_, fun z => absurd z (by decide)⟩))
    · exact k0 e (by unfold pIf; rw [if_pos hz, h2]) τ2 (hC6.1.c.trans (pd_cl (a1.q.trans a2))) q8
    · have hj := (prg (i + 1) l hlt hl).1 j l' C h2
      have hC1 := hC6.fwd a1 c1 hP1
      have a2 := hG.1
      refine fin τ2 j l' s' u' C (hC1.pg hG) (by have := hG.2.2.1; omega) (fun k hk => ?_) hG.2.2.2.2.2.2.1 ?_ ?_ ?_ ?_ ?_ (sec_pg hG hj.2.2.2) hG.2.2.2.2.2.2.2.1 (by unfold pIf; rw [if_pos hz, h2]) (by omega) hj.2.1 hj.2.2.2
      · rw [hG.2.2.2.2.2.1 k hk, c1, c6]
      · rw [h_pd a2, h_pd a1, r6 _ (by omega)]; exact h0
      · rw [h_pd a2, h_pd a1, r6 _ (by omega)]; exact h1
      · rw [h_pd a2, h_pd a1]; exact r62
      · rw [h_pd a2, h_pd a1, r6 _ (by omega)]; exact h4
      · rw [h_pd a2, h_pd a1, r6 _ (by omega)]; exact h5
end PX7
