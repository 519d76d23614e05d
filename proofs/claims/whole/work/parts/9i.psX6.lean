/-! ===== the class's parser: tests, tied ===== -/
section PX6
variable {σ τ υ : DD} {T : TXT} {b : Nat → Nat} {sz N i l s u i0 : Nat} {o : Bool}
theorem tD_not0 (A : DB) : tD (notD false A) = tD A := by
  funext e
  unfold tD notD
  cases A e with
  | none => rfl
  | some x => cases x <;> rfl
theorem pd_plain {rec : DD → Int32 → Int32 → (Int32 → DD → Prop) → Prop} {cf : DD → Int32 → (Int32 → DD → Prop) → Prop} {p : Nat → Nat → PR DS} {br : Option (Nat → Nat → PR DB)} {d : Int32} (hN : N ≤ 400) (hc : ∀ k, N ≤ k → tC b sz k = 0) (hcf : Pd b sz N o tD (fun σ post => cf σ d post) (pCmp (tC b sz) p)) (hb : BrP b sz N o tD (fun σ post => rec σ d 1 post) 141 br) (hprg : Prg N (pPlain (tC b sz) p br)) : Pd b sz N o tD (fun σ post => w_Pars_plain_o T rec cf σ d post) (pPlain (tC b sz) p br) := by
  intro σ i0 l s u post hP hi hl k0 k1
  have hsi := hP.2.2.2.2.2.1
  show w_Pars_plain_o T rec cf σ d post
  unfold w_Pars_plain_o w_Pars_plain_l4
  obtain ⟨q0, hq0⟩ : ∃ q0, q0 = pNots (tC b sz) 401 i0 := ⟨_, rfl⟩
  refine LoopN (fun m y => ∃ i' n t bt, m = N - i' ∧ i' ≤ N ∧ N < i' + n ∧ t ≤ 400 ∧ i0 + t ≤ i' ∧ (bt = true → i0 < i') ∧ y.2.1 = bl bt ∧ y.2.2 = nI t ∧ AgX pdS noL σ y.1 ∧ PC y.1 b sz o i' l s u ∧ (∀ k, gI y.1 32 k = gI σ 32 k) ∧ q0 = ((pNots (tC b sz) n i').1, bt != (pNots (tC b sz) n i').2)) ?_ (n := N - i0) ⟨i0, 401, 0, false, rfl, hi, by omega, by omega, by omega, fun z => absurd z (by decide), rfl, rfl, AgX.refl σ, hP, fun _ => rfl, by rw [hq0]; cases h : (pNots (tC b sz) 401 i0).2 <;> (rw [← h]; rw [Prod.ext_iff]; simp [h])⟩
  rintro m ⟨υ, a2, a3⟩ K ⟨i', n, t, bt, hm, hi', hn, ht, hit, hbt, e2, e3, ag, hPu, hcu, hq⟩ ih
  simp only [] at e2 e3 ag hPu hcu ⊢
  subst e2; subst e3
  obtain ⟨n, rfl⟩ : ∃ n', n = n' + 1 := ⟨n - 1, by omega⟩
  unfold pNots at hq
  have out : ¬ tC b sz i' = 7 → w_Pars_plain_j46 T rec cf post υ d (bl bt) := by
    intro h7
    rw [if_neg h7] at hq
    have hq1 : q0 = (i', bt) := by rw [hq]; cases bt <;> rfl
    rw [hq1] at hq0
    have k0' : ∀ e, pPos (tC b sz) p br i' l = .inl e → ∀ τ, AgX pdQ noL υ τ → gI τ 30 8 = nI (tP b sz e) → (∃ s', s' ≤ 400 ∧ gI τ 30 4 = nI s') → post 0 τ := by
      intro e h3 τ a q8 q4
      refine k0 e ?_ τ (ag.q.trans a) q8 q4
      unfold pPlain; rw [← hq0]; simp only []; rw [h3]
    have fin : ∀ j l' A, pPos (tC b sz) p br i' l = .inr (j, l', A) → ∀ τ s' u', PG υ τ b sz o i' l s u j l' s' u' (tD A) → w_Pars_plain_j72 T rec cf post τ (bl bt) 1 := by
      intro j l' A h3 τ s' u' hG
      have hp : pPlain (tC b sz) p br i0 l = .inr (j, l', notD bt A) := by unfold pPlain; rw [← hq0]; simp only []; rw [h3]
      unfold w_Pars_plain_j72
      refine ⟨fun z => absurd z (by decide), fun _ => br0 (fun z => ⟨Or.inr rfl, ?_⟩) (fun z => ?_)⟩
      · refine k1 j l' _ hp τ s' u' ?_
        rw [z, tD_not0]
        exact hG.pre ag hcu (by omega)
      · have hj := (hprg i0 l hi hl).1 j l' _ hp
        have h4 := hG.2.2.2.1
        have h0 := hbt z
        refine s_step (kd := 2) (x := 0) hG.2.1.2.2.1 (by omega) (fun τ2 a2 e2 => ⟨Or.inr rfl, k1 j l' _ hp τ2 (s' + 1) u' ?_⟩)
        rw [z]
        exact PG.not ag hcu hG hsi h0 a2 e2
    have bad : ∀ τ, post 0 τ → w_Pars_plain_j72 T rec cf post τ (bl bt) 0 := by
      intro τ hp
      unfold w_Pars_plain_j72
      exact ⟨fun _ => ⟨Or.inl rfl, hp⟩, fun z => absurd rfl z⟩
    unfold w_Pars_plain_j46
    refine s_isSign (n := 40) hPu.1 (by decide) (br0 (fun z => ?_) (fun z => ?_))
    · have hz : ¬ tC b sz i' = 140 := fun w => of_decide_eq_false z (w.trans (by decide))
      have hp : pPos (tC b sz) p br i' l = pCmp (tC b sz) p i' l := by unfold pPos; rw [if_neg hz]
      rw [hp] at k0' fin
      exact hcf υ i' l s u _ hPu hi' hl (fun e h3 τ a q8 q4 => bad τ (k0' e h3 τ a q8 q4)) fin
    · have hz : tC b sz i' = 140 := (of_decide_eq_true z).trans (by decide)
      have hp : pPos (tC b sz) p br i' l = pBr (tC b sz) 141 br i' l := by unfold pPos; rw [if_pos hz]
      rw [hp] at k0' fin
      exact hb υ i' l s u _ hPu (lt_of_c hc (by rw [hz]; decide)) hl (fun e h3 τ a q8 q4 => bad τ (k0' e h3 τ a q8 q4)) fin
  unfold w_Pars_plain_b4
  rw [show (400 : Int32) ≤ nI t ↔ 400 ≤ t from nI_leI (a := 400) (b := t) (by decide) (by omega)]
  refine ⟨fun z => out ?_, fun z => s_isWord (w := 1) (k := 7) (by decide) rfl hPu.1 (br0 (fun z2 => out (fun w => of_decide_eq_false z2 (w.trans (by decide)))) (fun z2 => ?_))⟩
  · rw [hc i' (by omega)]; decide
  · have h7 : tC b sz i' = 7 := (of_decide_eq_true z2).trans (by decide)
    rw [if_pos h7] at hq
    have hlt : i' < N := lt_of_c hc (by rw [h7]; decide)
    have next : ∀ bt', bt' = !bt → w_Pars_plain_j32 T rec cf (fun σ a2 a3 => K (σ, a2, a3)) post υ d (nI t) (bl bt') := by
      intro bt' hbt'
      unfold w_Pars_plain_j32
      refine s_adv hPu (fun τ1 a1 c1 hP1 => ?_)
      rw [nI_1]
      refine ih (N - (i' + 1)) _ (by omega) ⟨i' + 1, n, t + 1, bt', rfl, hlt, by omega, by omega, by omega, fun _ => by omega, rfl, rfl, ag.trans a1, hP1, fun k => by simp only []; rw [c1, hcu], ?_⟩
      rw [hq, hbt']
      cases bt <;> cases (pNots (tC b sz) n (i' + 1)).2 <;> rfl
    exact br1 (fun z3 => next false (by rw [z3]; rfl)) (fun z3 => next true (by rw [z3]; rfl))
/-- what may stand in brackets, so many deep -/
def brS (o : Bool) (c v : Nat → Int32) : Nat → Option (Nat → Nat → PR DS)
  | 0 => none
  | d + 1 => some (pSum o c v d)
def brT (o : Bool) (c v : Nat → Int32) : Nat → Option (Nat → Nat → PR DB)
  | 0 => none
  | d + 1 => some (pTest o c v d)
theorem pSum_br {c v : Nat → Int32} (d : Nat) : pSum o c v d = pSumB o c v (brS o c v d) := by cases d <;> rfl
theorem pTest_br {c v : Nat → Int32} (d : Nat) : pTest o c v d = pTestB c (pSum o c v d) (brT o c v d) := by cases d <;> rfl
theorem prgS_br {c v : Nat → Int32} (hc : ∀ k, N ≤ k → c k = 0) (d : Nat) : PrgO N (brS o c v d) := by
  cases d with
  | zero => intro p h; simp [brS] at h
  | succ d => intro p h; simp [brS] at h; rw [← h]; exact Prg_sum hc d
theorem prgT_br {c v : Nat → Int32} (hc : ∀ k, N ≤ k → c k = 0) (d : Nat) : PrgO N (brT o c v d) := by
  cases d with
  | zero => intro p h; simp [brT] at h
  | succ d => intro p h; simp [brT] at h; rw [← h]; exact Prg_test hc d
theorem pd_sumB {rec : DD → Int32 → Int32 → (Int32 → DD → Prop) → Prop} {d : Int32} {k : Nat} (hN : N ≤ 400) (hc : ∀ k, N ≤ k → tC b sz k = 0) (hb : BrP b sz N o (fun D => D) (fun σ post => rec σ d 0 post) 193 (brS o (tC b sz) (tV b sz) k)) : Pd b sz N o (fun D => D) (fun σ post => w_Pars_sum_o T (w_Pars_product_o T (w_Pars_part_o T rec)) σ d post) (pSum o (tC b sz) (tV b sz) k) := by
  rw [pSum_br]
  have p1 := Prg_part (o := o) (v := tV b sz) hc (prgS_br (o := o) (v := tV b sz) hc k)
  exact pd_sum (T := T) hN hc (Prg_seq hc (by decide) p1) (pd_prod (T := T) hN hc p1 (pd_part (T := T) hN hc hb))
theorem pd_testB {rec : DD → Int32 → Int32 → (Int32 → DD → Prop) → Prop} {d : Int32} {k : Nat} (hN : N ≤ 400) (hc : ∀ k, N ≤ k → tC b sz k = 0) (hb : BrP b sz N o (fun D => D) (fun σ post => rec σ d 0 post) 193 (brS o (tC b sz) (tV b sz) k)) (hb2 : BrP b sz N o tD (fun σ post => rec σ d 1 post) 141 (brT o (tC b sz) (tV b sz) k)) : Pd b sz N o tD (fun σ post => w_Pars_test_o T (w_Pars_both_o T (w_Pars_plain_o T rec (w_Pars_comparison_o T (w_Pars_sum_o T (w_Pars_product_o T (w_Pars_part_o T rec)))))) σ d post) (pTest o (tC b sz) (tV b sz) k) := by
  rw [pTest_br]
  have hs := pd_sumB (T := T) hN hc hb
  have ps := Prg_sum (o := o) (v := tV b sz) hc k
  have pp := Prg_plain hc ps (prgT_br (o := o) (v := tV b sz) hc k)
  have pl := pd_plain (T := T) hN hc (pd_cmp (T := T) hN hc ps hs) hb2 pp
  exact pd_test (T := T) hN hc (Prg_seq hc (by decide) pp) (pd_both (T := T) hN hc pp pl)
theorem pd_brD (hN : N ≤ 400) (hc : ∀ k, N ≤ k → tC b sz k = 0) : ∀ k n, k < n → k ≤ 8 → BrP b sz N o (fun D => D) (fun σ post => w_Pars_bracketed_d T n σ (nI (8 - k)) 0 post) 193 (brS o (tC b sz) (tV b sz) k) ∧ BrP b sz N o tD (fun σ post => w_Pars_bracketed_d T n σ (nI (8 - k)) 1 post) 141 (brT o (tC b sz) (tV b sz) k) := by
  intro k
  induction k with
  | zero =>
    intro n hn _
    cases n with
    | zero => omega
    | succ n => exact ⟨pd_brS (T := T) (d := 8) hN hc (Nat.le_refl _) (fun _ => rfl) (fun z => absurd rfl z), pd_brT (T := T) (d := 8) hN hc (Nat.le_refl _) (fun _ => rfl) (fun z => absurd rfl z)⟩
  | succ k ih =>
    intro n hn hk
    cases n with
    | zero => omega
    | succ n =>
      obtain ⟨h1, h2⟩ := ih n (by omega) (by omega)
      rw [show 8 - k = 8 - (k + 1) + 1 by omega] at h1 h2
      refine ⟨pd_brS (T := T) (d := 8 - (k + 1)) hN hc (by omega) (fun z => by omega) (fun _ => ⟨_, rfl, Prg_sum hc k, pd_sumB (T := T) hN hc h1⟩), pd_brT (T := T) (d := 8 - (k + 1)) hN hc (by omega) (fun z => by omega) (fun _ => ⟨_, rfl, Prg_test hc k, pd_testB (T := T) hN hc h1 h2⟩)⟩
theorem pd_sum8 (hN : N ≤ 400) (hc : ∀ k, N ≤ k → tC b sz k = 0) : Pd b sz N o (fun D => D) (fun σ post => w_Pars_sum T σ 0 post) (pSum o (tC b sz) (tV b sz) 8) := by
  have h := pd_brD (T := T) (o := o) hN hc 8 12 (by decide) (by decide)
  rw [show nI (8 - 8) = 0 from rfl] at h
  exact pd_sumB (T := T) hN hc h.1
theorem pd_test8 (hN : N ≤ 400) (hc : ∀ k, N ≤ k → tC b sz k = 0) : Pd b sz N o tD (fun σ post => w_Pars_test T σ 0 post) (pTest o (tC b sz) (tV b sz) 8) := by
  have h := pd_brD (T := T) (o := o) hN hc 8 12 (by decide) (by decide)
  rw [show nI (8 - 8) = 0 from rfl] at h
  exact pd_testB (T := T) hN hc h.1 h.2
end PX6
