/-! ===== the class's parser: sums, tests ===== -/
def BrP {α : Type} (b : Nat → Nat) (sz N : Nat) (o : Bool) (den : α → DS) (fn : DD → (Int32 → DD → Prop) → Prop) (close : Int32) (br : Option (Nat → Nat → PR α)) : Prop :=
  ∀ (σ : DD) (i l s u : Nat) (post : Int32 → DD → Prop), PC σ b sz o i l s u → i < N → l ≤ 50 →
    (∀ e, pBr (tC b sz) close br i l = .inl e → ∀ τ, AgX pdQ noL σ τ → gI τ 30 8 = nI (tP b sz e) → (∃ s', s' ≤ 400 ∧ gI τ 30 4 = nI s') → post 0 τ) →
    (∀ j l' D, pBr (tC b sz) close br i l = .inr (j, l', D) → ∀ τ s' u', PG σ τ b sz o i l s u j l' s' u' (den D) → post 1 τ) → fn σ post
section PX3
variable {σ : DD} {T : TXT} {b : Nat → Nat} {sz N i l s u : Nat} {o : Bool}
theorem s_isWord {w k : Nat} {post : Int32 → DD → Prop} (hw : w < 10) (hk : csS w = [k]) (hA : TA σ b sz i) (kk : post (bl (decide (tC b sz i = nI k))) σ) : w_Tape_isWord T w σ post := by
  unfold w_Tape_isWord
  refine s_indexAmong hw hA ?_
  rw [hk]
  show (¬ (if tC b sz i = nI k then nI 0 else -1) = 0 → post 0 σ) ∧ ((if tC b sz i = nI k then nI 0 else -1) = 0 → post 1 σ)
  by_cases c : tC b sz i = nI k
  · rw [if_pos c]; rw [decide_eq_true c] at kk; exact ⟨fun z => absurd rfl z, fun _ => kk⟩
  · rw [if_neg c]; rw [decide_eq_false c] at kk; exact ⟨fun _ => kk, fun z => absurd z (by decide)⟩
theorem pd_sum {pf : DD → Int32 → (Int32 → DD → Prop) → Prop} {p : Nat → Nat → PR DS} {d : Int32} (hN : N ≤ 400) (hc : ∀ k, N ≤ k → tC b sz k = 0) (prg : Prg N p) (hit : Pd b sz N o (fun D => D) (fun σ post => pf σ d post) p) : Pd b sz N o (fun D => D) (fun σ post => w_Pars_sum_o T pf σ d post) (pSeq opS (tC b sz) p) := by
  refine pd_seqS (T := T) (body := fun K post σ a2 a3 => w_Pars_sum_b8 T pf d K post σ a2 a3) hN hc prg (by decide) hit (fun K post σ a3 hp => ?_) (fun K post σ i l s u t ht hP h0 h1 => ?_) (fun σ post h => h)
  · unfold w_Pars_sum_b8
    exact ⟨fun _ => ⟨Or.inl rfl, hp⟩, fun _ => ⟨fun _ => ⟨Or.inl rfl, hp⟩, fun z => absurd rfl z⟩⟩
  · unfold w_Pars_sum_b8
    refine ⟨fun z => ?_, fun _ => ⟨fun z => absurd z (by decide), fun _ => s_isSign (n := 43) hP.1 (by decide) (br0 (fun z => ?_) (fun z => ?_))⟩⟩
    · rw [show (400 : Int32) = nI 400 from rfl, nI_leI (by decide) (by omega)] at z; omega
    · unfold w_Pars_sum_j37
      refine ⟨fun z => absurd rfl z, fun _ => s_isSign (n := 45) hP.1 (by decide) (br1 (fun z2 => ?_) (fun z2 => ?_))⟩
      · unfold w_Pars_sum_j60
        refine h1 (bin (fX 6)) 6 ?_ rfl (by omega)
        have e := of_decide_eq_true z2
        unfold opS; rw [e, if_pos (Or.inr (by decide)), ← fS_m]; rfl
      · refine h0 ?_
        have e1 := of_decide_eq_false z
        have e2 := of_decide_eq_false z2
        unfold opS; rw [if_neg (fun w => by rcases w with w | w; exact e1 (w.trans (by decide)); exact e2 (w.trans (by decide)))]
    · unfold w_Pars_sum_j37
      refine ⟨fun _ => ?_, fun z => absurd z (by decide)⟩
      unfold w_Pars_sum_j60
      refine h1 (bin (fX 5)) 5 ?_ rfl (by omega)
      have e := of_decide_eq_true z
      unfold opS; rw [e, if_pos (Or.inl (by decide)), ← fS_p]; rfl
theorem pd_prod {pf : DD → Int32 → (Int32 → DD → Prop) → Prop} {p : Nat → Nat → PR DS} {d : Int32} (hN : N ≤ 400) (hc : ∀ k, N ≤ k → tC b sz k = 0) (prg : Prg N p) (hit : Pd b sz N o (fun D => D) (fun σ post => pf σ d post) p) : Pd b sz N o (fun D => D) (fun σ post => w_Pars_product_o T pf σ d post) (pSeq opM (tC b sz) p) := by
  refine pd_seqS (T := T) (body := fun K post σ a2 a3 => w_Pars_product_b8 T pf d K post σ a2 a3) hN hc prg (by decide) hit (fun K post σ a3 hp => ?_) (fun K post σ i l s u t ht hP h0 h1 => ?_) (fun σ post h => h)
  · unfold w_Pars_product_b8
    exact ⟨fun _ => ⟨Or.inl rfl, hp⟩, fun _ => ⟨fun _ => ⟨Or.inl rfl, hp⟩, fun z => absurd rfl z⟩⟩
  · unfold w_Pars_product_b8 w_Pars_productSign
    refine ⟨fun z => ?_, fun _ => ⟨fun z => absurd z (by decide), fun _ => s_isSign (n := 42) hP.1 (by decide) (br0 (fun z => s_isSign (n := 47) hP.1 (by decide) (br0 (fun z2 => s_isSign (n := 37) hP.1 (by decide) (br0 (fun z3 => ?_) (fun z3 => ?_))) (fun z2 => ?_))) (fun z => ?_))⟩⟩
    · rw [show (400 : Int32) = nI 400 from rfl, nI_leI (by decide) (by omega)] at z; omega
    · refine ⟨fun z => absurd rfl z, fun _ => h0 ?_⟩
      have e1 := of_decide_eq_false z
      have e2 := of_decide_eq_false z2
      have e3 := of_decide_eq_false z3
      unfold opM; rw [if_neg (fun w => by rcases w with w | w | w; exact e1 (w.trans (by decide)); exact e2 (w.trans (by decide)); exact e3 (w.trans (by decide)))]
    · refine ⟨fun _ => h1 (bin (fX 9)) 9 ?_ rfl (by omega), fun z => absurd z (by decide)⟩
      have e := of_decide_eq_true z3
      unfold opM; rw [e, if_pos (Or.inr (Or.inr (by decide))), ← fM_r]; rfl
    · refine ⟨fun _ => h1 (bin (fX 8)) 8 ?_ rfl (by omega), fun z => absurd z (by decide)⟩
      have e := of_decide_eq_true z2
      unfold opM; rw [e, if_pos (Or.inr (Or.inl (by decide))), ← fM_d]; rfl
    · refine ⟨fun _ => h1 (bin (fX 7)) 7 ?_ rfl (by omega), fun z => absurd z (by decide)⟩
      have e := of_decide_eq_true z
      unfold opM; rw [e, if_pos (Or.inl (by decide)), ← fM_t]; rfl
theorem pd_both {pf : DD → Int32 → (Int32 → DD → Prop) → Prop} {p : Nat → Nat → PR DB} {d : Int32} (hN : N ≤ 400) (hc : ∀ k, N ≤ k → tC b sz k = 0) (prg : Prg N p) (hit : Pd b sz N o tD (fun σ post => pf σ d post) p) : Pd b sz N o tD (fun σ post => w_Pars_both_o T pf σ d post) (pSeq opA (tC b sz) p) := by
  refine pd_seqT (T := T) (body := fun K post σ a2 a3 => w_Pars_both_b8 T pf d K post σ a2 a3) hN hc prg (by decide) hit (fun K post σ a3 hp => ?_) (fun K post σ i l s u t ht hP h0 h1 => ?_) (fun σ post h => h)
  · unfold w_Pars_both_b8
    exact ⟨fun _ => ⟨Or.inl rfl, hp⟩, fun _ => ⟨fun _ => ⟨Or.inl rfl, hp⟩, fun z => absurd rfl z⟩⟩
  · unfold w_Pars_both_b8
    refine ⟨fun z => ?_, fun _ => ⟨fun z => absurd z (by decide), fun _ => s_isWord (w := 2) (k := 6) (by decide) rfl hP.1 (br0 (fun z => ⟨Or.inr rfl, h0 ?_⟩) (fun z => h1 andD 3 ?_ (Or.inr ⟨rfl, rfl⟩)))⟩⟩
    · rw [show (400 : Int32) = nI 400 from rfl, nI_leI (by decide) (by omega)] at z; omega
    · have e := of_decide_eq_false z
      unfold opA; rw [if_neg (fun w => e (w.trans (by decide)))]
    · have e := of_decide_eq_true z
      unfold opA; rw [if_pos (e.trans (by decide))]
theorem pd_test {pf : DD → Int32 → (Int32 → DD → Prop) → Prop} {p : Nat → Nat → PR DB} {d : Int32} (hN : N ≤ 400) (hc : ∀ k, N ≤ k → tC b sz k = 0) (prg : Prg N p) (hit : Pd b sz N o tD (fun σ post => pf σ d post) p) : Pd b sz N o tD (fun σ post => w_Pars_test_o T pf σ d post) (pSeq opO (tC b sz) p) := by
  refine pd_seqT (T := T) (body := fun K post σ a2 a3 => w_Pars_test_b8 T pf d K post σ a2 a3) hN hc prg (by decide) hit (fun K post σ a3 hp => ?_) (fun K post σ i l s u t ht hP h0 h1 => ?_) (fun σ post h => h)
  · unfold w_Pars_test_b8
    exact ⟨fun _ => ⟨Or.inl rfl, hp⟩, fun _ => ⟨fun _ => ⟨Or.inl rfl, hp⟩, fun z => absurd rfl z⟩⟩
  · unfold w_Pars_test_b8
    refine ⟨fun z => ?_, fun _ => ⟨fun z => absurd z (by decide), fun _ => s_isWord (w := 3) (k := 5) (by decide) rfl hP.1 (br0 (fun z => ⟨Or.inr rfl, h0 ?_⟩) (fun z => h1 orD 4 ?_ (Or.inl ⟨rfl, rfl⟩)))⟩⟩
    · rw [show (400 : Int32) = nI 400 from rfl, nI_leI (by decide) (by omega)] at z; omega
    · have e := of_decide_eq_false z
      unfold opO; rw [if_neg (fun w => e (w.trans (by decide)))]
    · have e := of_decide_eq_true z
      unfold opO; rw [if_pos (e.trans (by decide))]
/-- a word, a number is laid -/
theorem s_leafW {τ1 : DD} {j w : Nat} {post : Int32 → DD → Prop} (h1 : PC τ1 b sz o j (l + 1) s u) (a1 : AgX pdS noL σ τ1) (c1 : ∀ k, gI τ1 32 k = gI σ 32 k) (hs : s ≤ i) (hij : i < j) (hj : j ≤ N) (hN : N ≤ 400) (hw : w < wW o) (k : ∀ τ, PG σ τ b sz o i l s u j (l + 1) (s + 1) (u ||| 2 ^ w) (fun e => some (e w)) → post 1 τ) : w_Pars_wordStep T τ1 (nI w) (fun r σ => bz r ∧ post r σ) := by
  have hw16 : w < 16 := by unfold wW at hw; cases o <;> simp at hw <;> omega
  unfold w_Pars_wordStep
  intro σ1 e1
  rw [h1.2.2.2.1, jshl_1 (by omega), nI_or] at e1
  have b1 : AgX (fun o k => o = 30 ∧ k = 7) noL τ1 σ1 := by rw [e1]; exact AgX.put ⟨rfl, rfl⟩
  refine s_step (kd := 1) (x := w) (s := s) (by rw [b1.i _ _ (by omega)]; exact h1.2.2.1) (by omega) (fun τ a e => ⟨Or.inr rfl, k τ ?_⟩)
  have b2 : AgX (fun o k => o = 32 ∨ (o = 30 ∧ k = 4)) noL σ1 τ := by rw [e]; exact (AgX.put (by omega)).set (by omega)
  have en := enc (x := w) (k := 1) (by omega) (by decide)
  have cs : gI τ 32 s = jshl (nI w) 4 ||| nI 1 := by rw [e, gI_sI, if_neg (by omega), gI_same]
  have ulo : u ||| 2 ^ w < 2 ^ 16 := Nat.or_lt_two_pow h1.2.2.2.2.1 (Nat.pow_lt_pow_right (by decide) hw16)
  refine ⟨(a1.trans (b1.mono (fun o k w => by unfold pdS; omega) (fun _ w => w))).trans a, ⟨(h1.1.ag b1 (by omega) (by omega)).ag b2 (by omega) (by omega), ?_, ?_, ?_, ulo, by omega, ?_⟩, by omega, by omega, by omega, fun k hk => ?_, fun j hj => ?_, ?_, ?_⟩
  · rw [b2.i _ _ (by omega), b1.i _ _ (by omega)]; exact h1.2.1
  · rw [e, gI_same]
  · rw [b2.i _ _ (by omega), e1, gI_same]
  · rw [b2.i _ _ (by omega), b1.i _ _ (by omega)]; exact h1.2.2.2.2.2.2
  · rw [e, gI_sI, if_neg (by omega), gI_sI, if_neg (by omega), b1.i _ _ (by omega)]; exact c1 k
  · rw [Nat.testBit_or, hj, Bool.true_or]
  · intro e e' he
    show some (e w) = some (e' w)
    rw [he w (by rw [Nat.testBit_or, Nat.testBit_two_pow_self, Bool.or_true])]
  · rw [show l + 1 - l = 1 by omega]
    exact seg_leaf (Or.inr ⟨by rw [cs]; exact en.1, w, hw, by rw [cs]; exact en.2, fun _ => rfl⟩)
theorem s_leafN {τ1 : DD} {j x : Nat} {post : Int32 → DD → Prop} (h1 : PC τ1 b sz o j (l + 1) s u) (a1 : AgX pdS noL σ τ1) (c1 : ∀ k, gI τ1 32 k = gI σ 32 k) (hs : s ≤ i) (hij : i < j) (hj : j ≤ N) (hN : N ≤ 400) (hx : x ≤ 1000) (k : ∀ τ, PG σ τ b sz o i l s u j (l + 1) (s + 1) u (fun _ => some (i2l (nI x))) → post 1 τ) : w_Pars_step T τ1 0 (nI x) (fun _ τ => post 1 τ) := by
  refine s_step (kd := 0) (x := x) (s := s) h1.2.2.1 (by omega) (fun τ a e => k τ ?_)
  have b2 : AgX (fun o k => o = 32 ∨ (o = 30 ∧ k = 4)) noL τ1 τ := by rw [e]; exact (AgX.put (by omega)).set (by omega)
  have en := enc (x := x) (k := 0) hx (by decide)
  have cs : gI τ 32 s = jshl (nI x) 4 ||| nI 0 := by rw [e, gI_sI, if_neg (by omega), gI_same]
  refine ⟨a1.trans a, ⟨h1.1.ag b2 (by omega) (by omega), ?_, ?_, ?_, h1.2.2.2.2.1, by omega, ?_⟩, by omega, by omega, by omega, fun k hk => ?_, fun j hj => hj, fun _ _ _ => rfl, ?_⟩
  · rw [b2.i _ _ (by omega)]; exact h1.2.1
  · rw [e, gI_same]
  · rw [b2.i _ _ (by omega)]; exact h1.2.2.2.1
  · rw [b2.i _ _ (by omega)]; exact h1.2.2.2.2.2.2
  · rw [e, gI_sI, if_neg (by omega), gI_sI, if_neg (by omega)]; exact c1 k
  · rw [show l + 1 - l = 1 by omega]
    exact seg_leaf (Or.inl ⟨by rw [cs]; exact en.1, fun _ => by rw [cs, en.2]⟩)
end PX3
