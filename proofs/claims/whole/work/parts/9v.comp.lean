/-! ===== the class's parser: a whole text ===== -/
def cp_j103 (p0 p1 : DD → Prop) (σ : DD) (a2 : Int32) : Prop := (¬ a2 = 0 → p1 σ) ∧ (a2 = 0 → p0 σ)
def cp_j84 (T : TXT) (p0 p1 : DD → Prop) (σ : DD) (a2 : Int32) : Prop := (a2 = 0 → cp_j103 p0 p1 σ a2) ∧ (¬ a2 = 0 → w_Tape_isAtEnd T σ (fun r1 σ2 => (¬ r1 = 0 → cp_j103 p0 p1 σ2 a2) ∧ (r1 = 0 → w_Pars_halt T σ2 (fun r4 σ5 => cp_j103 p0 p1 σ5 r4))))
def cp_b44 (T : TXT) (p0 p1 : DD → Prop) (K44 : DD → Int32 → Int32 → Prop) (σ : DD) (a2 a3 : Int32) : Prop := (12 ≤ a3 → cp_j84 T p0 p1 σ a2) ∧ (¬ 12 ≤ a3 → (a2 = 0 → cp_j84 T p0 p1 σ a2) ∧ (¬ a2 = 0 → w_Tape_isSign T σ 59 (fun r3 σ4 => (r3 = 0 → cp_j84 T p0 p1 σ4 a2) ∧ (¬ r3 = 0 → w_Tape_advance T σ4 (fun σ7 => w_Pars_clause T σ7 (fun r8 σ9 => K44 σ9 r8 (a3 + 1)))))))
def cp_l44 (T : TXT) (p0 p1 : DD → Prop) (σ : DD) (a2 a3 : Int32) : Prop := Loop (fun K x => cp_b44 T p0 p1 (fun σ a2 a3 => K (σ, a2, a3)) x.1 x.2.1 x.2.2) (σ, a2, a3)
/-- compile, up to where it makes the text (p1) or gives none (p0) -/
def cp_all (T : TXT) (σ : DD) (a1 : Int32) (p0 p1 : DD → Prop) : Prop := w_Tape_rewind T (sI (sI (sI (sI (sI (sI σ 30 3 a1) 30 4 0) 30 5 0) 30 6 0) 30 7 0) 30 8 (-1)) (fun σ14 => w_Pars_clause T σ14 (fun r15 σ16 => cp_l44 T p0 p1 σ16 r15 0))
def cpQ (o k : Nat) : Prop := (o = 20 ∧ (k = 2 ∨ k = 3 ∨ k = 4)) ∨ o = 32 ∨ o = 33 ∨ (o = 30 ∧ 3 ≤ k ∧ k ≤ 8)
theorem ClOK.cg {hd hd' cd cd' : Nat → Int32} {W c lo hi hi' : Nat} {x : CLS} (h : ClOK hd cd W c lo hi x) (hh : hi ≤ hi') (e1 : ∀ k, k < 6 * c + 6 → hd' k = hd k) (e2 : ∀ k, k < hi → cd' k = cd k) (lo' : Nat) (hl : lo' ≤ lo) : ClOK hd' cd' W c lo' hi' x := by
  obtain ⟨p0, p1, p2, p3, h0, h1, h2, h3, q0, q1, q2, q3, q4, h4, h5, s0, s1, s2⟩ := h
  refine ⟨p0, p1, p2, p3, ?_, ?_, ?_, ?_, by omega, q1, q2, q3, by omega, ?_, ?_, ?_, ?_, ?_⟩
  · rw [e1 _ (by omega)]; exact h0
  · rw [e1 _ (by omega)]; exact h1
  · rw [e1 _ (by omega)]; exact h2
  · rw [e1 _ (by omega)]; exact h3
  · rw [e1 _ (by omega)]; exact h4
  · rw [e1 _ (by omega)]; exact h5
  · exact s0.cg (fun k k1 k2 => e2 k (by omega))
  · exact s1.cg (fun k k1 k2 => e2 k (by omega))
  · exact s2.cg (fun k k1 k2 => e2 k (by omega))
theorem ClP.mo {u u' : Nat} {x : CLS} (h : ClP u x) (hu : ∀ j, u.testBit j = true → u'.testBit j = true) : ClP u' x := ⟨h.1.mo hu, h.2.1.mo hu, h.2.2.mo hu⟩
section CP
variable {σ τ : DD} {T : TXT} {b : Nat → Nat} {sz N : Nat} {o : Bool}
/-- so many clauses stand -/
def CS9 (σ τ : DD) (b : Nat → Nat) (sz : Nat) (o : Bool) (i l s u : Nat) (xs : List CLS) : Prop := AgX cpQ noL σ τ ∧ PC τ b sz o i l s u ∧ gI τ 30 5 = nI xs.length ∧ gI τ 30 8 = -1 ∧ (∀ c x, xs[c]? = some x → ClOK (gI τ 33) (gI τ 32) (wW o) c 0 s x) ∧ ∀ x, x ∈ xs → ClP u x
theorem clQ_cp {n o k : Nat} (h : clQ n o k) : cpQ o k := by unfold clQ pdQ at h; unfold cpQ; omega
theorem clS_cp {n o k : Nat} (h : clS n o k) : cpQ o k := by unfold clS pdS at h; unfold cpQ; omega
theorem get_app {xs : List CLS} {x y : CLS} {c : Nat} (h : (xs ++ [x])[c]? = some y) : (c < xs.length ∧ xs[c]? = some y) ∨ (c = xs.length ∧ y = x) := by
  by_cases c1 : c < xs.length
  · rw [List.getElem?_append_left c1] at h
    exact Or.inl ⟨c1, h⟩
  · rw [List.getElem?_append_right (by omega)] at h
    by_cases c2 : c - xs.length = 0
    · rw [c2] at h
      have h' : some x = some y := h
      cases h'
      exact Or.inr ⟨by omega, rfl⟩
    · rw [List.getElem?_eq_none (by simp; omega)] at h; cases h
/-- one clause more -/
theorem cp_cl {i l s u : Nat} {xs : List CLS} {post : Int32 → DD → Prop} (hN : N ≤ 400) (hc : ∀ k, N ≤ k → tC b sz k = 0) (hn : xs.length < 12) (h : CS9 σ τ b sz o i l s u xs) (hi : i ≤ N) (hl : l ≤ 50)
    (k0 : ∀ e, pOne o (tC b sz) (tV b sz) i l = .inl e → ∀ υ, AgX cpQ noL σ υ → gI υ 30 8 = nI (tP b sz e) → post 0 υ)
    (k1 : ∀ j l' x, pOne o (tC b sz) (tV b sz) i l = .inr (j, l', x) → i ≤ j → j ≤ N → l' ≤ 50 → ∀ υ s' u', CS9 σ υ b sz o j l' s' u' (xs ++ [x]) → post 1 υ) : w_Pars_clause T τ post := by
  obtain ⟨h1, h2, h3, h4, h5, h6⟩ := h
  refine pd_clause (n := xs.length) hN hn hc h2 h3 hi hl ⟨fun e he υ a q8 => k0 e he υ (h1.trans (a.mono (fun o k w => clQ_cp w) (fun _ w => w))) q8, fun j l' x hx q1 q2 q3 υ s' u' a hP h5' hss hcd hm hcp hok => k1 j l' x hx q1 q2 q3 υ s' u' ⟨h1.trans (a.mono (fun o k w => clS_cp w) (fun _ w => w)), hP, ?_, ?_, fun c y hy => ?_, fun y hy => ?_⟩⟩
  · rw [h5', List.length_append]; rfl
  · rw [a.i _ _ (by unfold clS pdS; omega)]; exact h4
  · rcases get_app hy with ⟨hc1, hy1⟩ | ⟨hc1, hy1⟩
    · exact (h5 c y hy1).cg hss (fun k hk => a.i _ _ (by unfold clS pdS; omega)) (fun k hk => hcd k hk) 0 (Nat.le_refl _)
    · rw [hc1, hy1]
      exact hok.cg (Nat.le_refl _) (fun _ _ => rfl) (fun _ _ => rfl) 0 (Nat.zero_le _)
  · rcases List.mem_append.1 hy with q | q
    · exact (h6 y q).mo hm
    · rw [List.mem_singleton.1 q]; exact hcp
theorem s_compile {p0 p1 : DD → Prop} (hB : TB σ b sz) (hN : N ≤ sz) (hN1 : ∀ i, i < N → tP b sz i < sz) (hN2 : ∀ i, N ≤ i → tP b sz i = sz)
    (k0 : ∀ e, pAll o (tC b sz) (tV b sz) N = .inl e → ∀ τ, AgX cpQ noL σ τ → gI τ 30 8 = nI (tP b sz e) → p0 τ)
    (k1 : ∀ cl, pAll o (tC b sz) (tV b sz) N = .inr cl → cl.length ≤ 12 → ∀ τ i l s u, CS9 σ τ b sz o i l s u cl → i ≤ N → p1 τ) : cp_all T σ (bl (!o)) p0 p1 := by
  have hsz := hB.1
  have hc := tC_0 (b := b) hN2
  have hN4 : N ≤ 400 := by omega
  unfold cp_all
  have b6 : AgX (fun o k => o = 30 ∧ 3 ≤ k ∧ k ≤ 8) noL σ (sI (sI (sI (sI (sI (sI σ 30 3 (bl (!o))) 30 4 0) 30 5 0) 30 6 0) 30 7 0) 30 8 (-1)) := (((((AgX.put (by omega)).set (by omega)).set (by omega)).set (by omega)).set (by omega)).set (by omega)
  generalize hσ6 : sI (sI (sI (sI (sI (sI σ 30 3 (bl (!o))) 30 4 0) 30 5 0) 30 6 0) 30 7 0) 30 8 (-1) = σ6 at b6
  have g : gI σ6 30 3 = bl (!o) ∧ gI σ6 30 4 = 0 ∧ gI σ6 30 5 = 0 ∧ gI σ6 30 6 = 0 ∧ gI σ6 30 7 = 0 ∧ gI σ6 30 8 = -1 := by
    rw [← hσ6]
    refine ⟨?_, ?_, ?_, ?_, ?_, gI_same⟩
    · rw [gI_sI, if_neg (by omega), gI_sI, if_neg (by omega), gI_sI, if_neg (by omega), gI_sI, if_neg (by omega), gI_sI, if_neg (by omega), gI_same]
    · rw [gI_sI, if_neg (by omega), gI_sI, if_neg (by omega), gI_sI, if_neg (by omega), gI_sI, if_neg (by omega), gI_same]
    · rw [gI_sI, if_neg (by omega), gI_sI, if_neg (by omega), gI_sI, if_neg (by omega), gI_same]
    · rw [gI_sI, if_neg (by omega), gI_sI, if_neg (by omega), gI_same]
    · rw [gI_sI, if_neg (by omega), gI_same]
  refine s_rewind (hB.ag b6 (by omega) (by omega)) (fun σ7 a7 hA7 => ?_)
  have h0 : CS9 σ σ7 b sz o 0 0 0 0 [] := by
    refine ⟨(b6.mono (fun o k w => Or.inr (Or.inr (Or.inr w))) (fun _ w => w)).trans (a7.mono (fun o k w => Or.inl w) (fun _ w => w)), ⟨hA7, ?_, ?_, ?_, by decide, Nat.le_refl _, ?_⟩, ?_, ?_, fun c x hx => by simp at hx, fun x hx => by cases hx⟩
    · rw [a7.i _ _ (by unfold tpQ; omega)]; exact g.2.2.2.1
    · rw [a7.i _ _ (by unfold tpQ; omega)]; exact g.2.1
    · rw [a7.i _ _ (by unfold tpQ; omega)]; exact g.2.2.2.2.1
    · rw [a7.i _ _ (by unfold tpQ; omega)]; exact g.1
    · rw [a7.i _ _ (by unfold tpQ; omega)]; exact g.2.2.1
    · rw [a7.i _ _ (by unfold tpQ; omega)]; exact g.2.2.2.2.2
  generalize hR : pAll o (tC b sz) (tV b sz) N = R at k0 k1
  have bad : ∀ τ e, AgX cpQ noL σ τ → gI τ 30 8 = nI (tP b sz e) → R = .inl e → cp_j84 T p0 p1 τ 0 := by
    intro τ e a q8 hRe
    unfold cp_j84 cp_j103
    exact ⟨fun _ => ⟨fun z => absurd rfl z, fun _ => k0 e hRe τ a q8⟩, fun z => absurd rfl z⟩
  refine cp_cl (xs := []) hN4 hc (by decide) h0 (Nat.zero_le _) (by decide) (fun e he υ a q8 => ?_) (fun j l' x hx q1 q2 q3 υ s' u' hS => ?_)
  · unfold cp_l44
    refine Loop.stop (fun K => ?_)
    have hRe : R = .inl e := by rw [← hR]; unfold pAll; rw [he]
    unfold cp_b44
    exact ⟨fun _ => bad υ e a q8 hRe, fun _ => ⟨fun _ => bad υ e a q8 hRe, fun z => absurd rfl z⟩⟩
  unfold cp_l44
  refine LoopN (fun m z => (m = 0 ∧ z.2.1 = 0 ∧ ∃ e, AgX cpQ noL σ z.1 ∧ gI z.1 30 8 = nI (tP b sz e) ∧ R = .inl e) ∨ ∃ n i l s u xs, m = n + 1 ∧ xs.length + n = 12 ∧ 1 ≤ xs.length ∧ z.2.1 = 1 ∧ z.2.2 = nI (xs.length - 1) ∧ i ≤ N ∧ l ≤ 50 ∧ CS9 σ z.1 b sz o i l s u xs ∧ R = (match pMore o (tC b sz) (tV b sz) N n i l with | .inl e => .inl e | .inr r => .inr (xs ++ r))) ?_ (n := 12) (Or.inr ⟨11, j, l', s', u', [x], rfl, rfl, Nat.le_refl _, rfl, rfl, q2, q3, hS, ?_⟩)
  rotate_left
  · rw [← hR]; unfold pAll; rw [hx]; simp only []
    cases pMore o (tC b sz) (tV b sz) N 11 j l' <;> rfl
  clear hS hx q1 q2 q3 hR h0
  rintro m ⟨υ, a2, a3⟩ K hh ih
  simp only [] at hh ⊢
  unfold cp_b44
  rcases hh with ⟨hm, e2, e, a, q8, hRe⟩ | ⟨n, i, l, s, u, xs, hm, hlen, hx1, e2, e3, hi, hl, hS, hRe⟩
  · subst e2
    exact ⟨fun _ => bad υ e a q8 hRe, fun _ => ⟨fun _ => bad υ e a q8 hRe, fun z => absurd rfl z⟩⟩
  subst e2; subst e3
  have hPu := hS.2.1
  rw [show (12 : Int32) ≤ nI (xs.length - 1) ↔ 12 ≤ xs.length - 1 from nI_leI (a := 12) (by decide) (by omega)]
  refine ⟨fun z => by omega, fun _ => ⟨fun z => absurd z (by decide), fun _ => s_isSign (n := 59) hPu.1 (by decide) (br0 (fun z => ?_) (fun z => ?_))⟩⟩
  · have hz : ¬ tC b sz i = 159 := fun w => of_decide_eq_false z (w.trans (by decide))
    have rest : pMore o (tC b sz) (tV b sz) N n i l = if i < N then .inl i else .inr [] := by
      cases n with
      | zero => unfold pMore; rw [if_neg hz]
      | succ n => rw [pMore, if_neg hz]
    rw [rest] at hRe
    unfold cp_j84
    refine ⟨fun z => absurd z (by decide), fun _ => s_isAtEnd hPu.1 (br1 (fun z2 => ?_) (fun z2 => ?_))⟩
    · have hge : N ≤ i := Nat.le_of_not_lt (fun w => by have h1 := hN1 i w; have h2 := of_decide_eq_true z2; omega)
      rw [if_neg (by omega)] at hRe
      simp only [List.append_nil] at hRe
      unfold cp_j103
      exact ⟨fun _ => k1 xs hRe (by omega) υ i l s u hS hi, fun z => absurd z (by decide)⟩
    · have hlt : i < N := Nat.lt_of_not_le (fun w => by have h1 := hN2 i w; have h2 := of_decide_eq_false z2; omega)
      rw [if_pos hlt] at hRe
      unfold w_Pars_halt
      intro σ1 e1
      rw [hPu.1.2.1] at e1
      unfold cp_j103
      refine ⟨fun z => absurd rfl z, fun _ => k0 i hRe σ1 ?_ ?_⟩
      · rw [e1]; exact hS.1.set (by unfold cpQ; omega)
      · rw [e1, gI_same]
  · have hz : tC b sz i = 159 := (of_decide_eq_true z).trans (by decide)
    have hlt : i < N := lt_of_c hc (by rw [hz]; decide)
    refine s_adv hPu (fun τ1 a1 c1 hP1 => ?_)
    have hS1 : CS9 σ τ1 b sz o (i + 1) l s u xs := by
      refine ⟨hS.1.trans (a1.mono (fun o k w => by unfold pdS at w; unfold cpQ; omega) (fun _ w => w)), hP1, ?_, ?_, fun c y hy => ?_, hS.2.2.2.2.2⟩
      · rw [a1.i _ _ (by unfold pdS; omega)]; exact hS.2.2.1
      · rw [a1.i _ _ (by unfold pdS; omega)]; exact hS.2.2.2.1
      · exact (hS.2.2.2.2.1 c y hy).cg (Nat.le_refl _) (fun k _ => h_pd a1) (fun k _ => c1 k) 0 (Nat.le_refl _)
    rw [nI_1, show xs.length - 1 + 1 = xs.length by omega]
    cases n with
    | zero =>
      have h12 : xs.length = 12 := by omega
      refine pd_clause12 hN4 hP1 (by rw [hS1.2.2.1, h12]) hlt (fun τ2 a2 q8 => ?_)
      refine ih 0 _ (by omega) (Or.inl ⟨rfl, rfl, i + 1, hS1.1.trans (a2.mono (fun o k w => by unfold pdQ at w; unfold cpQ; omega) (fun _ w => w)), q8, ?_⟩)
      rw [hRe]; unfold pMore; rw [if_pos hz]
    | succ n =>
      refine cp_cl hN4 hc (by omega) hS1 hlt hl (fun e he υ2 a2 q8 => ?_) (fun j l' x hx q1 q2 q3 υ2 s' u' hS2 => ?_)
      · refine ih 0 _ (by omega) (Or.inl ⟨rfl, rfl, e, a2, q8, ?_⟩)
        rw [hRe, pMore, if_pos hz, he]
      · refine ih (n + 1) _ (by omega) (Or.inr ⟨n, j, l', s', u', xs ++ [x], rfl, by rw [List.length_append]; simp; omega, by rw [List.length_append]; simp, rfl, by simp only []; rw [List.length_append]; rfl, q2, q3, hS2, ?_⟩)
        rw [hRe, pMore, if_pos hz, hx]
        simp only []
        cases pMore o (tC b sz) (tV b sz) N n j l' with
        | inl e => rfl
        | inr r => simp only []; rw [List.append_assoc]; rfl
end CP
