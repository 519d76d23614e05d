/-! ===== the class's parser: what it makes says what was read ===== -/
def pdQ (o k : Nat) : Prop := (o = 20 ∧ (k = 2 ∨ k = 3 ∨ k = 4)) ∨ o = 32 ∨ (o = 30 ∧ (k = 4 ∨ k = 6 ∨ k = 7 ∨ k = 8))
def pdS (o k : Nat) : Prop := (o = 20 ∧ (k = 2 ∨ k = 3 ∨ k = 4)) ∨ o = 32 ∨ (o = 30 ∧ (k = 4 ∨ k = 6 ∨ k = 7))
abbrev noL : Nat → Prop := fun _ => False
def Dep (u : Nat) (D : DS) : Prop := ∀ e e' : Nat → Int64, (∀ j, u.testBit j = true → e j = e' j) → D e = D e'
def wW (o : Bool) : Nat := if o then 16 else 8
def PC (σ : DD) (b : Nat → Nat) (sz : Nat) (o : Bool) (i l s u : Nat) : Prop := TA σ b sz i ∧ gI σ 30 6 = nI l ∧ gI σ 30 4 = nI s ∧ gI σ 30 7 = nI u ∧ u < 2 ^ 16 ∧ s ≤ i ∧ gI σ 30 3 = bl (!o)
def PG (σ τ : DD) (b : Nat → Nat) (sz : Nat) (o : Bool) (i0 l0 s0 u0 i l s u : Nat) (D : DS) : Prop := AgX pdS noL σ τ ∧ PC τ b sz o i l s u ∧ s0 < s ∧ s + i0 ≤ i + s0 ∧ l0 < l ∧ (∀ k, k < s0 → gI τ 32 k = gI σ 32 k) ∧ (∀ j, u0.testBit j = true → u.testBit j = true) ∧ Dep u D ∧ Seg (gI τ 32) s0 s (l - l0) (wW o) D
def Pd {α : Type} (b : Nat → Nat) (sz N : Nat) (o : Bool) (den : α → DS) (fn : DD → (Int32 → DD → Prop) → Prop) (p : Nat → Nat → PR α) : Prop :=
  ∀ (σ : DD) (i l s u : Nat) (post : Int32 → DD → Prop), PC σ b sz o i l s u → i ≤ N → l ≤ 50 →
    (∀ e, p i l = .inl e → ∀ τ, AgX pdQ noL σ τ → gI τ 30 8 = nI (tP b sz e) → (∃ s', s' ≤ 400 ∧ gI τ 30 4 = nI s') → post 0 τ) →
    (∀ j l' D, p i l = .inr (j, l', D) → ∀ τ s' u', PG σ τ b sz o i l s u j l' s' u' (den D) → post 1 τ) → fn σ post
theorem Seg.cg {cd cd' : Nat → Int32} {a b n W : Nat} {D : DS} (h : Seg cd a b n W D) (hc : ∀ k, a ≤ k → k < b → cd' k = cd k) : Seg cd' a b n W D := by
  refine ⟨h.1, fun T o m1 m2 a3 n3 a4 to σ e dep post hv hd k0 k1 => h.2 T o m1 m2 a3 n3 a4 to σ e dep post ⟨hv.1, hv.2.1, hv.2.2.1, fun k h1 h2 => ?_, hv.2.2.2.2⟩ hd k0 k1⟩
  rw [hv.2.2.2.1 k h1 h2]; exact hc k h1 h2
theorem Dep.mo {u u' : Nat} {D : DS} (h : Dep u D) (hu : ∀ j, u.testBit j = true → u'.testBit j = true) : Dep u' D := fun e e' he => h e e' (fun j hj => he j (hu j hj))
theorem enc {x k : Nat} (hx : x ≤ 1000) (hk : k < 16) : (jshl (nI x) 4 ||| nI k) &&& 15 = nI k ∧ jshr (jshl (nI x) 4 ||| nI k) 4 = nI x := by
  have e1 : jshl (nI x) 4 = nI (x * 2 ^ 4) := jshl_n (k := 4) (by decide) (by omega)
  have e2 : x * 2 ^ 4 ||| k = x * 2 ^ 4 + k := by
    rw [Nat.mul_comm, Nat.two_pow_add_eq_or_of_lt (by omega)]
  rw [e1, nI_or, e2, show (15 : Int32) = nI 15 from rfl, nI_and, show (15 : Nat) = 2 ^ 4 - 1 from rfl, Nat.and_two_pow_sub_one_eq_mod]
  refine ⟨by congr 1; omega, ?_⟩
  rw [show jshr (nI (x * 2 ^ 4 + k)) 4 = nI ((x * 2 ^ 4 + k) / 2 ^ 4) from jshr_n (k := 4) (by decide) (by omega)]
  congr 1; omega
section PX
variable {σ τ υ : DD} {T : TXT} {b : Nat → Nat} {sz N i l s u i0 l0 s0 u0 : Nat} {o : Bool}
theorem PC.ag {P : Nat → Nat → Prop} {Q : Nat → Prop} (h : PC σ b sz o i l s u) (a : AgX P Q σ τ) (h0 : ∀ p, ¬ P 20 p) (h1 : ∀ p, ¬ P 21 p) (h3 : ¬ P 30 3) (h4 : ¬ P 30 4) (h6 : ¬ P 30 6) (h7 : ¬ P 30 7) : PC τ b sz o i l s u := by
  refine ⟨h.1.ag a h0 h1, ?_, ?_, ?_, h.2.2.2.2.1, h.2.2.2.2.2.1, ?_⟩
  · rw [a.i _ _ h6]; exact h.2.1
  · rw [a.i _ _ h4]; exact h.2.2.1
  · rw [a.i _ _ h7]; exact h.2.2.2.1
  · rw [a.i _ _ h3]; exact h.2.2.2.2.2.2
theorem PC.fwd (h : PC σ b sz o i l s u) (a : AgX tpQ noL σ τ) (hA : TA τ b sz (i + 1)) : PC τ b sz o (i + 1) l s u := by
  refine ⟨hA, ?_, ?_, ?_, h.2.2.2.2.1, by have := h.2.2.2.2.2.1; omega, ?_⟩
  · rw [a.i _ _ (by unfold tpQ; omega)]; exact h.2.1
  · rw [a.i _ _ (by unfold tpQ; omega)]; exact h.2.2.1
  · rw [a.i _ _ (by unfold tpQ; omega)]; exact h.2.2.2.1
  · rw [a.i _ _ (by unfold tpQ; omega)]; exact h.2.2.2.2.2.2
theorem AgX.q {σ τ : DD} (a : AgX pdS noL σ τ) : AgX pdQ noL σ τ := a.mono (fun o k w => by unfold pdS at w; unfold pdQ; omega) (fun _ w => w)
theorem tp_pd {σ τ : DD} (a : AgX tpQ noL σ τ) : AgX pdS noL σ τ := a.mono (fun o k w => Or.inl w) (fun _ w => w)
theorem s_adv {post : DD → Prop} (h : PC σ b sz o i l s u) (k : ∀ τ, AgX pdS noL σ τ → (∀ k, gI τ 32 k = gI σ 32 k) → PC τ b sz o (i + 1) l s u → post τ) : w_Tape_advance T σ post := s_advance h.1 (fun τ a hA => k τ (tp_pd a) (fun k => a.i _ _ (by unfold tpQ; omega)) (h.fwd a hA))
theorem s_halt {post : Int32 → DD → Prop} (h : PC σ b sz o i l s u) (hi : i ≤ N) (hN : N ≤ 400) (k : ∀ τ, AgX pdQ noL σ τ → gI τ 30 8 = nI (tP b sz i) → (∃ s', s' ≤ 400 ∧ gI τ 30 4 = nI s') → post 0 τ) : w_Pars_halt T σ (fun r σ => bz r ∧ post r σ) := by
  unfold w_Pars_halt
  intro σ1 e1
  rw [h.1.2.1] at e1
  subst e1
  refine ⟨Or.inl rfl, k _ (AgX.put (by unfold pdQ; omega)) gI_same ⟨s, by have := h.2.2.2.2.2.1; omega, ?_⟩⟩
  rw [gI_sI, if_neg (by omega)]; exact h.2.2.1
/-- a step is made -/
theorem s_step {post : Int32 → DD → Prop} {kd x : Nat} (hs : gI σ 30 4 = nI s) (hs4 : s < 400) (k : ∀ τ, AgX pdS noL σ τ → τ = sI (sI σ 32 s (jshl (nI x) 4 ||| nI kd)) 30 4 (nI (s + 1)) → post (nI s) τ) : w_Pars_step T σ (nI kd) (nI x) post := by
  unfold w_Pars_step
  rw [hs, show (400 : Int32) = nI 400 from rfl, nI_leI (by decide) (by omega), nI_clamp (by omega)]
  refine ⟨fun z => by omega, fun _ => ⟨vp_in_nI (by omega) (by decide), fun σ2 e2 σ5 e5 => ?_⟩⟩
  have g2 : gI σ2 30 4 = nI s := by rw [e2, gI_sI, if_neg (by omega)]; exact hs
  rw [g2, nI_1] at e5
  have g5 : gI σ5 30 4 = nI (s + 1) := by rw [e5, gI_same]
  rw [g5, show nI (s + 1) - 1 = nI s from nI_sub (c := 1) (by omega)]
  refine k σ5 ?_ (by rw [e5, e2])
  rw [e5, e2]
  exact (AgX.put (by unfold pdS; omega)).set (by unfold pdS; omega)
/-- .. or none more -/
theorem s_stepB {post : Int32 → DD → Prop} {kd x : Int32} (hs : ∃ s', s' ≤ 400 ∧ gI σ 30 4 = nI s') (k : ∀ r τ, AgX pdQ noL σ τ → gI τ 30 8 = gI σ 30 8 → (∃ s', s' ≤ 400 ∧ gI τ 30 4 = nI s') → post r τ) : w_Pars_step T σ kd x post := by
  obtain ⟨s, hs1, hs2⟩ := hs
  unfold w_Pars_step
  rw [hs2, show (400 : Int32) = nI 400 from rfl, nI_leI (by decide) (by omega), nI_clamp (by omega)]
  refine ⟨fun z => k _ σ (AgX.refl σ) rfl ⟨s, hs1, hs2⟩, fun z => ⟨vp_in_nI (by omega) (by decide), fun σ2 e2 σ5 e5 => ?_⟩⟩
  have g2 : gI σ2 30 4 = nI s := by rw [e2, gI_sI, if_neg (by omega)]; exact hs2
  rw [g2, nI_1] at e5
  refine k _ σ5 ?_ ?_ ⟨s + 1, by omega, by rw [e5, gI_same]⟩
  · rw [e5, e2]; exact (AgX.put (by unfold pdQ; omega)).set (by unfold pdQ; omega)
  · rw [e5, gI_sI, if_neg (by omega), e2, gI_sI, if_neg (by omega)]
/-- two parts, then the sign between them -/
theorem PG.two {A B : DS} {kd j l' s' u' : Nat} {τ1 τ2 τ3 τ4 : DD} (hN : N ≤ 400) (hj : j ≤ N) (h1 : PG σ τ1 b sz o i0 l0 s0 u0 i l s u A) (a2 : AgX pdS noL τ1 τ2) (c2 : ∀ k, gI τ2 32 k = gI τ1 32 k) (h3 : PG τ2 τ3 b sz o (i + 1) l s u j l' s' u' B) (a4 : AgX pdS noL τ3 τ4) (e4 : τ4 = sI (sI τ3 32 s' (jshl (nI 0) 4 ||| nI kd)) 30 4 (nI (s' + 1))) (hk : kd = 5 ∨ kd = 6 ∨ kd = 7 ∨ kd = 8 ∨ kd = 9 ∨ kd = 10 ∨ kd = 11 ∨ kd = 12) : PG σ τ4 b sz o i0 l0 s0 u0 j l' (s' + 1) u' (bin (fX (nI kd)) A B) := by
  obtain ⟨p1, p2, p3, p4, p5, p6, p7, p8, p9⟩ := h1
  obtain ⟨r1, r2, r3, r4, r5, r6, r7, r8, r9⟩ := h3
  have hsi := p2.2.2.2.2.2.1
  have c4 : ∀ k, ¬ k = s' → gI τ4 32 k = gI τ3 32 k := fun k hk => by rw [e4, gI_sI, if_neg (by omega), gI_sI, if_neg (by omega)]
  have c4s : gI τ4 32 s' = jshl (nI 0) 4 ||| nI kd := by rw [e4, gI_sI, if_neg (by omega), gI_same]
  have X : ∀ o k, ¬ (o = 32) → ¬ (o = 30 ∧ k = 4) → gI τ4 o k = gI τ3 o k := fun o k w1 w2 => by rw [e4, gI_sI, if_neg w2, gI_sI, if_neg (by omega)]
  have a43 : AgX (fun o k => o = 32 ∨ (o = 30 ∧ k = 4)) noL τ3 τ4 := by rw [e4]; exact (AgX.put (by omega)).set (by omega)
  refine ⟨((p1.trans a2).trans r1).trans a4, ⟨r2.1.ag a43 (by omega) (by omega), ?_, ?_, ?_, r2.2.2.2.2.1, by omega, ?_⟩, by omega, by omega, by omega, fun k hk => ?_, fun j hj => r7 j (p7 j hj), ?_, ?_⟩
  · rw [X _ _ (by omega) (by omega)]; exact r2.2.1
  · rw [e4, gI_same]
  · rw [X _ _ (by omega) (by omega)]; exact r2.2.2.2.1
  · rw [X _ _ (by omega) (by omega)]; exact r2.2.2.2.2.2.2
  · rw [c4 k (by omega), r6 k (by omega), c2, p6 k hk]
  · intro e e' he
    have q1 := p8.mo r7 e e' he
    have q2 := r8 e e' he
    unfold bin; rw [q1, q2]
  · have sA : Seg (gI τ4 32) s0 s (l - l0) (wW o) A := p9.cg (fun k k1 k2 => by rw [c4 k (by omega), r6 k k2, c2])
    have sB : Seg (gI τ4 32) s s' (l' - l) (wW o) B := r9.cg (fun k k1 k2 => by rw [c4 k (by omega)])
    have := seg_bin (s := nI kd) sA sB (by omega) (by omega) (by rw [c4s]; exact (enc (x := 0) (by decide) (by omega)).1) (by rcases hk with z | z | z | z | z | z | z | z <;> subst z <;> decide)
    rw [show l' - l0 = l - l0 + (l' - l) by omega]
    exact this
/-- one part, a step ahead, the other part, and the step is told where to go -/
theorem s_land {A B : DS} {j l' s' u' : Nat} {τ1 τ2 τ3 τ4 : DD} {kd : Nat} {R : DS} {post : DD → Prop} (hN : N ≤ 400) (hj : j ≤ N) (hiN : i < N) (h1 : PG σ τ1 b sz o i0 l0 s0 u0 i l s u A) (e2 : τ2 = sI (sI τ1 32 s (jshl (nI 0) 4 ||| nI kd)) 30 4 (nI (s + 1))) (a2 : AgX pdS noL τ1 τ2) (a3 : AgX pdS noL τ2 τ3) (c3 : ∀ k, gI τ3 32 k = gI τ2 32 k) (h3 : PG τ3 τ4 b sz o (i + 1) l (s + 1) u j l' s' u' B) (hk : kd < 16) (hR : ∀ cd : Nat → Int32, Seg cd s0 s (l - l0) (wW o) A → Seg cd (s + 1) s' (l' - l) (wW o) B → cd s &&& 15 = nI kd → jshr (cd s) 4 = nI s' → Seg cd s0 s' (l - l0 + (l' - l)) (wW o) R) (hD : Dep u' A → Dep u' B → Dep u' R) (k : ∀ τ5, PG σ τ5 b sz o i0 l0 s0 u0 j l' s' u' R → post τ5) : w_Pars_land T τ4 (nI s) post := by
  obtain ⟨p1, p2, p3, p4, p5, p6, p7, p8, p9⟩ := h1
  obtain ⟨r1, r2, r3, r4, r5, r6, r7, r8, r9⟩ := h3
  have hsi := p2.2.2.2.2.2.1
  have hs'j := r2.2.2.2.2.2.1
  unfold w_Pars_land
  rw [nI_clamp (by omega), r2.2.2.1, r6 s (by omega), c3, e2, gI_sI, if_neg (by omega), gI_same, (enc (x := 0) (by decide) hk).1, nI_leI (by omega) (by omega)]
  refine ⟨fun z => absurd z (nI_pos (by omega)), fun _ => ⟨fun z => absurd z (by omega), fun _ => ⟨vp_in_nI (by omega) (by decide), vp_in_nI (by omega) (by decide), fun τ5 e5 => k τ5 ?_⟩⟩⟩
  have a5 : AgX (fun o _ => o = 32) noL τ4 τ5 := by rw [e5]; exact AgX.put rfl
  have c5 : ∀ k, ¬ k = s → gI τ5 32 k = gI τ4 32 k := fun k hk => by rw [e5, gI_sI, if_neg (by omega)]
  have c5s : gI τ5 32 s = jshl (nI s') 4 ||| nI kd := by rw [e5, gI_same]
  have c2 : ∀ k, ¬ k = s → gI τ2 32 k = gI τ1 32 k := fun k hk => by rw [e2, gI_sI, if_neg (by omega), gI_sI, if_neg (by omega)]
  have en := enc (x := s') (k := kd) (by omega) hk
  refine ⟨(((p1.trans a2).trans a3).trans r1).trans (a5.mono (fun o k w => Or.inr (Or.inl w)) (fun _ w => w)), r2.ag a5 (by omega) (by omega) (by omega) (by omega) (by omega) (by omega), by omega, by omega, by omega, fun k hk => ?_, fun j hj => r7 j (p7 j hj), hD (p8.mo r7) r8, ?_⟩
  · rw [c5 k (by omega), r6 k (by omega), c3, c2 k (by omega), p6 k hk]
  · rw [show l' - l0 = l - l0 + (l' - l) by omega]
    refine hR _ (p9.cg (fun k k1 k2 => by rw [c5 k (by omega), r6 k (by omega), c3, c2 k (by omega)])) (r9.cg (fun k k1 k2 => c5 k (by omega))) (by rw [c5s]; exact en.1) (by rw [c5s]; exact en.2)
end PX
