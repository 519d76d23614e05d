/-! ===== all gone back to ===== -/
section BK
variable {m x m' x' σ τ : DD} {T : TXT} {n b : Nat} {K : Nat → Int32} {L : List RD}
theorem RXs.g (h : RXs σ b T K) (hb : b ≤ 300) (e : ∀ a c, (b ≤ a ∧ a ≤ b + 17) ∨ 300 ≤ a → gI τ a c = gI σ a c) (er : ∀ c, gR τ (b + 19) c = gR σ (b + 19) c) : RXs τ b T K := by
  obtain ⟨r1, r2, r3, r4, r5, r6, r7, r8, r9, r10, r11, r12⟩ := h
  refine ⟨?_, ?_, ?_, ?_, ?_, fun a j h1 h2 => ?_, fun a h1 => ?_, fun r h1 => ?_, fun w h1 => ?_, ?_, fun i h1 => ?_, fun f h1 => ?_⟩
  · rw [e _ _ (by omega)]; exact r1
  · rw [e _ _ (by omega)]; exact r2
  · rw [e _ _ (by omega)]; exact r3
  · rw [e _ _ (by omega)]; exact r4
  · rw [e _ _ (by omega)]; exact r5
  · rw [e _ _ (by omega)]; exact r6 a j h1 h2
  · rw [e _ _ (by omega)]; exact r7 a h1
  · rw [e _ _ (by omega), e _ _ (by omega)]; exact r8 r h1
  · rw [e _ _ (by omega)]; exact r9 w h1
  · rw [e _ _ (by omega), e _ _ (by omega), e _ _ (by omega)]; exact r10
  · rw [e _ _ (by omega), e _ _ (by omega), e _ _ (by omega), e _ _ (by omega)]; exact r11 i h1
  · obtain ⟨t, q1, q2, q3⟩ := r12 f h1
    exact ⟨t, q1, by rw [er]; exact q2, q3.g q1 (fun a c w => e a c (Or.inr w))⟩
theorem RXd.g (h : RXd σ b L) (e : ∀ a c, (b ≤ a ∧ a ≤ b + 17) ∨ 300 ≤ a → gI τ a c = gI σ a c) : RXd τ b L := by
  refine ⟨?_, h.2.1, fun i y hy => ?_⟩
  · rw [e _ _ (by omega)]; exact h.1
  · rw [e _ _ (by omega), e _ _ (by omega), e _ _ (by omega)]; exact h.2.2 i y hy
theorem IMG.g {k : Nat} (h : IMG m x T k b) (hb : b ≤ 300) (em : ∀ p, gI m' 5 p = gI m 5 p ∧ gI m' 6 p = gI m 6 p) (e : ∀ a c, (b ≤ a ∧ a ≤ b + 17) ∨ 300 ≤ a → gI x' a c = gI x a c) (er : ∀ c, gR x' (b + 19) c = gR x (b + 19) c) (e2 : ∀ c, gR x' 2 c = gR x 2 c) : IMG m' x' T k b := by
  rcases h with ⟨h1, h2⟩ | ⟨h1, h2, K, L, d, q1, q2, q3, q4, q5, q6, q7, q8, q9, q10, q11, q12, q13⟩
  · exact Or.inl ⟨by rw [(em k).2]; exact h1, by rw [e2]; exact h2⟩
  · refine Or.inr ⟨by rw [(em k).2]; exact h1, by rw [e2]; exact h2, K, L, d, q1, q2, q3, q4, q5, q6, fun p hp => by rw [(em _).1]; exact q7 p hp, by rw [(em _).1]; exact q8, by rw [(em _).1]; exact q9, fun i y hy => ?_, q11.g hb e er, q12.g e, by rw [e _ _ (by omega)]; exact q13⟩
    rw [(em _).1, (em _).1, (em _).1]; exact q10 i y hy
/-- the model takes an image's row -/
theorem s_Mback {k : Nat} {post : Int32 → DD → Prop} (hk : k < 2) (kk : ∀ τ, Ag (fun o _ => o = 4) σ τ → (∀ p, p < 6012 → gI τ 4 p = gI σ 5 (6012 * k + p)) → w_M_good τ 0 (fun r2 σ3 => post r2 σ3)) : w_M_back_l33 post σ (nI k) 0 := by
  unfold w_M_back_l33
  refine LoopN (fun q y => ∃ i, q = 6012 - i ∧ i ≤ 6012 ∧ y.2 = nI i ∧ Ag (fun o _ => o = 4) σ y.1 ∧ ∀ p, p < i → gI y.1 4 p = gI σ 5 (6012 * k + p)) ?_ (n := 6012) ⟨0, rfl, by omega, rfl, Ag.refl σ, fun p hp => absurd hp (Nat.not_lt_zero _)⟩
  rintro q ⟨υ, a2⟩ KK ⟨i, hq, hi, e2, ag, hrow⟩ ih
  simp only [] at e2 ag hrow ⊢
  subst e2
  unfold w_M_back_b33
  rw [show (6012 : Int32) ≤ nI i ↔ 6012 ≤ i from nI_leI (a := 6012) (by decide) (by omega), show (6012 : Int32) = nI 6012 from rfl, pk_mul, nI_add', nI_clamp (by omega), nI_clamp (by omega), nI_1]
  refine ⟨fun z => kk υ ag (fun p hp => hrow p (by omega)), fun z => ⟨vp_in_nI (by omega) (by decide), vp_in_nI (by omega) (by decide), fun σ5 e5 => ?_⟩⟩
  refine ih (6012 - (i + 1)) _ (by omega) ⟨i + 1, rfl, by omega, rfl, by simp only []; rw [e5]; exact ag.set rfl, fun p hp => ?_⟩
  simp only []
  by_cases ep : p = i
  · rw [ep, e5, gI_same, ag.at _ _ (by omega)]
  · rw [e5, gI_sI, if_neg (by omega)]; exact hrow p (by omega)
theorem p_back {a1 : Int32} {IM : Nat → Prop} (h : INV T m x n) (hn : n < 2 ^ 20) (hIM : ∀ k b, k < 2 → gR x 2 k = some b → IM b) : w_Face_back T IM x a1 (fun r x' => w_M_back m a1 (fun r' m' => r = r' ∧ INV T m' x' (n + 1) ∧ ∀ c, gR x' 2 c = gR x 2 c)) := by
  obtain ⟨K, L, d, hM, hB, -⟩ := h.b
  have bad : ¬ (0 ≤ a1 ∧ a1 ≤ 1) → w_Face_back_j9 T IM (fun r x' => w_M_back m a1 (fun r' m' => r = r' ∧ INV T m' x' (n + 1) ∧ ∀ c, gR x' 2 c = gR x 2 c)) x := by
    intro z
    unfold w_Face_back_j9
    refine s_refused (Or.inl rfl) ?_
    unfold w_M_back
    refine s_lies ?_
    rw [show inB a1 0 1 = false from decide_eq_false z]
    exact ⟨fun w => absurd rfl w, fun _ => s_refuses (Or.inl rfl) ⟨rfl, hB.ref hM (Or.inl rfl), fun _ => rfl⟩⟩
  unfold w_Face_back
  refine ⟨fun z => bad (fun w => by have := w.1; grind), fun z => ⟨fun z2 => ?_, fun z2 => bad (fun w => by have := w.2; grind)⟩⟩
  obtain ⟨k, hk, ek⟩ : ∃ k, k < 2 ∧ a1 = nI k := by
    have := nI_ltE (x := a1) (n := 2) ⟨by grind, z2⟩ (by decide)
    obtain ⟨k, h1, h2⟩ := this
    exact ⟨k, h1, h2⟩
  subst ek
  rw [nI_clamp (by omega)]
  refine ⟨vp_in_nI (by omega) (by decide), fun v6 e6 => ?_⟩
  have hin : inB (nI k) 0 1 = true := by
    have : k = 0 ∨ k = 1 := by omega
    rcases this with w | w <;> subst w <;> decide
  obtain ⟨hX, h1, h2, h3, h4, h5, hRS, i0, i1, ⟨v, hv1, hv2⟩, g, hg1, hg2⟩ := hB
  have hB' : INB T m x n (n + 1) K L d := ⟨hX, h1, h2, h3, h4, h5, hRS, i0, i1, ⟨v, hv1, hv2⟩, g, hg1, hg2⟩
  have key : ∀ b, (b = 230 ∨ b = 260) → IMG m x T k b → (v6 = none → w_Face_refused T x (-2) (fun r9 σ10 => w_M_back m (nI k) (fun r' m' => r9 = r' ∧ INV T m' σ10 (n + 1) ∧ ∀ c, gR σ10 2 c = gR x 2 c))) ∧ (∀ t8, v6 = some t8 → IM t8 ∧ w_Real_become T 200 t8 x (fun σ13 => w_Court_forget T σ13 (fun σ15 => w_Face_granted T σ15 0 (fun r16 σ17 => w_M_back m (nI k) (fun r' m' => r16 = r' ∧ INV T m' σ17 (n + 1) ∧ ∀ c, gR σ17 2 c = gR x 2 c))))) := by
    intro b hb him
    rcases him with ⟨q1, q2⟩ | ⟨q1, q2, K', L', d', w1, w2, w3, w4, w5, w6, w7, w8, w9, w10, w11, w12, w13⟩
    · rw [q2] at e6
      subst e6
      refine ⟨fun _ => ?_, fun t8 w => by cases w⟩
      refine s_refused (Or.inr (Or.inl rfl)) ?_
      unfold w_M_back
      refine s_lies ?_
      rw [hin, nI_clamp (by omega), q1]
      exact ⟨fun _ => ⟨vp_in_nI (by omega) (by decide), fun w => absurd rfl w, fun _ => s_refuses (Or.inr (Or.inl rfl)) ⟨rfl, hB'.ref hM (Or.inr (Or.inl rfl)), fun _ => rfl⟩⟩, fun w => absurd w (by decide)⟩
    · rw [q2] at e6
      subst e6
      refine ⟨fun w => (by cases w), fun t8 w => ?_⟩
      cases w
      refine ⟨hIM k b hk q2, s_become (by omega) (by omega) w11 w1 w12 w13 (fun x1 bf hR1 hD1 hd1 => s_forget (s_granted ?_))⟩
      have g1 : gI x1 50 5 = nI g := by rw [bf.1 _ _ (by omega)]; exact hg2
      rw [g1, nI_1]
      have X2 : ∀ a c, ¬ (a = 50 ∧ c = 5) → gI (sI x1 50 5 (nI (g + 1))) a c = gI x1 a c := fun a c w => by rw [gI_sI, if_neg w]
      have hX2 : XS (sI x1 50 5 (nI (g + 1))) T K' L' := by
        refine ⟨⟨hR1.g (by omega) (fun a c w => X2 a c (by omega)) (fun c => rfl), ?_, w1⟩, hD1.g (fun a c w => X2 a c (by omega)), w2, w3⟩
        refine CX.fg hX.1.2.1 hg2 (by omega) ?_ (fun k => ?_)
        · rw [gI_same, hg2, nI_1]
        · rw [X2 _ _ (by omega), bf.1 _ _ (by omega)]
      unfold w_M_back
      refine s_lies ?_
      rw [hin, nI_clamp (by omega), q1]
      refine ⟨fun _ => ⟨vp_in_nI (by omega) (by decide), fun _ => s_Mback hk (fun m1 ag hrow => s_good ⟨rfl, ?_, fun c => bf.2.2 _ _ (by omega)⟩), fun w => absurd w (by decide)⟩, fun w => absurd w (by decide)⟩
      have hM0 : MS0 m1 K' L' := by
        refine ⟨fun p hp => ?_, hM.1.2.1.ag ag (by omega) (by omega), w1, ⟨?_, by omega, fun i y hy => ?_⟩, w2⟩
        · have : p < 6012 := by unfold dyn at hp; omega
          rw [hrow p this]; exact w7 p hp
        · rw [hrow _ (by omega)]; exact w9
        · have hil : i < L'.length := by
            by_cases c : i < L'.length
            · exact c
            · rw [List.getElem?_eq_none (by omega)] at hy; cases hy
          rw [hrow _ (by omega), hrow _ (by omega), hrow _ (by omega)]; exact w10 i y hy
      refine INB.good (K := K') (L := L') (d := d') hM0 ⟨hX2, ?_, ?_, w5, w4, w6, ?_, ?_, ?_, ⟨v, hv1, ?_⟩, g + 1, by omega, gI_same⟩ hn
      · rw [hrow _ (by omega)]; exact w8
      · rw [X2 _ _ (by omega)]; exact hd1
      · refine hRS.fr (fun o p w => ag.at o p (by unfold pr2 at w; omega)) (fun o p w => ?_)
        rw [X2 _ _ (by unfold xr2 at w; omega), bf.1 _ _ (by unfold xr2 at w; omega)]
      · exact i0.g (by omega) (fun p => ⟨ag.at _ _ (by omega), ag.at _ _ (by omega)⟩) (fun a c w => by rw [X2 _ _ (by omega), bf.1 _ _ (by omega)]) (fun c => bf.2.2 _ _ (by omega)) (fun c => bf.2.2 _ _ (by omega))
      · exact i1.g (by omega) (fun p => ⟨ag.at _ _ (by omega), ag.at _ _ (by omega)⟩) (fun a c w => by rw [X2 _ _ (by omega), bf.1 _ _ (by omega)]) (fun c => bf.2.2 _ _ (by omega)) (fun c => bf.2.2 _ _ (by omega))
      · rw [ag.at _ _ (by omega)]; exact hv2
  have hk2 : k = 0 ∨ k = 1 := by omega
  rcases hk2 with w | w
  · subst w; exact key 230 (Or.inl rfl) i0
  · subst w; exact key 260 (Or.inr rfl) i1
end BK
