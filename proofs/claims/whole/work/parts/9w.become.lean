/-! ===== a realm becomes another ===== -/
theorem gI_cp {σ : DD} {o1 o2 n a b : Nat} : gI (cpI σ o1 o2 0 0 n) a b = if a = o2 ∧ b < n then gI σ o1 b else gI σ a b := by
  by_cases c : a = o2
  · subst c
    rw [gI_cpI_up]
    unfold va_cpy
    simp
  · rw [gI_cpI_ne c, if_neg (fun z => c z.1)]
/-- what was copied -/
def cpS (σ0 σ : DD) (o o2 : Nat) (D : Nat → Nat → Prop) : Prop := (∀ k b, k ≤ 17 → D k b → gI σ (o + k) b = gI σ0 (o2 + k) b) ∧ (∀ a b, ¬ (o ≤ a ∧ a ≤ o + 17) → gI σ a b = gI σ0 a b) ∧ σ.2 = σ0.2
theorem TxtOK.g {σ τ : DD} {T : TXT} {t : Nat} {o : Bool} {cl : List CLS} (h : TxtOK σ T t o cl) (ht : 300 ≤ t) (e : ∀ a b, 300 ≤ a → gI τ a b = gI σ a b) : TxtOK τ T t o cl := by
  unfold TxtOK
  rw [show gI τ t = gI σ t from funext (fun k => e t k ht), show gI τ (t + 3) = gI σ (t + 3) from funext (fun k => e (t + 3) k (by omega)), show gI τ (t + 4) = gI σ (t + 4) from funext (fun k => e (t + 4) k (by omega))]
  exact h
def cpR (a b q f : Nat) : Prop := (a = 0 ∧ (b = 0 ∨ b = 3 ∨ b = 8 ∨ b = 12 ∨ b = 17 ∨ b = 19)) ∨ (a = 2 ∧ b < 32) ∨ (a = 3 ∧ b < 8) ∨ (a = 5 ∧ b < 4) ∨ (a = 6 ∧ b < 4) ∨ (a = 7 ∧ b < 7) ∨ (a = 8 ∧ b < 4) ∨ (10 ≤ a ∧ a ≤ 12 ∧ b < q) ∨ (14 ≤ a ∧ a ≤ 17 ∧ b < f)
theorem cpR_q {a b q : Nat} (w : cpR a b q 0) : ((cpR a b 0 0 ∨ (a = 10 ∧ b < q)) ∨ (a = 11 ∧ b < q)) ∨ (a = 12 ∧ b < q) := by
  rcases w with h | h | h | h | h | h | h | ⟨h1, h2, h⟩ | ⟨_, _, h⟩
  · exact Or.inl (Or.inl (Or.inl (Or.inl h)))
  · exact Or.inl (Or.inl (Or.inl (Or.inr (Or.inl h))))
  · exact Or.inl (Or.inl (Or.inl (Or.inr (Or.inr (Or.inl h)))))
  · exact Or.inl (Or.inl (Or.inl (Or.inr (Or.inr (Or.inr (Or.inl h))))))
  · exact Or.inl (Or.inl (Or.inl (Or.inr (Or.inr (Or.inr (Or.inr (Or.inl h)))))))
  · exact Or.inl (Or.inl (Or.inl (Or.inr (Or.inr (Or.inr (Or.inr (Or.inr (Or.inl h))))))))
  · exact Or.inl (Or.inl (Or.inl (Or.inr (Or.inr (Or.inr (Or.inr (Or.inr (Or.inr (Or.inl h)))))))))
  · have h3 : a = 10 ∨ a = 11 ∨ a = 12 := by omega
    rcases h3 with z | z | z
    · exact Or.inl (Or.inl (Or.inr ⟨z, h⟩))
    · exact Or.inl (Or.inr ⟨z, h⟩)
    · exact Or.inr ⟨z, h⟩
  · exact absurd h (Nat.not_lt_zero _)
theorem cpR_f {a b q f : Nat} (w : cpR a b q f) : (((cpR a b q 0 ∨ (a = 14 ∧ b < f)) ∨ (a = 15 ∧ b < f)) ∨ (a = 16 ∧ b < f)) ∨ (a = 17 ∧ b < f) := by
  rcases w with h | h | h | h | h | h | h | h | ⟨h1, h2, h⟩
  · exact Or.inl (Or.inl (Or.inl (Or.inl (Or.inl h))))
  · exact Or.inl (Or.inl (Or.inl (Or.inl (Or.inr (Or.inl h)))))
  · exact Or.inl (Or.inl (Or.inl (Or.inl (Or.inr (Or.inr (Or.inl h))))))
  · exact Or.inl (Or.inl (Or.inl (Or.inl (Or.inr (Or.inr (Or.inr (Or.inl h)))))))
  · exact Or.inl (Or.inl (Or.inl (Or.inl (Or.inr (Or.inr (Or.inr (Or.inr (Or.inl h))))))))
  · exact Or.inl (Or.inl (Or.inl (Or.inl (Or.inr (Or.inr (Or.inr (Or.inr (Or.inr (Or.inl h)))))))))
  · exact Or.inl (Or.inl (Or.inl (Or.inl (Or.inr (Or.inr (Or.inr (Or.inr (Or.inr (Or.inr (Or.inl h))))))))))
  · exact Or.inl (Or.inl (Or.inl (Or.inl (Or.inr (Or.inr (Or.inr (Or.inr (Or.inr (Or.inr (Or.inr (Or.inl h)))))))))))
  · have h3 : a = 14 ∨ a = 15 ∨ a = 16 ∨ a = 17 := by omega
    rcases h3 with z | z | z | z
    · exact Or.inl (Or.inl (Or.inl (Or.inr ⟨z, h⟩)))
    · exact Or.inl (Or.inl (Or.inr ⟨z, h⟩))
    · exact Or.inl (Or.inr ⟨z, h⟩)
    · exact Or.inr ⟨z, h⟩
section BC
variable {σ0 σ τ : DD} {T : TXT} {o o2 : Nat} {D : Nat → Nat → Prop} {K : Nat → Int32} {L : List RD}
theorem cpS.refl : cpS σ σ o o2 (fun _ _ => False) := ⟨fun _ _ _ h => absurd h (fun z => z), fun _ _ _ => rfl, rfl⟩
theorem cpS.src (h : cpS σ0 σ o o2 D) (hd : o + 20 ≤ o2 ∨ o2 + 20 ≤ o) {k b : Nat} (hk : k ≤ 17) : gI σ (o2 + k) b = gI σ0 (o2 + k) b := h.2.1 _ _ (by omega)
theorem cpS.si (h : cpS σ0 σ o o2 D) (hd : o + 20 ≤ o2 ∨ o2 + 20 ≤ o) (k0 : Nat) {σ1 : DD} (e : σ1 = sI σ o k0 (gI σ o2 k0)) : cpS σ0 σ1 o o2 (fun k b => D k b ∨ (k = 0 ∧ b = k0)) := by
  have s := h.src hd (k := 0) (b := k0) (by omega)
  rw [Nat.add_zero] at s
  rw [s] at e
  subst e
  refine ⟨fun k b hk w => ?_, fun a b w => ?_, h.2.2⟩
  · rw [gI_sI]
    by_cases c : o + k = o ∧ b = k0
    · rw [if_pos c, c.2, show k = 0 by omega, Nat.add_zero]
    · rw [if_neg c]
      rcases w with w | w
      · exact h.1 k b hk w
      · exact absurd ⟨by omega, w.2⟩ c
  · rw [gI_sI, if_neg (fun z => w (by omega))]
    exact h.2.1 a b w
theorem cpS.cp (h : cpS σ0 σ o o2 D) (hd : o + 20 ≤ o2 ∨ o2 + 20 ≤ o) (k0 n : Nat) (hk0 : k0 ≤ 17) {σ1 : DD} (e : σ1 = cpI σ (o2 + k0) (o + k0) 0 0 n) : cpS σ0 σ1 o o2 (fun k b => D k b ∨ (k = k0 ∧ b < n)) := by
  subst e
  refine ⟨fun k b hk w => ?_, fun a b w => ?_, h.2.2⟩
  · rw [gI_cp]
    by_cases c : o + k = o + k0 ∧ b < n
    · rw [if_pos c, h.src hd hk0, show k = k0 by omega]
    · rw [if_neg c]
      rcases w with w | w
      · exact h.1 k b hk w
      · exact absurd ⟨by omega, w.2⟩ c
  · rw [gI_cp, if_neg (fun z => w (by omega))]
    exact h.2.1 a b w
/-- all but its own rows stays -/
def BF (o : Nat) (σ τ : DD) : Prop := (∀ a b, ¬ (o ≤ a ∧ a ≤ o + 17) → gI τ a b = gI σ a b) ∧ τ.2.1 = σ.2.1 ∧ ∀ a b, ¬ a = o + 19 → gR τ a b = gR σ a b
theorem cpS.mono {D' : Nat → Nat → Prop} (h : cpS σ0 σ o o2 D) (e : ∀ k b, D' k b → D k b) : cpS σ0 σ o o2 D' := ⟨fun k b hk w => h.1 k b hk (e k b w), h.2⟩
theorem bc_loop {post : DD → Prop} {d : Nat} {σ84 : DD} (ho : o + 20 ≤ 300) (hd : o + 20 ≤ o2 ∨ o2 + 20 ≤ o) (hR : RXs σ o2 T K) (hI : KI K) (hL : RXd σ o2 L) (hday : gI σ (o2 + 8) 0 = nI d) (c84 : cpS σ σ84 o o2 (fun a b => cpR a b L.length (nF K))) (k : ∀ τ, BF o σ τ → RXs τ o T K → RXd τ o L → gI τ (o + 8) 0 = nI d → post τ) : w_Real_become_l277 T o o2 post σ84 0 := by
  obtain ⟨r1, r2, r3, r4, r5, r6, r7, r8, r9, r10, r11, r12⟩ := hR
  obtain ⟨d1, d2, d3⟩ := hL
  have ha := hI.a
  have hr := hI.r
  have hlw : K 403 = nI (nLw K) ∧ nLw K ≤ 6 := hI.2.2.2.1
  have C : ∀ k b, k ≤ 17 → cpR k b L.length (nF K) → gI σ84 (o + k) b = gI σ (o2 + k) b := fun k b hk w => c84.1 k b hk w
  have N84 : ∀ a b, ¬ (o ≤ a ∧ a ≤ o + 17) → gI σ84 a b = gI σ a b := fun a b w => c84.2.1 a b w
  have C0 : ∀ b, (b = 0 ∨ b = 3 ∨ b = 8 ∨ b = 12 ∨ b = 17 ∨ b = 19) → gI σ84 o b = gI σ o2 b := fun b hb => by
    have := C 0 b (by omega) (Or.inl ⟨rfl, hb⟩)
    rw [Nat.add_zero, Nat.add_zero] at this; exact this
  have G84 : ∀ a b, gR σ84 a b = gR σ a b := fun a b => by unfold gR; rw [c84.2.2]
  unfold w_Real_become_l277
  refine LoopN (fun m y => ∃ f, m = 6 - f ∧ f ≤ 6 ∧ y.2 = nI f ∧ y.1.1 = σ84.1 ∧ y.1.2.1 = σ.2.1 ∧ (∀ a b, ¬ a = o + 19 → gR y.1 a b = gR σ a b) ∧ ∀ j, j < f → j < nLw K → gR y.1 (o + 19) j = gR σ (o2 + 19) j) ?_ (n := 6) ⟨0, rfl, by omega, rfl, rfl, by rw [c84.2.2], fun a b _ => G84 a b, fun j hj => absurd hj (Nat.not_lt_zero _)⟩
  rintro m ⟨υ, a2⟩ KK ⟨f, hm, hf6, e2, e1, e3, hre, hro⟩ ih
  simp only [] at e2 e1 e3 hre hro ⊢
  subst e2
  have I84 : ∀ a b, gI υ a b = gI σ84 a b := fun a b => by unfold gI; rw [e1]
  unfold w_Real_become_b277
  rw [show (6 : Int32) ≤ nI f ↔ 6 ≤ f from nI_leI (a := 6) (by decide) (by omega)]
  refine ⟨fun z => ?_, fun z => ?_⟩
  · have hf' : f = 6 := by omega
    subst hf'
    refine k υ ⟨fun a b w => by rw [I84]; exact N84 a b w, e3, hre⟩ ?_ ?_ ?_
    · refine ⟨?_, ?_, ?_, ?_, ?_, fun a j h1 h2 => ?_, fun a h1 => ?_, fun r h1 => ?_, fun w h1 => ?_, ?_, fun i h1 => ?_, fun f h1 => ?_⟩
      · rw [I84, C0 0 (by omega)]; exact r1
      · rw [I84, C0 3 (by omega)]; exact r2
      · rw [I84, C0 12 (by omega)]; exact r3
      · rw [I84, C0 17 (by omega)]; exact r4
      · rw [I84, C0 19 (by omega)]; exact r5
      · rw [I84, C 2 _ (by omega) (by unfold cpR; omega)]; exact r6 a j h1 h2
      · rw [I84, C 3 _ (by omega) (by unfold cpR; omega)]; exact r7 a h1
      · rw [I84, I84, C 5 _ (by omega) (by unfold cpR; omega), C 6 _ (by omega) (by unfold cpR; omega)]; exact r8 r h1
      · rw [I84, C 7 _ (by omega) (by unfold cpR; omega)]; exact r9 w h1
      · rw [I84, I84, I84, C 8 _ (by omega) (by unfold cpR; omega), C 8 _ (by omega) (by unfold cpR; omega), C 8 _ (by omega) (by unfold cpR; omega)]; exact r10
      · rw [I84, I84, I84, I84, C 14 _ (by omega) (by unfold cpR; omega), C 15 _ (by omega) (by unfold cpR; omega), C 16 _ (by omega) (by unfold cpR; omega), C 17 _ (by omega) (by unfold cpR; omega)]; exact r11 i h1
      · obtain ⟨t, q1, q2, q3⟩ := r12 f h1
        refine ⟨t, q1, by rw [hro f (by omega) h1]; exact q2, q3.g q1 (fun a b w => ?_)⟩
        rw [I84]; exact N84 a b (by omega)
    · refine ⟨?_, d2, fun i x hx => ?_⟩
      · rw [I84, C0 8 (by omega)]; exact d1
      · have hil : i < L.length := by
          by_cases c : i < L.length
          · exact c
          · rw [List.getElem?_eq_none (by omega)] at hx; cases hx
        rw [I84, I84, I84, C 10 _ (by omega) (by unfold cpR; omega), C 11 _ (by omega) (by unfold cpR; omega), C 12 _ (by omega) (by unfold cpR; omega)]; exact d3 i x hx
    · rw [I84, C 8 _ (by omega) (by unfold cpR; omega)]; exact hday
  · have g17 : gI υ o 17 = nI (nLw K) := by rw [I84, C0 17 (by omega), r4]; exact hlw.1
    have nxt : ∀ t2, (∀ z5, t2 = some z5 → ∃ m1 m2, T z5 = some (m1, m2)) → (f < nLw K → t2 = gR σ (o2 + 19) f) → w_Real_become_j306 T o o2 (fun σ a2 => KK (σ, a2)) post υ (nI f) (nI f) t2 := by
      intro t2 h1 h2
      unfold w_Real_become_j306
      refine ⟨vp_in_nI (by omega) (by decide), h1, fun σ3 e3' => ?_⟩
      rw [nI_clamp (by omega)] at e3'
      rw [nI_1]
      have g3 : ∀ a b, gR σ3 a b = if a = o + 19 ∧ b = f then t2 else gR υ a b := fun a b => by rw [e3']; rfl
      refine ih (6 - (f + 1)) _ (by omega) ⟨f + 1, rfl, by omega, rfl, by rw [e3']; exact e1, by rw [e3']; exact e3, fun a b w => ?_, fun j hj hj2 => ?_⟩
      · simp only []; rw [g3, if_neg (fun z => w z.1)]; exact hre a b w
      · simp only []
        rw [g3]
        by_cases ej : j = f
        · rw [if_pos ⟨rfl, ej⟩, ej]; exact h2 (by omega)
        · rw [if_neg (fun z => ej z.2)]; exact hro j (by omega) hj2
    rw [g17, nI_leI (by omega) (by omega)]
    refine ⟨fun z2 => nxt none (fun z5 h => by cases h) (fun w => by omega), fun z2 => ⟨vp_in_nI (by omega) (by decide), ?_⟩⟩
    obtain ⟨t, q1, q2, q3⟩ := r12 f (by omega)
    rw [nI_clamp (by omega), hre _ _ (by omega)]
    refine nxt _ (fun z5 h => ?_) (fun _ => rfl)
    rw [q2] at h
    cases h
    obtain ⟨m1, m2, q4, -⟩ := q3
    exact ⟨m1, m2, q4⟩
theorem bc_49 {σ9 σ11 σ13 σ15 σ17 σ19 σ24 σ29 σ34 σ39 σ44 σ49 : DD} (hd : o + 20 ≤ o2 ∨ o2 + 20 ≤ o) (e9 : σ9 = sI σ o 0 (gI σ o2 0)) (e11 : σ11 = sI σ9 o 3 (gI σ9 o2 3)) (e13 : σ13 = sI σ11 o 8 (gI σ11 o2 8)) (e15 : σ15 = sI σ13 o 12 (gI σ13 o2 12)) (e17 : σ17 = sI σ15 o 17 (gI σ15 o2 17)) (e19 : σ19 = sI σ17 o 19 (gI σ17 o2 19)) (e24 : σ24 = cpI σ19 (o2 + 2) (o + 2) 0 0 32) (e29 : σ29 = cpI σ24 (o2 + 3) (o + 3) 0 0 8) (e34 : σ34 = cpI σ29 (o2 + 5) (o + 5) 0 0 4) (e39 : σ39 = cpI σ34 (o2 + 6) (o + 6) 0 0 4) (e44 : σ44 = cpI σ39 (o2 + 7) (o + 7) 0 0 7) (e49 : σ49 = cpI σ44 (o2 + 8) (o + 8) 0 0 4) : cpS σ σ49 o o2 (fun a b => cpR a b 0 0) := by
  have c19 := (((((cpS.refl.si hd 0 e9).si hd 3 e11).si hd 8 e13).si hd 12 e15).si hd 17 e17).si hd 19 e19
  have c49 := (((((c19.cp hd 2 32 (by omega) e24).cp hd 3 8 (by omega) e29).cp hd 5 4 (by omega) e34).cp hd 6 4 (by omega) e39).cp hd 7 7 (by omega) e44).cp hd 8 4 (by omega) e49
  refine c49.mono (fun k b w => ?_)
  rcases w with ⟨rfl, rfl | rfl | rfl | rfl | rfl | rfl⟩ | ⟨rfl, h⟩ | ⟨rfl, h⟩ | ⟨rfl, h⟩ | ⟨rfl, h⟩ | ⟨rfl, h⟩ | ⟨rfl, h⟩ | ⟨_, _, h⟩ | ⟨_, _, h⟩
  · simp
  · simp
  · simp
  · simp
  · simp
  · simp
  · simp [h]
  · simp [h]
  · simp [h]
  · simp [h]
  · simp [h]
  · simp [h]
  · exact absurd h (Nat.not_lt_zero _)
  · exact absurd h (Nat.not_lt_zero _)
theorem s_become {post : DD → Prop} {d : Nat} (hd : o + 20 ≤ o2 ∨ o2 + 20 ≤ o) (ho : o + 20 ≤ 300) (hR : RXs σ o2 T K) (hI : KI K) (hL : RXd σ o2 L) (hday : gI σ (o2 + 8) 0 = nI d) (k : ∀ τ, BF o σ τ → RXs τ o T K → RXd τ o L → gI τ (o + 8) 0 = nI d → post τ) : w_Real_become T o o2 σ post := by
  have r3 := hR.2.2.1
  have d1 := hL.1
  have d2 := hL.2.1
  have hf : K 402 = nI (nF K) ∧ nF K ≤ 8 := hI.2.2.1
  have hi84 : ∀ n : Nat, n ≤ 84 → ¬ nI n < 0 := fun n hn z => by have := nI_pos' (n := n) (by omega); grind
  have told : ∀ {υ : DD} {D : Nat → Nat → Prop}, cpS σ υ o o2 D → D 0 8 → gI υ o 8 = nI L.length := fun h hD => by
    have := h.1 0 8 (by omega) hD
    rw [Nat.add_zero, Nat.add_zero] at this
    rw [this]; exact d1
  have fine : ∀ {υ : DD} {D : Nat → Nat → Prop}, cpS σ υ o o2 D → D 0 12 → gI υ o 12 = nI (nF K) := fun h hD => by
    have := h.1 0 12 (by omega) hD
    rw [Nat.add_zero, Nat.add_zero] at this
    rw [this, r3]; exact hf.1
  unfold w_Real_become
  intro σ9 e9 σ11 e11 σ13 e13 σ15 e15 σ17 e17 σ19 e19
  refine ⟨by decide, by decide, by decide, fun σ24 e24 => ⟨by decide, by decide, by decide, fun σ29 e29 => ⟨by decide, by decide, by decide, fun σ34 e34 => ⟨by decide, by decide, by decide, fun σ39 e39 => ⟨by decide, by decide, by decide, fun σ44 e44 => ⟨by decide, by decide, by decide, fun σ49 e49 => ?_⟩⟩⟩⟩⟩⟩
  have c49 := bc_49 hd e9 e11 e13 e15 e17 e19 e24 e29 e34 e39 e44 e49
  clear e9 e11 e13 e15 e17 e19 e24 e29 e34 e39 e44 e49
  have t49 := told c49 (by unfold cpR; omega)
  rw [t49, nI_clamp (by omega)]
  refine ⟨hi84 _ d2, by omega, by omega, fun σ54 e54 => ?_⟩
  have c54 := c49.cp hd 10 L.length (by omega) e54
  have t54 := told c54 (Or.inl (by unfold cpR; omega))
  rw [t54, nI_clamp (by omega)]
  refine ⟨hi84 _ d2, by omega, by omega, fun σ59 e59 => ?_⟩
  have c59 := c54.cp hd 11 L.length (by omega) e59
  have t59 := told c59 (Or.inl (Or.inl (by unfold cpR; omega)))
  rw [t59, nI_clamp (by omega)]
  refine ⟨hi84 _ d2, by omega, by omega, fun σ64 e64 => ?_⟩
  have c64 : cpS σ σ64 o o2 (fun a b => cpR a b L.length 0) := (c59.cp hd 12 L.length (by omega) e64).mono (fun k b w => cpR_q w)
  have f64 := fine c64 (by unfold cpR; omega)
  rw [f64, nI_clamp (by omega)]
  refine ⟨hi84 _ (by omega), by omega, by omega, fun σ69 e69 => ?_⟩
  have c69 := c64.cp hd 14 (nF K) (by omega) e69
  have f69 := fine c69 (Or.inl (by unfold cpR; omega))
  rw [f69, nI_clamp (by omega)]
  refine ⟨hi84 _ (by omega), by omega, by omega, fun σ74 e74 => ?_⟩
  have c74 := c69.cp hd 15 (nF K) (by omega) e74
  have f74 := fine c74 (Or.inl (Or.inl (by unfold cpR; omega)))
  rw [f74, nI_clamp (by omega)]
  refine ⟨hi84 _ (by omega), by omega, by omega, fun σ79 e79 => ?_⟩
  have c79 := c74.cp hd 16 (nF K) (by omega) e79
  have f79 := fine c79 (Or.inl (Or.inl (Or.inl (by unfold cpR; omega))))
  rw [f79, nI_clamp (by omega)]
  refine ⟨hi84 _ (by omega), by omega, by omega, fun σ84 e84 => ?_⟩
  have c84 : cpS σ σ84 o o2 (fun a b => cpR a b L.length (nF K)) := (c79.cp hd 17 (nF K) (by omega) e84).mono (fun k b w => cpR_f w)
  exact bc_loop ho hd hR hI hL hday c84 k
end BC
