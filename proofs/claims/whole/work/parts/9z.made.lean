/-! ===== more texts stand; a text is made ===== -/
def TLe (T T' : TXT) : Prop := ∀ t v, T t = some v → T' t = some v
section MT
variable {m x σ τ : DD} {T T' : TXT} {n G b t : Nat} {o : Bool} {cl : List CLS} {K : Nat → Int32} {L : List RD} {d : Nat}
theorem TxtOK.tle (h : TxtOK σ T t o cl) (hT : TLe T T') : TxtOK σ T' t o cl := by
  obtain ⟨m1, m2, q, r⟩ := h
  exact ⟨m1, m2, hT _ _ q, r⟩
theorem RXs.tle (h : RXs σ b T K) (hT : TLe T T') : RXs σ b T' K := by
  obtain ⟨r1, r2, r3, r4, r5, r6, r7, r8, r9, r10, r11, r12⟩ := h
  refine ⟨r1, r2, r3, r4, r5, r6, r7, r8, r9, r10, r11, fun f h1 => ?_⟩
  obtain ⟨t, q1, q2, q3⟩ := r12 f h1
  exact ⟨t, q1, q2, q3.tle hT⟩
theorem XS.tle (h : XS σ T K L) (hT : TLe T T') : XS σ T' K L := ⟨⟨h.1.1.tle hT, h.1.2⟩, h.2⟩
theorem IMG.tle {k : Nat} (h : IMG m x T k b) (hT : TLe T T') : IMG m x T' k b := by
  rcases h with h | ⟨h1, h2, K, L, d, q1, q2, q3, q4, q5, q6, q7, q8, q9, q10, q11, q12, q13⟩
  · exact Or.inl h
  · exact Or.inr ⟨h1, h2, K, L, d, q1, q2, q3, q4, q5, q6, q7, q8, q9, q10, q11.tle hT, q12, q13⟩
theorem INB.tle (h : INB T m x n G K L d) (hT : TLe T T') : INB T' m x n G K L d := by
  obtain ⟨h1, h2, h3, h4, h5, h6, h7, h8, h9, h10⟩ := h
  exact ⟨h1.tle hT, h2, h3, h4, h5, h6, h7, h8.tle hT, h9.tle hT, h10⟩
theorem INV.tle (h : INV T m x n) (hT : TLe T T') : INV T' m x n := by
  obtain ⟨K, L, d, hM, hB, e⟩ := h.b
  exact INB.inv hM (hB.tle hT) e
/-- the data with a text made of what the parser has -/
def mkT (σ : DD) (t : Nat) : DD := (fun a c => if a = t then (if c = 0 then gI σ 30 5 else if c = 1 then gI σ 30 7 else 0) else if a = t + 3 then gI σ 32 c else if a = t + 4 then gI σ 33 c else gI σ a c, σ.2)
def adT (T : TXT) (t n1 n2 : Nat) : TXT := fun q => if q = t then some (n1, n2) else T q
theorem adT_le {n1 n2 : Nat} (h : T t = none) : TLe T (adT T t n1 n2) := by
  intro q v hq
  unfold adT
  by_cases c : q = t
  · rw [c, h] at hq; cases hq
  · rw [if_neg c]; exact hq
theorem mkT_i {a c : Nat} (h : ¬ a = t ∧ ¬ a = t + 3 ∧ ¬ a = t + 4) : gI (mkT σ t) a c = gI σ a c := by
  show (if a = t then _ else if a = t + 3 then _ else if a = t + 4 then _ else gI σ a c) = _
  rw [if_neg h.1, if_neg h.2.1, if_neg h.2.2]
theorem mkT_c : gI (mkT σ t) (t + 3) = gI σ 32 := by
  funext c
  show (if t + 3 = t then _ else if t + 3 = t + 3 then gI σ 32 c else _) = _
  rw [if_neg (by omega), if_pos rfl]
theorem mkT_h : gI (mkT σ t) (t + 4) = gI σ 33 := by
  funext c
  show (if t + 4 = t then _ else if t + 4 = t + 3 then _ else if t + 4 = t + 4 then gI σ 33 c else _) = _
  rw [if_neg (by omega), if_neg (by omega), if_pos rfl]
theorem mkT_0 : gI (mkT σ t) t 0 = gI σ 30 5 := by
  show (if t = t then (if 0 = 0 then gI σ 30 5 else _) else _) = _
  rw [if_pos rfl, if_pos rfl]
theorem mkT_1 : gI (mkT σ t) t 1 = gI σ 30 7 := by
  show (if t = t then (if 1 = 0 then _ else if 1 = 1 then gI σ 30 7 else _) else _) = _
  rw [if_pos rfl, if_neg (by decide), if_pos rfl]
theorem txt_made {bb : Nat → Nat} {sz i l s u : Nat} (h : CS9 σ τ bb sz o i l s u cl) (h12 : cl.length ≤ 12) (hi : i ≤ 400) : TxtOK (mkT τ t) (adT T t s (6 * cl.length)) t o cl ∧ gI (mkT τ t) t 1 = nI u ∧ u < 2 ^ 16 ∧ ∀ x, x ∈ cl → ClP u x := by
  have hs := h.2.1.2.2.2.2.2.1
  refine ⟨⟨s, 6 * cl.length, by unfold adT; rw [if_pos rfl], by omega, rfl, h12, by rw [mkT_0]; exact h.2.2.1, fun c x hx => ?_⟩, by rw [mkT_1]; exact h.2.1.2.2.2.1, h.2.1.2.2.2.2.1, h.2.2.2.2.2⟩
  obtain ⟨p0, p1, p2, p3, w0, w1, w2, w3, q0, q1, q2, q3, q4, k4, k5, s0, s1, s2⟩ := h.2.2.2.2.1 c x hx
  rw [mkT_c, mkT_h]
  exact ⟨p0, p1, p2, p3, w0, w1, w2, w3, q1, q2, q3, q4, k4, k5, s0, s1, s2⟩
end MT
