/-! ===== orders: the model runs them all ===== -/
section RN2
variable {σ σ0 τ υ : DD} {N i l j l' : Nat} {c v : Nat → Int32} {K : Nat → Int32} {L0 : List RD} {y : OST}
theorem s_runs {x : CLS} {post : Int32 → DD → Prop} (hO : OM σ0 σ K L0 y N c v) (h47 : gI σ 0 47 = nI (2400 + i)) (hi : i ≤ N) (hl : l ≤ 50) (hx : pOrder c v i l = .inr (j, l', x))
    (k1 : ∀ y', repO K x x.2.2.2.1.toNatClampNeg y = .inr y' → ∀ τ, OM σ0 τ K L0 y' N c v → gI τ 0 47 = nI (2400 + (j + 1)) → post 0 τ)
    (k0 : ∀ w, repO K x x.2.2.2.1.toNatClampNeg y = .inl w → ∀ τ r y', OM σ0 τ K L0 y' N c v → ¬ r = 0 → (r = -5 ↔ w = -5) → (w = -3 ∨ w = -5) → post r τ) : w_M_runs σ (nI (2400 + N)) post := by
  have hv := hO.2.2.2.2.2.2.2.2.2.2.2.2.2
  obtain ⟨hin, t, ht, et⟩ := ord_in hv hx
  rw [et, nI_clamp (by omega)] at k1 k0
  unfold w_M_runs
  refine s_goes (live := false) hO.2.1 hO.2.2.1 hO.2.2.2.1 hO.2.2.2.2.2.2.2.1 hO.2.2.2.2.2.2.2.2.1 hO.2.2.2.2.2.2.2.2.2 h47 hi hl hx (fun τ a hM z48 z22 z49 hh _ => ?_)
  intro v15 e15 v17 e17
  rw [z48, et] at e15
  rw [z22] at e17
  subst e15; subst e17
  have hOt : OM σ0 τ K L0 y N c v := hO.gi a hM (fun o k w => ⟨Or.inl w, by unfold goP soP qP at w; omega, by unfold goP soP qP at w; omega⟩)
  have g47 : gI τ 0 47 = nI (2400 + i) := by rw [a _ _ (by unfold goP soP qP; omega)]; exact h47
  generalize hR : repO K x t y = R at k1 k0
  unfold w_M_runs_l19
  refine LoopN (fun m z => ∃ k y', m = t - k ∧ k ≤ t ∧ z.2 = nI k ∧ OM σ0 z.1 K L0 y' N c v ∧ gI z.1 0 47 = nI (2400 + i) ∧ repO K x (t - k) y' = R) ?_ (n := t) ⟨0, y, rfl, Nat.zero_le _, rfl, hOt, g47, hR⟩
  clear hR hOt g47
  rintro m ⟨υ, a4⟩ KK ⟨k, y', hm, hk, e4, hOu, g47, hR⟩ ih
  simp only [] at e4 hOu g47 ⊢
  subst e4
  unfold w_M_runs_b19
  rw [nI_leI (by omega) (by omega)]
  refine ⟨fun z σ2 e2 => ?_, fun z => ?_⟩
  · have hkt : t - k = 0 := by omega
    rw [hkt] at hR
    have b2 : Ag (fun o k => o = 0 ∧ k = 47) υ σ2 := by rw [e2]; exact Ag.put ⟨rfl, rfl⟩
    refine k1 y' hR.symm σ2 (hOu.gi (GI.of b2 (fun o k w => w)) (hOu.2.1.lo b2 (by omega)) (fun o k w => ⟨Or.inr (Or.inr (Or.inr (by omega))), by omega, by omega⟩)) ?_
    rw [e2, gI_same, Nat.add_assoc]
  · obtain ⟨q, hq⟩ : ∃ q, t - k = q + 1 := ⟨t - k - 1, by omega⟩
    rw [hq] at hR
    rw [nI_1]
    refine run_1 (KK := fun σ => KK (σ, nI (k + 1))) hOu g47 hi hl hx hin (fun y2 h1 τ2 hO2 g2 => ?_) (fun w h1 τ2 r y2 hO2 q1 q2 q3 => ?_)
    · refine ih (t - (k + 1)) _ (by omega) ⟨k + 1, y2, rfl, by omega, rfl, hO2, g2, ?_⟩
      rw [show t - (k + 1) = q by omega, ← hR, repO, h1]
    · exact k0 w (by rw [← hR, repO, h1]) τ2 r y2 hO2 q1 q2 q3
theorem ord_le {x : CLS} (hc : ∀ k, N ≤ k → c k = 0) (hx : pOrder c v i l = .inr (j, l', x)) (hi : i ≤ N) (hl : l ≤ 50) : j ≤ N ∧ l' ≤ 50 := by
  have tm : ∀ h A B i l, i ≤ N → l ≤ 50 → pTimes true c v h A B i l = .inr (j, l', x) → j ≤ N ∧ l' ≤ 50 := by
    intro h A B i l hi hl hp
    have fi : ∀ t i, i ≤ N → pIf true c v h A B t i l = .inr (j, l', x) → j ≤ N ∧ l' ≤ 50 := by
      intro t i hi hp
      obtain ⟨C, -, h4⟩ := pIf_inv hp
      rcases h4 with ⟨z, hT⟩ | ⟨z, z1, z2, -⟩
      · have hlt : i < N := lt_of_c hc (by rw [z]; decide)
        have := (Prg_test (o := true) (v := v) hc 8 (i + 1) l hlt hl).1 j l' C hT
        omega
      · omega
    unfold pTimes at hp
    by_cases c25 : c i = 25
    · rw [if_pos c25] at hp
      by_cases cn : c (i + 1) = 50 ∧ 1 ≤ v (i + 1) ∧ v (i + 1) ≤ 20
      · rw [if_pos cn] at hp
        have hlt : i + 1 < N := lt_of_c hc (by rw [cn.1]; decide)
        exact fi _ (i + 2) hlt hp
      · rw [if_neg cn] at hp; cases hp
    · rw [if_neg c25] at hp
      exact fi _ i hi hp
  have prg := Prg_sum (o := true) (v := v) hc 8
  unfold pOrder at hx
  by_cases c22 : c i = 22
  · have hlt : i < N := lt_of_c hc (by rw [c22]; decide)
    rw [if_pos c22] at hx
    cases h1 : pSum true c v 8 (i + 1) l with
    | inl w => rw [h1] at hx; cases hx
    | inr w =>
      obtain ⟨j1, l1, A⟩ := w
      rw [h1] at hx
      simp only [] at hx
      have hj1 := (prg (i + 1) l hlt hl).1 j1 l1 A h1
      by_cases c23 : c j1 = 23
      · rw [if_pos c23] at hx
        have hlt1 : j1 < N := lt_of_c hc (by rw [c23]; decide)
        cases h2 : pSum true c v 8 (j1 + 1) l1 with
        | inl w => rw [h2] at hx; cases hx
        | inr w =>
          obtain ⟨j2, l2, B⟩ := w
          rw [h2] at hx
          have hj2 := (prg (j1 + 1) l1 hlt1 hj1.2.2.2).1 j2 l2 B h2
          exact tm 22 A B j2 l2 hj2.2.1 hj2.2.2.2 hx
      · rw [if_neg c23] at hx; cases hx
  · rw [if_neg c22] at hx
    by_cases c24 : c i = 24
    · rw [if_pos c24] at hx
      have hlt : i < N := lt_of_c hc (by rw [c24]; decide)
      exact tm 24 d1 d1 (i + 1) l hlt hl hx
    · rw [if_neg c24] at hx; cases hx
theorem pGo_inv {m : Nat} {xs : List CLS} (hc : ∀ k, N ≤ k → c k = 0) (h : pGo true c v N m i l = .inr xs) (hi : i ≤ N) (hl : l ≤ 50) : ∃ j l' x xs', pOrder c v i l = .inr (j, l', x) ∧ xs = x :: xs' ∧ i < N ∧ l' ≤ 50 ∧ ((xs' = [] ∧ j = N) ∨ ∃ m', m = m' + 1 ∧ j < N ∧ pGo true c v N m' (j + 1) l' = .inr xs') := by
  unfold pGo at h
  cases h1 : pOne true c v i l with
  | inl e => rw [h1] at h; cases h
  | inr q =>
    obtain ⟨j, l', x⟩ := q
    rw [h1] at h
    simp only [] at h
    have hx : pOrder c v i l = .inr (j, l', x) := h1
    have hlt : i < N := by
      unfold pOrder at hx
      by_cases c22 : c i = 22
      · exact lt_of_c hc (by rw [c22]; decide)
      · rw [if_neg c22] at hx
        by_cases c24 : c i = 24
        · exact lt_of_c hc (by rw [c24]; decide)
        · rw [if_neg c24] at hx; cases hx
    have hjl : j ≤ N ∧ l' ≤ 50 := ord_le hc hx hi hl
    cases h2 : pMore true c v N m j l' with
    | inl e => rw [h2] at h; cases h
    | inr xs' =>
      rw [h2] at h
      cases h
      refine ⟨j, l', x, xs', hx, rfl, hlt, hjl.2, ?_⟩
      by_cases c9 : c j = 159
      · cases m with
        | zero => unfold pMore at h2; rw [if_pos c9] at h2; cases h2
        | succ m =>
          rw [pMore_go c9] at h2
          exact Or.inr ⟨m, rfl, lt_of_c hc (by rw [c9]; decide), h2⟩
      · have h3 : (if j < N then (.inl j : Nat ⊕ List CLS) else .inr []) = .inr xs' := by
          cases m with
          | zero => unfold pMore at h2; rw [if_neg c9] at h2; exact h2
          | succ m => rw [pMore, if_neg c9] at h2; exact h2
        by_cases cN : j < N
        · rw [if_pos cN] at h3; cases h3
        · rw [if_neg cN] at h3; cases h3
          exact Or.inl ⟨rfl, by omega⟩
theorem ord_loop {a1 a2 : Int32} {m n : Nat} {xs : List CLS} {post : Int32 → DD → Prop} (hm : m ≤ 11) (hO : OM σ0 σ K L0 y N c v) (h47 : gI σ 0 47 = nI (2400 + i)) (hi : i ≤ N) (hl : l ≤ 50) (hx : pGo true c v N m i l = .inr xs)
    (k1 : ∀ y', allO K n xs y = .inr y' → ∀ τ, OM σ0 τ K L0 y' N c v → w_M_good τ (nI y'.2.2.1) (fun r2 σ3 => post r2 σ3))
    (k0 : ∀ w n', allO K n xs y = .inl (w, n') → ∀ τ y', OM σ0 τ K L0 y' N c v → (w = -3 ∨ w = -5) → w_M_refuses (sI (sI (sI τ 4 401 a1) 4 395 a2) 0 44 (nI n')) w (fun r σ => post r σ)) : w_M_orders_l78 post σ a1 a2 (nI (2400 + N)) (nI n) := by
  have hN := hO.2.2.2.2.2.2.2.2.2.1
  have hc := hO.2.2.2.2.2.2.2.2.2.2.2.2.1
  generalize hR : allO K n xs y = R at k1 k0
  unfold w_M_orders_l78
  refine LoopN (fun q z => (∃ n y', q = 0 ∧ z.2 = nI n ∧ OM σ0 z.1 K L0 y' N c v ∧ gI z.1 0 47 = nI (2400 + (N + 1)) ∧ R = .inr y') ∨ ∃ n i l m xs y', q = m + 1 ∧ z.2 = nI n ∧ OM σ0 z.1 K L0 y' N c v ∧ gI z.1 0 47 = nI (2400 + i) ∧ i ≤ N ∧ l ≤ 50 ∧ pGo true c v N m i l = .inr xs ∧ allO K n xs y' = R) ?_ (n := m + 1) (Or.inr ⟨n, i, l, m, xs, y, rfl, rfl, hO, h47, hi, hl, hx, hR⟩)
  clear hR hO h47 hi hl hx hm
  rintro q ⟨υ, a4⟩ KK hh ih
  simp only [] at hh ⊢
  unfold w_M_orders_b78
  rcases hh with ⟨n, y', hq, e4, hO, h47, hR⟩ | ⟨n, i, l, m, xs, y', hq, e4, hO, h47, hi, hl, hx, hR⟩
  · rw [h47, nI_leI (by omega) (by omega), hO.2.2.2.2.2.2.2.1]
    exact ⟨fun _ => k1 y' hR υ hO, fun z => absurd (by omega) z⟩
  · subst e4
    obtain ⟨j, l', x, xs', h1, hxs, hlt, hl', hrest⟩ := pGo_inv hc hx hi hl
    subst hxs
    rw [h47, nI_leI (by omega) (by omega)]
    refine ⟨fun z => by omega, fun _ => s_runs hO h47 hi hl h1 (fun y2 h2 τ hOt g47 => ⟨fun z => absurd rfl z, fun _ => ?_⟩) (fun w h2 τ r y2 hOt q1 q2 q3 => ⟨fun _ σ7 e7 σ9 e9 σ11 e11 => ?_, fun z => absurd z q1⟩)⟩
    · rw [nI_1]
      have hR2 : allO K (n + 1) xs' y2 = R := by rw [← hR, allO, h2]
      rcases hrest with ⟨hx', hjN⟩ | ⟨m', hm', hjN, hg⟩
      · rw [hx'] at hR2
        exact ih 0 _ (by omega) (Or.inl ⟨n + 1, y2, rfl, rfl, hOt, by rw [← hjN]; exact g47, hR2.symm⟩)
      · exact ih (m' + 1) _ (by omega) (Or.inr ⟨n + 1, j + 1, l', m', xs', y2, rfl, rfl, hOt, g47, hjN, hl', hg, hR2⟩)
    · have hR2 : R = .inl (w, n) := by rw [← hR, allO, h2]
      have kk := k0 w n hR2 τ y2 hOt q3
      rw [← e7, ← e9, ← e11] at kk
      refine ⟨fun z => ?_, fun z => ?_⟩
      · rcases q3 with w3 | w3
        · rw [w3] at kk; exact kk
        · exact absurd (q2.2 w3) z
      · rw [q2.1 z] at kk; exact kk
end RN2
