/-! ===== orders: the class runs them wholly, or not at all ===== -/
section RX3
variable {σ σ0 τ υ : DD} {T : TXT} {K : Nat → Int32} {L0 : List RD} {y : OST} {t m1 m2 u : Nat} {cl : List CLS}
theorem TO.hd {n : Nat} {x : CLS} {P : Int32 → DD → Prop} (hT : TO σ T t m1 m2 u cl) (hx : cl[n]? = some x) (hp : P x.2.2.2.1 σ) : w_Text_headOf T t m1 m2 σ (nI n) 5 P := by
  have hn12 : n < cl.length := by
    by_cases c : n < cl.length
    · exact c
    · rw [List.getElem?_eq_none (by omega)] at hx; cases hx
  obtain ⟨-, q2, ⟨M1, M2, q3, q4, q5, q6, q7, q8⟩, -⟩ := hT
  rw [q2] at q3
  cases q3
  obtain ⟨p0, p1, p2, p3, w0, w1, w2, w3, e0, e1, e2, e3, k4, k5, -⟩ := q8 n x hx
  unfold w_Text_headOf
  rw [show (6 : Int32) = nI 6 from rfl, pk_mul, show nI (n * 6) + 5 = nI (n * 6 + 5) from nI_add _ 5, Nat.mul_comm, nI_clamp (by omega), k5]
  exact ⟨vp_in_nI (by omega) (by omega), hp⟩
theorem TO.len (hT : TO σ T t m1 m2 u cl) : cl.length ≤ 12 ∧ gI σ t 0 = nI cl.length := by
  obtain ⟨-, q2, ⟨M1, M2, q3, q4, q5, q6, q7, q8⟩, -⟩ := hT
  exact ⟨q6, q7⟩
theorem drop_get {n : Nat} {x : CLS} (h : cl[n]? = some x) : cl.drop n = x :: cl.drop (n + 1) := by
  have hn : n < cl.length := by
    by_cases c : n < cl.length
    · exact c
    · rw [List.getElem?_eq_none (by omega)] at h; cases h
  rw [List.drop_eq_getElem_cons hn]
  rw [List.getElem?_eq_getElem hn] at h
  cases h; rfl
theorem s_runWholly {post : Int32 → DD → Prop} {d0 : Nat} (hX : XS σ T K L0) (hday : gI σ 208 0 = nI d0) (hd : d0 ≤ 999) (hLd : ∀ z, z ∈ L0 → z.2.2 ≤ d0) (hL : L0.length ≤ 24) (hT : TO σ T t m1 m2 u cl)
    (k1 : ∀ y', allO K 0 cl (L0, d0, 0, -1) = .inr y' → ∀ τ, OX σ τ T K L0 y' → post (nI y'.2.2.1) τ)
    (k0 : ∀ w n, allO K 0 cl (L0, d0, 0, -1) = .inl (w, n) → (w = -3 ∨ w = -5) → ∀ τ y', OX σ τ T K L0 y' → post w (sI (sI (sI τ 200 8 (nI L0.length)) 208 0 (nI d0)) 60 6 (nI n))) : w_Ord_runWholly T t m1 m2 σ post := by
  unfold w_Ord_runWholly
  intro v14 e14 v16 e16 σ18 e18 σ20 e20
  rw [hX.2.1.1] at e14
  rw [hday] at e16
  subst e14; subst e16
  have b20 : AgX (fun o k => o = 60 ∧ (k = 4 ∨ k = 5)) noL σ σ20 := by rw [e20, e18]; exact (AgX.put (by omega)).set (by omega)
  have hO : OX σ σ20 T K L0 (L0, d0, 0, -1) := by
    refine ⟨b20.mono (fun o k w => Or.inr (Or.inr (Or.inr w))) (fun _ w => absurd w (fun z => z)), hX.lo b20 (by omega), ?_, hd, hLd, hL, ⟨[], (List.append_nil _).symm⟩, ?_, ?_⟩
    · rw [b20.i _ _ (by omega)]; exact hday
    · rw [e20, gI_sI, if_neg (by omega), e18, gI_same]; rfl
    · rw [e20, gI_same]
  have hT20 : TO σ20 T t m1 m2 u cl := hT.ag b20 (by omega)
  have hlen := hT.len.1
  generalize hR : allO K 0 cl (L0, d0, 0, -1) = R at k1 k0
  unfold w_Ord_runWholly_l31
  refine LoopN (fun q z => ∃ n y, q = cl.length - n ∧ n ≤ cl.length ∧ z.2 = nI n ∧ OX σ z.1 T K L0 y ∧ TO z.1 T t m1 m2 u cl ∧ allO K n (cl.drop n) y = R) ?_ (n := cl.length) ⟨0, _, rfl, Nat.zero_le _, rfl, hO, hT20, hR⟩
  clear hR hO hT20 b20 e20 e18
  rintro q ⟨υ, a4⟩ KK ⟨n, y, hq, hn, e4, hO, hTu, hR⟩ ih
  simp only [] at e4 hO hTu ⊢
  subst e4
  unfold w_Ord_runWholly_b31
  rw [hTu.len.2, nI_leI (by omega) (by omega), hO.2.2.2.2.2.2.2.1]
  refine ⟨fun z => ?_, fun z => ?_⟩
  · rw [List.drop_eq_nil_of_le z] at hR
    exact k1 y hR.symm υ hO
  · obtain ⟨x, hx⟩ : ∃ x, cl[n]? = some x := ⟨cl[n]'(by omega), List.getElem?_eq_getElem (by omega)⟩
    rw [drop_get hx] at hR
    obtain ⟨-, tm, htm, etm⟩ := (hTu.2.2.2.2.2 x (List.mem_of_getElem? hx)).2
    refine hTu.hd hx ?_
    rw [etm]
    have hR' : (match repO K x tm y with | .inl w => .inl (w, n) | .inr y' => allO K (n + 1) (cl.drop (n + 1)) y') = R := by
      rw [← hR, allO, etm, nI_clamp (by omega)]
      cases repO K x tm y <;> rfl
    clear hR
    generalize hr : repO K x tm y = r at hR'
    unfold w_Ord_runWholly_l52
    refine LoopN (fun q z => ∃ k y', q = tm - k ∧ k ≤ tm ∧ z.2 = nI k ∧ OX σ z.1 T K L0 y' ∧ TO z.1 T t m1 m2 u cl ∧ repO K x (tm - k) y' = r) ?_ (n := tm) ⟨0, y, rfl, Nat.zero_le _, rfl, hO, hTu, hr⟩
    clear hr hO hTu
    rintro q2 ⟨υ2, a6⟩ K2 ⟨k, y', hq2, hk, e6, hO, hTu, hr⟩ ih2
    simp only [] at e6 hO hTu ⊢
    subst e6
    unfold w_Ord_runWholly_b52
    rw [nI_leI (by omega) (by omega)]
    refine ⟨fun z2 => ?_, fun z2 => ?_⟩
    · rw [show tm - k = 0 by omega] at hr
      rw [← hr] at hR'
      rw [nI_1]
      exact ih (cl.length - (n + 1)) _ (by omega) ⟨n + 1, y', rfl, by omega, rfl, hO, hTu, hR'⟩
    · obtain ⟨p, hp⟩ : ∃ p, tm - k = p + 1 := ⟨tm - k - 1, by omega⟩
      rw [hp, repO] at hr
      refine runX_1 hO hTu hx (fun y2 h1 τ hOt hTt => ⟨fun _ => ?_, fun w => absurd rfl w⟩) (fun w h1 hw τ y2 hOt hTt => ⟨fun z3 => ?_, fun _ σ5 e5 σ7 e7 σ9 e9 => ?_⟩)
      · rw [nI_1]
        rw [h1] at hr
        exact ih2 (tm - (k + 1)) _ (by omega) ⟨k + 1, y2, rfl, by omega, rfl, hOt, hTt, by rw [show tm - (k + 1) = p by omega]; exact hr⟩
      · rcases hw with h | h <;> rw [h] at z3 <;> exact absurd z3 (by decide)
      · rw [h1] at hr
        rw [← hr] at hR'
        have kk := k0 w n hR'.symm hw τ y2 hOt
        rw [← e5, ← e7, ← e9] at kk
        exact kk
end RX3
