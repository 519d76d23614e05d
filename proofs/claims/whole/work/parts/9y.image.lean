/-! ===== an image is kept ===== -/
section IG
variable {m x x1 σ τ : DD} {T : TXT} {n b : Nat}
theorem s_Mimage {k : Nat} {post : Int32 → DD → Prop} (hk : k < 2) (kk : ∀ τ, Ag (fun o p => (o = 5 ∧ 6012 * k ≤ p ∧ p < 6012 * k + 6012) ∨ (o = 6 ∧ p = k)) σ τ → (∀ p, p < 6012 → gI τ 5 (6012 * k + p) = gI σ 4 p) → gI τ 6 k = 1 → w_M_good τ 0 (fun r2 σ3 => post r2 σ3)) : w_M_image_l17 post σ (nI k) 0 := by
  unfold w_M_image_l17
  refine LoopN (fun q y => ∃ i, q = 6012 - i ∧ i ≤ 6012 ∧ y.2 = nI i ∧ Ag (fun o p => o = 5 ∧ 6012 * k ≤ p ∧ p < 6012 * k + 6012) σ y.1 ∧ ∀ p, p < i → gI y.1 5 (6012 * k + p) = gI σ 4 p) ?_ (n := 6012) ⟨0, rfl, by omega, rfl, Ag.refl σ, fun p hp => absurd hp (Nat.not_lt_zero _)⟩
  rintro q ⟨υ, a2⟩ KK ⟨i, hq, hi, e2, ag, hrow⟩ ih
  simp only [] at e2 ag hrow ⊢
  subst e2
  unfold w_M_image_b17
  rw [show (6012 : Int32) ≤ nI i ↔ 6012 ≤ i from nI_leI (a := 6012) (by decide) (by omega), show (6012 : Int32) = nI 6012 from rfl, pk_mul, nI_add', nI_clamp (by omega), nI_clamp (by omega), nI_clamp (by omega), nI_1]
  refine ⟨fun z => ⟨vp_in_nI (by omega) (by decide), fun σ2 e2 => ?_⟩, fun z => ⟨vp_in_nI (by omega) (by decide), vp_in_nI (by omega) (by decide), fun σ8 e8 => ?_⟩⟩
  · refine kk σ2 (by rw [e2]; exact (ag.mono (fun o p w => Or.inl w)).set (Or.inr ⟨rfl, rfl⟩)) (fun p hp => ?_) (by rw [e2, gI_same]; decide)
    rw [e2, gI_sI, if_neg (by omega)]; exact hrow p (by omega)
  · refine ih (6012 - (i + 1)) _ (by omega) ⟨i + 1, rfl, by omega, rfl, by simp only []; rw [e8]; exact ag.set (by omega), fun p hp => ?_⟩
    simp only []
    by_cases ep : p = i
    · rw [ep, e8, gI_same, ag.at _ _ (by omega)]
    · rw [e8, gI_sI, if_neg (by omega)]; exact hrow p (by omega)
/-- the class's realm at b becomes the living one; both then have the image -/
theorem p_imageC {k : Nat} (h : INV T m x n) (hn : n < 2 ^ 20) (hkb : (k = 0 ∧ b = 230) ∨ (k = 1 ∧ b = 260)) (hx : ∀ a c, ¬ (b ≤ a ∧ a ≤ b + 20) → gI x1 a c = gI x a c) (hr : ∀ a c, ¬ (b ≤ a ∧ a ≤ b + 20) → ¬ (a = 2 ∧ c = k) → gR x1 a c = gR x a c) (hk : gR x1 2 k = some b) : w_Real_become T b 200 x1 (fun σ => w_Face_granted T σ 0 (fun r x' => w_M_image m (nI k) (fun r' m' => r = r' ∧ INV T m' x' (n + 1) ∧ (∀ c, ¬ c = k → gR x' 2 c = gR x 2 c) ∧ gR x' 2 k = some b))) := by
  obtain ⟨K, L, d, hM, hB, -⟩ := h.b
  obtain ⟨hX, h1, h2, h3, h4, h5, hRS, i0, i1, ⟨v, hv1, hv2⟩, g, hg1, hg2⟩ := hB
  have hI := hX.1.2.2
  have k2 : k < 2 := by omega
  have hR1 : RXs x1 200 T K := hX.1.1.g (by omega) (fun a c w => hx a c (by omega)) (fun c => hr _ _ (by omega) (by omega))
  have hD1 : RXd x1 200 L := hX.2.1.g (fun a c w => hx a c (by omega))
  refine s_become (o := b) (o2 := 200) (by omega) (by omega) hR1 hI hD1 (by rw [hx _ _ (by omega)]; exact h2) (fun x2 bf hR2 hD2 hd2 => s_granted ?_)
  have X : ∀ a c, ¬ (b ≤ a ∧ a ≤ b + 20) → gI x2 a c = gI x a c := fun a c w => by rw [bf.1 _ _ (by omega), hx a c w]
  have R : ∀ a c, ¬ (b ≤ a ∧ a ≤ b + 20) → ¬ (a = 2 ∧ c = k) → gR x2 a c = gR x a c := fun a c w w2 => by rw [bf.2.2 _ _ (by omega), hr a c w w2]
  have hX2 : XS x2 T K L := by
    refine ⟨⟨hX.1.1.g (by omega) (fun a c w => X a c (by omega)) (fun c => R _ _ (by omega) (by omega)), ?_, hI⟩, hX.2.1.g (fun a c w => X a c (by omega)), hX.2.2⟩
    obtain ⟨n', c1, c2, c3, c4⟩ := hX.1.2.1
    refine ⟨n', c1, c2, by rw [X _ _ (by omega)]; exact c3, fun a r w z1 z2 z3 => ?_⟩
    rw [X _ _ (by omega), X _ _ (by omega)]; exact c4 a r w z1 z2 z3
  have hin : inB (nI k) 0 1 = true := by
    have : k = 0 ∨ k = 1 := by omega
    rcases this with w | w <;> subst w <;> decide
  unfold w_M_image
  refine s_lies ?_
  rw [hin]
  refine ⟨fun _ => s_Mimage k2 (fun m1 ag hrow h61 => s_good ⟨rfl, ?_, fun c hc => R _ _ (by omega) (fun z => hc z.2), (bf.2.2 _ _ (by omega)).trans hk⟩), fun w => absurd w (by decide)⟩
  have hM1 : MS m1 K L := hM.lo ag (by omega)
  have img : IMG m1 x2 T k b := by
    refine Or.inr ⟨h61, by rw [bf.2.2 _ _ (by omega)]; exact hk, K, L, d, hI, hX.2.2.1, hX.2.2.2, h4, h3, h5, fun p hp => ?_, ?_, ?_, fun i y hy => ?_, hR2, hD2, hd2⟩
    · have : p < 6012 := by unfold dyn at hp; omega
      rw [hrow p this]; exact hM.1.1 p hp
    · rw [hrow _ (by omega)]; exact h1
    · rw [hrow _ (by omega)]; exact hM.2.2.1.1
    · have hil : i < L.length := by
        by_cases c : i < L.length
        · exact c
        · rw [List.getElem?_eq_none (by omega)] at hy; cases hy
      rw [hrow _ (by omega), hrow _ (by omega), hrow _ (by omega)]; exact hM.2.2.1.2.2 i y hy
  have rest : ∀ k' b', (k' = 0 ∧ b' = 230) ∨ (k' = 1 ∧ b' = 260) → IMG m x T k' b' → IMG m1 x2 T k' b' := by
    intro k' b' hkb' him
    by_cases ek : k' = k
    · have eb : b' = b := by omega
      rw [ek, eb]; exact img
    · rcases him with ⟨q1, q2⟩ | ⟨q1, q2, K', L', d', w1, w2, w3, w4, w5, w6, w7, w8, w9, w10, w11, w12, w13⟩
      · exact Or.inl ⟨by rw [ag.at _ _ (by omega)]; exact q1, by rw [R _ _ (by omega) (by omega)]; exact q2⟩
      · refine Or.inr ⟨by rw [ag.at _ _ (by omega)]; exact q1, by rw [R _ _ (by omega) (by omega)]; exact q2, K', L', d', w1, w2, w3, w4, w5, w6, fun p hp => ?_, ?_, ?_, fun i y hy => ?_, w11.g (by omega) (fun a c w => X a c (by omega)) (fun c => R _ _ (by omega) (by omega)), w12.g (fun a c w => X a c (by omega)), by rw [X _ _ (by omega)]; exact w13⟩
        · have : p < 6012 := by unfold dyn at hp; omega
          rw [ag.at _ _ (by omega)]; exact w7 p hp
        · rw [ag.at _ _ (by omega)]; exact w8
        · rw [ag.at _ _ (by omega)]; exact w9
        · have hil : i < L'.length := by
            by_cases c : i < L'.length
            · exact c
            · rw [List.getElem?_eq_none (by omega)] at hy; cases hy
          rw [ag.at _ _ (by omega), ag.at _ _ (by omega), ag.at _ _ (by omega)]; exact w10 i y hy
  refine INB.good (K := K) (L := L) (d := d) hM1.z ⟨hX2, ?_, ?_, h3, h4, h5, ?_, rest 0 230 (Or.inl ⟨rfl, rfl⟩) i0, rest 1 260 (Or.inr ⟨rfl, rfl⟩) i1, ⟨v, hv1, ?_⟩, g, by omega, ?_⟩ hn
  · rw [ag.at _ _ (by omega)]; exact h1
  · rw [X _ _ (by omega)]; exact h2
  · refine hRS.fr (fun o p w => ag.at o p (by unfold pr2 at w; omega)) (fun o p w => ?_)
    exact X _ _ (by unfold xr2 at w; omega)
  · rw [ag.at _ _ (by omega)]; exact hv2
  · rw [X _ _ (by omega)]; exact hg2
end IG
