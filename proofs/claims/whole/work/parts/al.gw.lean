/-! ===== what stands between two calls of the law ===== -/
def GW (b : BZ) (T : TXT) (w v : WO) (x m : DD) (n : Nat) : Prop := KX b T w ∧ wFl w ∧ Dj w v ∧ INV T m x n ∧ (∀ t u, T t = some u → 300 ≤ t) ∧ (∃ M, 300 ≤ M ∧ Bdw w M) ∧ ∀ k b9, prK k b9 → (gR x 2 k = none ∧ ∀ j, j ≤ 20 → wLy w (b9 + j) = none) ∨ (gR x 2 k = some b9 ∧ LyR w b9)
def FX (X : CT) (v : WO) (b : BZ) (z : EXa) (A : Nat → Prop) (b0 N : Nat) (xs : Nat → Int32) : Prop := KM X v ∧ EXZ b z ∧ (∀ q, X.s.heap.size ≤ q → A q) ∧ SC X (A, 0, 0) b0 N xs ∧ N ≤ 3584
def KT (X : CT) (v : WO) (b : BZ) (A : Nat → Prop) (c0 s0 : Nat) (Q : State → Prop) (b0 p n : Nat) : Prop := ∀ w T x m c s, CLw X w (A, c, s) b → GW b T w v x m (n + 1) → c ≤ c0 + 15 → s ≤ s0 + 804 → gV X w v (A, c, s) Q x m 1391 [(0, .ref b0), (1, .ref (wAd w 0)), (2, .ref (wAd v 0)), (3, .int (nI p))] []
theorem in_p {p N j : Nat} (hp : p + 7 ≤ N) (hN : N ≤ 3584) (hj : j < 7) : vp_in (nI p + nI j) N := by
  rw [nI_add']; exact vp_in_nI (by omega) (by omega)
theorem in_0 {p N : Nat} (hp : p + 7 ≤ N) (hN : N ≤ 3584) : vp_in (nI p) N := vp_in_nI (by omega) (by omega)
theorem in_1 {p N : Nat} (hp : p + 7 ≤ N) (hN : N ≤ 3584) : vp_in (nI p + 1) N := in_p (j := 1) hp hN (by decide)
theorem in_2 {p N : Nat} (hp : p + 7 ≤ N) (hN : N ≤ 3584) : vp_in (nI p + 2) N := in_p (j := 2) hp hN (by decide)
theorem in_3 {p N : Nat} (hp : p + 7 ≤ N) (hN : N ≤ 3584) : vp_in (nI p + 3) N := in_p (j := 3) hp hN (by decide)
theorem in_4 {p N : Nat} (hp : p + 7 ≤ N) (hN : N ≤ 3584) : vp_in (nI p + 4) N := in_p (j := 4) hp hN (by decide)
theorem in_5 {p N : Nat} (hp : p + 7 ≤ N) (hN : N ≤ 3584) : vp_in (nI p + 5) N := in_p (j := 5) hp hN (by decide)
theorem in_6 {p N : Nat} (hp : p + 7 ≤ N) (hN : N ≤ 3584) : vp_in (nI p + 6) N := in_p (j := 6) hp hN (by decide)
section GWS
variable {X : CT} {w w1 w' v : WO} {L : LIM} {A : Nat → Prop} {b : BZ} {z : EXa} {b0 N M c0 s0 n n1 t s c qt qc qh k b9 : Nat} {xs : Nat → Int32} {T : TXT} {x x1 x' m m1 : DD}
theorem FX.km (F : FX X v b z A b0 N xs) : KM X v := F.1
theorem FX.exz (F : FX X v b z A b0 N xs) : EXZ b z := F.2.1
theorem FX.up (F : FX X v b z A b0 N xs) : ∀ q, X.s.heap.size ≤ q → A q := F.2.2.1
theorem FX.sc (F : FX X v b z A b0 N xs) : SC X (A, c0, s0) b0 N xs := F.2.2.2.1
theorem FX.n3 (F : FX X v b z A b0 N xs) : N ≤ 3584 := F.2.2.2.2
theorem GW.kx (G : GW b T w v x m n) : KX b T w := G.1
theorem GW.fl (G : GW b T w v x m n) : wFl w := G.2.1
theorem GW.dj (G : GW b T w v x m n) : Dj w v := G.2.2.1
theorem GW.inv (G : GW b T w v x m n) : INV T m x n := G.2.2.2.1
theorem GW.t3 (G : GW b T w v x m n) : ∀ t u, T t = some u → 300 ≤ t := G.2.2.2.2.1
theorem GW.bd (G : GW b T w v x m n) : ∃ M, 300 ≤ M ∧ Bdw w M := G.2.2.2.2.2.1
theorem GW.img (G : GW b T w v x m n) : ∀ k b9, prK k b9 → (gR x 2 k = none ∧ ∀ j, j ≤ 20 → wLy w (b9 + j) = none) ∨ (gR x 2 k = some b9 ∧ LyR w b9) := G.2.2.2.2.2.2
theorem GW.y2 (G : GW b T w v x m n) : wLy w 2 = some (lQ 5 2) := G.1.1 2 _ rfl
theorem GW.y0 (G : GW b T w v x m n) : wLy w 0 = some (lO 10 rfX_0 13) := G.1.1 0 _ rfl
theorem GW.ly (G : GW b T w v x m n) (F : FX X v b z A b0 N xs) : LyX w T z := G.1.ly F.2.1
theorem GW.lyF (G : GW b T w v x m n) (F : FX X v b z A b0 N xs) : LyX (wF w False) T z := KX.ly (b := b) (w := wF w False) ⟨G.1.1, G.1.2.1, G.1.2.2.f G.2.1⟩ F.2.1
theorem ne_s {y : Option LY} {u : LY} (h : y = some u) : y ≠ none := by rw [h]; exact fun z => (by cases z)
theorem GW.call (G : GW b T w v x m n) (hi : INV T m1 x1 n1) (im : ∀ k, k < 2 → (gR x1 2 k = none ↔ gR x 2 k = none)) : GW b T w v x1 m1 n1 := by
  refine ⟨G.1, G.2.1, G.2.2.1, hi, G.2.2.2.2.1, G.2.2.2.2.2.1, fun k b9 hk => ?_⟩
  have k2 : k < 2 := by unfold prK at hk; omega
  rcases G.img k b9 hk with ⟨h1, h2⟩ | ⟨h1, h2⟩
  · exact Or.inl ⟨(im k k2).2 h1, h2⟩
  · refine Or.inr ⟨?_, h2⟩
    have hne : ¬ gR x1 2 k = none := fun q => by have := (im k k2).1 q; rw [h1] at this; cases this
    obtain ⟨K, L, d, -, -, -, -, -, -, -, -, i0, i1, -, -⟩ := hi
    rcases hk with ⟨rfl, rfl⟩ | ⟨rfl, rfl⟩
    · rcases i0 with q | q
      · exact absurd q.2 hne
      · exact q.2.1
    · rcases i1 with q | q
      · exact absurd q.2 hne
      · exact q.2.1
theorem wA_cl (hB : Bdw w M) {q : Nat} : wA (clW w M) q ↔ wA w q := by
  constructor
  · rintro ⟨o, y, h1, h2, h3⟩
    have h1' : wLy w o = some y := h1
    exact ⟨o, y, h1', h2, h3.trans (clW_a (hB.1 o (ne_s h1')))⟩
  · rintro ⟨o, y, h1, h2, h3⟩
    exact ⟨o, y, h1, h2, h3.trans (clW_a (hB.1 o (ne_s h1))).symm⟩
theorem clw_cl (C : CLw X w L b) (hB : Bdw w M) : CLw X (clW w M) L b := by
  obtain ⟨⟨c1, c2, c3, c4, c5, c6, c7, c8, c9, c10, c11, c12, c13⟩, ⟨e, z, k⟩, hb, hl⟩ := C
  have hBW : BW b (clW w M) := ⟨e, z, fun q hq => k q ((wA_cl hB).1 hq)⟩
  exact ⟨⟨c1, c2, c3, c4, c5, ⟨c6.1, hBW.zc⟩, c7, c8, c9, fun q hq => c10 q ((wA_cl hB).1 hq), fun q h1 h2 => (wA_cl hB).2 (c11 q h1 h2), c12, c13⟩, hBW, hb, hl⟩
theorem Bdw.mono {M' : Nat} (h : Bdw w M) (hM : M ≤ M') : Bdw w M' := ⟨fun o ho => by have := h.1 o ho; omega, h.2⟩
theorem GW.cl (G : GW b T w v x m n) (hB : Bdw w M) : GW b T (clW w M) v (clX w M x) m n := by
  have hT : ∀ t u, T t = some u → wLy w t ≠ none := fun t u h => ne_s (G.1.2.1 t u.1 u.2 h).1
  have h2 : ∀ k b9, prK k b9 → gR x 2 k = some b9 → wLy w b9 ≠ none := by
    intro k b9 hk hr
    rcases G.img k b9 hk with ⟨h1, -⟩ | ⟨-, h1⟩
    · rw [h1] at hr; cases hr
    · exact ne_s (h1 0 _ rfl)
  have hB' := G.1.2.2
  refine ⟨⟨G.1.1, G.1.2.1, hB'.1, hB'.2.1, fun q hq => hB'.2.2 q ((wA_cl hB).1 hq)⟩, G.2.1, fun o o' h3 h4 => ?_, G.inv.cl hT h2, G.t3, G.bd, fun k b9 hk => ?_⟩
  · rw [clW_a (hB.1 o h3)]; exact G.dj o o' h3 h4
  · rcases G.img k b9 hk with ⟨h1, h3⟩ | ⟨h1, h3⟩
    · exact Or.inl ⟨clX_n.2 h1, h3⟩
    · exact Or.inr ⟨by rw [clX_k (Or.inr ⟨b9, h1, h2 k b9 hk h1⟩)]; exact h1, h3⟩
/-- named anew: nothing refers to a free number -/
theorem clean_all (G : GW b T w v x m n) (C : CLw X w (A, c0, s0) b) : ∃ w1 x1 t, CLw X w1 (A, c0, s0) b ∧ GW b T w1 v x1 m n ∧ wAd w1 0 = wAd w 0 ∧ (∀ (Q : State → Prop) (pc : Nat) (lv : List (Nat × Value)) (st : List Value), gV X w1 v (A, c0, s0) Q x1 m pc lv st → gV X w v (A, c0, s0) Q x m pc lv st) ∧ Fr T t ∧ (∀ o, t ≤ o → wLy w1 o = none) ∧ (∀ o, o < t + 5 → wLy w1 o = none → NR w1 x1 o) := by
  obtain ⟨M, hM, hB⟩ := G.bd
  have hB5 : Bdw w (M + 5) := hB.mono (by omega)
  refine ⟨clW w (M + 5), clX w (M + 5) x, M, clw_cl C hB5, G.cl hB5, clW_a (by omega), fun Q pc lv st k H locs ls a1 a2 b0 d => k H locs ls (clX_wd hB5 a1) a2 b0 d, ⟨hM, fun q u hq => ?_⟩, fun o ho => ?_, fun o h1 h2 => clX_nr hB5 h2 h1⟩
  · have := hB.1 (q + 4) (ne_s (G.1.2.1 q u.1 u.2 hq).2.2); omega
  · show wLy w o = none
    cases e : wLy w o with
    | none => rfl
    | some y => have := hB.1 o (ne_s e); omega
/-- a text more -/
theorem GW.tx (G : GW b T w1 v x1 m n) (hF : Fr T t) (hd : ∀ o, t ≤ o → wLy w1 o = none) (hi : INV (adT T t s (6 * c)) m1 x' n1) (hB : BW b (wTx w1 t qt qc qh s c)) (hDj : Dj (wTx w1 t qt qc qh s c) v) (hr : ∀ k, gR x' 2 k = gR x1 2 k) : GW b (adT T t s (6 * c)) (wTx w1 t qt qc qh s c) v x' m1 n1 := by
  have ht := hF.1
  refine ⟨G.1.tx hF hB, G.2.1, hDj, hi, ?_, ⟨t + 5, by omega, ?_, ?_⟩, ?_⟩
  · intro q u hq
    unfold adT at hq
    by_cases e : q = t
    · omega
    · rw [if_neg e] at hq; exact G.t3 q u hq
  · intro o ho
    apply Decidable.byContradiction
    intro hlt
    rw [wTx_l (by omega)] at ho
    exact ho (hd o (by omega))
  · intro o ci rf N' ho a ha j hj
    by_cases e : o = t
    · subst e
      rw [wTx_t.1] at ho
      cases ho
      unfold rfT at hj
      split at hj
      · cases hj; exact ne_s wTx_t.2.1
      · cases hj; exact ne_s wTx_t.2.2
      · cases hj
    · have e3 : ¬ o = t + 3 := fun q => by rw [q, wTx_t.2.1] at ho; cases ho
      have e4 : ¬ o = t + 4 := fun q => by rw [q, wTx_t.2.2] at ho; cases ho
      rw [wTx_l ⟨e, e3, e4⟩] at ho
      obtain ⟨M, hM, hBd⟩ := G.bd
      have hl := hBd.2 o ci rf N' ho a ha j hj
      have : j < t := by
        apply Decidable.byContradiction
        intro q
        exact hl (hd j (by omega))
      rw [wTx_l (by omega)]; exact hl
  · intro k b9 hk
    have h9 : b9 = 230 ∨ b9 = 260 := by unfold prK at hk; omega
    rcases G.img k b9 hk with ⟨h1, h2⟩ | ⟨h1, h2⟩
    · exact Or.inl ⟨by rw [hr]; exact h1, fun j hj => by rw [wTx_l (by omega)]; exact h2 j hj⟩
    · exact Or.inr ⟨by rw [hr]; exact h1, fun j y hj => by have := LR_le hj; rw [wTx_l (by omega)]; exact h2 j y hj⟩
/-- an image more -/
theorem GW.im (G : GW b T w1 v x1 m n) (hk : prK k b9) (h0 : gR x1 2 k = none) (hI : IMW b T w1 b9 w') (hDj : Dj w' v) (hi : INV T m1 x' n1) (hr : ∀ c, ¬ c = k → gR x' 2 c = gR x1 2 c) (hs : gR x' 2 k = some b9) : GW b T w' v x' m1 n1 := by
  obtain ⟨i1, i2, i3, i4⟩ := hI
  have h9 : b9 = 230 ∨ b9 = 260 := by unfold prK at hk; omega
  have hno : ∀ j, j ≤ 20 → wLy w1 (b9 + j) = none := by
    rcases G.img k b9 hk with ⟨-, h2⟩ | ⟨h1, -⟩
    · exact h2
    · rw [h0] at h1; cases h1
  refine ⟨i1, i4, hDj, hi, G.t3, ?_, fun k' b' hk' => ?_⟩
  · obtain ⟨M, hM, hB⟩ := G.bd
    refine ⟨M, hM, fun o ho => ?_, fun o ci rf N' ho a ha j hj => ?_⟩
    · by_cases e : b9 ≤ o ∧ o ≤ b9 + 20
      · omega
      · rw [(i2 o e).1] at ho; exact hB.1 o ho
    · by_cases e : b9 ≤ o ∧ o ≤ b9 + 20
      · obtain ⟨q, rfl⟩ : ∃ q, o = b9 + q := ⟨o - b9, by omega⟩
        rw [i3 q (by omega)] at ho
        have hrf : rf = rfR b9 := by
          unfold LR at ho
          split at ho <;> first | (cases ho; rfl) | cases ho
        rw [hrf] at hj
        have go : ∀ q', q' ≤ 20 → (∃ y, LR b9 q' = some y) → wLy w' (b9 + q') ≠ none := fun q' hq' hy => by
          obtain ⟨y, hy⟩ := hy
          rw [i3 q' hq', hy]; exact fun z => (by cases z)
        unfold rfR at hj
        split at hj <;> first | (cases hj; exact go _ (by decide) ⟨_, rfl⟩) | cases hj
      · rw [(i2 o e).1] at ho
        have hl := hB.2 o ci rf N' ho a ha j hj
        by_cases e2 : b9 ≤ j ∧ j ≤ b9 + 20
        · exfalso
          have := hno (j - b9) (by omega)
          rw [show b9 + (j - b9) = j by omega] at this
          exact hl this
        · rw [(i2 j e2).1]; exact hl
  · by_cases e : k' = k
    · subst e
      have eb : b' = b9 := by unfold prK at hk hk'; omega
      subst eb
      exact Or.inr ⟨hs, fun q y hq => by rw [i3 q (LR_le hq)]; exact hq⟩
    · have ho : ∀ j, j ≤ 20 → ¬ (b9 ≤ b' + j ∧ b' + j ≤ b9 + 20) := fun j hj => by unfold prK at hk hk'; omega
      rcases G.img k' b' hk' with ⟨h1, h2⟩ | ⟨h1, h2⟩
      · exact Or.inl ⟨by rw [hr k' e]; exact h1, fun j hj => by rw [(i2 _ (ho j hj)).1]; exact h2 j hj⟩
      · exact Or.inr ⟨by rw [hr k' e]; exact h1, fun j y hj => by rw [(i2 _ (ho j (LR_le hj))).1]; exact h2 j y hj⟩
end GWS
