/-! ===== orders: what their words mean ===== -/
def sncI (L : List RD) (a d : Nat) : Int32 := match lat L a d with
  | none => -1
  | some x => nI d - nI x.2.2
def lefI (K : Nat → Int32) (L : List RD) (r d : Nat) : Int32 := if r < nR K then left K L r d else -1
def envI (K : Nat → Int32) (L : List RD) (d dn : Nat) (la : Int32) (j : Nat) : Int32 := if j = 0 then nI d else if j = 1 then ones8 (held K L d) else if j = 2 then nI dn else if j = 3 then la else if j < 12 then sncI L (j - 4) d else lefI K L (j - 12) d
def envO (K : Nat → Int32) (L : List RD) (d dn : Nat) (la : Int32) (j : Nat) : Int64 := i2l (envI K L d dn la j)
theorem lat_no {a d : Nat} : ∀ (L : List RD) (b : Option RD), (∀ x, x ∈ L → ¬ x.1 = a) → L.foldl (latF a d) b = b := by
  intro L
  induction L with
  | nil => intro b _; rfl
  | cons x L ih =>
    intro b h
    rw [List.foldl_cons]
    have : latF a d b x = b := by unfold latF; rw [if_neg (fun z => h x (List.mem_cons_self ..) z.1)]
    rw [this]
    exact ih b (fun y hy => h y (List.mem_cons_of_mem _ hy))
section OE
variable {σ τ : DD} {T : TXT} {K : Nat → Int32} {L : List RD} {d dn : Nat} {la : Int32}
theorem snc_no {a : Nat} (hL : LI K L) (ha : nA K ≤ a) : sncI L a d = -1 := by
  unfold sncI lat
  rw [lat_no L none (fun x hx z => by have := (hL x hx).1; omega)]
def soP (o k : Nat) : Prop := qP o k ∨ o = 27 ∨ o = 28
theorem actB_n {a : Nat} (ha : a < 2 ^ 31) (hI : KI K) : actB K (nI a) = decide (a < nA K) := by
  have h8 := hI.a
  unfold actB
  have : (0 ≤ nI a ∧ nI a < nI (nA K)) ↔ a < nA K := by
    rw [nI_ltI ha (by omega)]
    exact ⟨fun z => z.2, fun z => ⟨nI_pos' ha, z⟩⟩
  exact decide_eq_decide.2 this
theorem rdrB_n {a : Nat} (ha : a < 2 ^ 31) (hI : KI K) : rdrB K (nI a) = decide (a < nR K) := by
  have h8 := hI.r
  unfold rdrB
  have : (0 ≤ nI a ∧ nI a < nI (nR K)) ↔ a < nR K := by
    rw [nI_ltI ha (by omega)]
    exact ⟨fun z => z.2, fun z => ⟨nI_pos' ha, z⟩⟩
  exact decide_eq_decide.2 this
theorem s_setsOrder {post : DD → Prop} (hS : MS σ K L) (hday : gI σ 4 395 = nI d) (hd : d ≤ 999) (h45 : gI σ 0 45 = nI dn) (h46 : gI σ 0 46 = la) (k : ∀ τ, Ag soP σ τ → MS τ K L → gI τ 0 8 = 16 → (∀ j, j < 4 → gI τ 26 j = envI K L d dn la j) → (∀ j, j < 8 → gI τ 27 j = envI K L d dn la (4 + j)) → (∀ j, j < 4 → gI τ 28 j = envI K L d dn la (12 + j)) → post τ) : w_M_setsOrder σ post := by
  have hI := hS.2.1
  have hLI := hS.2.2.2
  unfold w_M_setsOrder w_M_setsOrder_l2
  refine LoopN (fun m y => ∃ a, m = 8 - a ∧ a ≤ 8 ∧ y.2 = nI a ∧ Ag (fun o _ => o = 27) σ y.1 ∧ ∀ j, j < a → gI y.1 27 j = envI K L d dn la (4 + j)) ?_ (n := 8) ⟨0, rfl, by omega, rfl, Ag.refl σ, fun j hj => absurd hj (Nat.not_lt_zero _)⟩
  rintro m ⟨υ, a1⟩ KK ⟨a, hm, ha, e1, ag, hrow⟩ ih
  simp only [] at e1 ag hrow ⊢
  subst e1
  have hSu := hS.lo ag (by omega)
  have hdu : gI υ 4 395 = nI d := by rw [ag.at _ _ (by omega)]; exact hday
  unfold w_M_setsOrder_b2
  rw [show (8 : Int32) ≤ nI a ↔ 8 ≤ a from nI_leI (a := 8) (b := a) (by decide) (by omega)]
  refine ⟨fun z => ?_, fun z => ?_⟩
  · have ha8 : a = 8 := by omega
    subst ha8
    clear ih
    unfold w_M_setsOrder_l72
    refine LoopN (fun m y => ∃ r, m = 4 - r ∧ r ≤ 4 ∧ y.2 = nI r ∧ Ag soP υ y.1 ∧ MS y.1 K L ∧ (∀ j, j < 8 → gI y.1 27 j = gI υ 27 j) ∧ ∀ j, j < r → gI y.1 28 j = envI K L d dn la (12 + j)) ?_ (n := 4) ⟨0, rfl, by omega, rfl, Ag.refl υ, hSu, fun _ _ => rfl, fun j hj => absurd hj (Nat.not_lt_zero _)⟩
    rintro m2 ⟨υ2, a2⟩ K2 ⟨r, hm2, hr, e2, ag2, hS2, h27, hrow2⟩ ih2
    simp only [] at e2 ag2 hS2 h27 hrow2 ⊢
    subst e2
    have hd2 : gI υ2 4 395 = nI d := by rw [ag2.at _ _ (by unfold soP qP; omega)]; exact hdu
    have A : Ag soP σ υ2 := (ag.mono (fun o k w => Or.inr (Or.inl w))).trans ag2
    unfold w_M_setsOrder_b72
    rw [show (4 : Int32) ≤ nI r ↔ 4 ≤ r from nI_leI (a := 4) (b := r) (by decide) (by omega), hd2]
    refine ⟨fun z2 => ?_, fun z2 => ?_⟩
    · have hr4 : r = 4 := by omega
      subst hr4
      refine s_heldOn hS2 (by omega) (fun τ aτ hSτ => s_ones (fun σ15 e15 σ17 e17 σ19 e19 σ21 e21 σ23 e23 => ?_))
      have dτ : gI τ 4 395 = nI d := by rw [aτ.at _ _ (by unfold qP; omega)]; exact hd2
      have q45 : gI τ 0 45 = nI dn := by rw [aτ.at _ _ (by unfold qP; omega), A.at _ _ (by unfold soP qP; omega)]; exact h45
      have q46 : gI τ 0 46 = la := by rw [aτ.at _ _ (by unfold qP; omega), A.at _ _ (by unfold soP qP; omega)]; exact h46
      rw [dτ] at e15
      have e45 : gI σ17 0 45 = nI dn := by rw [e17, gI_sI, if_neg (by omega), e15, gI_sI, if_neg (by omega)]; exact q45
      rw [e45] at e19
      have e46 : gI σ19 0 46 = la := by rw [e19, gI_sI, if_neg (by omega), e17, gI_sI, if_neg (by omega), e15, gI_sI, if_neg (by omega)]; exact q46
      rw [e46] at e21
      have b23 : Ag (fun o k => o = 26 ∨ (o = 0 ∧ k = 8)) τ σ23 := by
        rw [e23, e21, e19, e17, e15]
        exact ((((Ag.put (by omega)).set (by omega)).set (by omega)).set (by omega)).set (by omega)
      refine k σ23 ((A.trans (aτ.mono (fun o k w => Or.inl w))).trans (b23.mono (fun o k w => by unfold soP qP; omega))) (hSτ.lo b23 (by omega)) (by rw [e23, gI_same]) (fun j hj => ?_) (fun j hj => ?_) (fun j hj => ?_)
      · have h4 : j = 0 ∨ j = 1 ∨ j = 2 ∨ j = 3 := by omega
        rcases h4 with z | z | z | z <;> subst z
        · rw [e23, gI_sI, if_neg (by omega), e21, gI_sI, if_neg (by omega), e19, gI_sI, if_neg (by omega), e17, gI_sI, if_neg (by omega), e15, gI_same]; rfl
        · rw [e23, gI_sI, if_neg (by omega), e21, gI_sI, if_neg (by omega), e19, gI_sI, if_neg (by omega), e17, gI_same]; rfl
        · rw [e23, gI_sI, if_neg (by omega), e21, gI_sI, if_neg (by omega), e19, gI_same]; rfl
        · rw [e23, gI_sI, if_neg (by omega), e21, gI_same]; rfl
      · rw [b23.at _ _ (by omega), aτ.at _ _ (by unfold qP; omega), h27 j hj]; exact hrow j hj
      · rw [b23.at _ _ (by omega), aτ.at _ _ (by unfold qP; omega)]; exact hrow2 j hj
    · have lay : ∀ υ3 v, Ag soP υ2 υ3 → (∀ j, gI υ3 27 j = gI υ2 27 j) → (∀ j, gI υ3 28 j = gI υ2 28 j) → MS υ3 K L → v = lefI K L r d → w_M_setsOrder_j107 (fun σ a1 => K2 (σ, a1)) post υ3 (nI r) (nI r) v := by
        intro υ3 v a3 g27 g28 hS3 hv
        unfold w_M_setsOrder_j107
        rw [nI_clamp (by omega), nI_1]
        refine ⟨vp_in_nI (by omega) (by decide), fun σ7 e7 => ?_⟩
        have b7 : Ag (fun o _ => o = 28) υ3 σ7 := by rw [e7]; exact Ag.put rfl
        refine ih2 (4 - (r + 1)) _ (by omega) ⟨r + 1, rfl, by omega, rfl, (ag2.trans a3).trans (b7.mono (fun o k w => Or.inr (Or.inr w))), hS3.lo b7 (by omega), fun j hj => ?_, fun j hj => ?_⟩
        · simp only []; rw [b7.at _ _ (by omega), g27]; exact h27 j hj
        · simp only []
          by_cases ej : j = r
          · subst ej
            rw [e7, gI_same, hv]
            unfold envI
            rw [if_neg (by omega), if_neg (by omega), if_neg (by omega), if_neg (by omega), if_neg (by omega), show 12 + j - 12 = j by omega]
          · rw [e7, gI_sI, if_neg (by omega), g28]; exact hrow2 j (by omega)
      refine s_isReader hS2.1.1 hI ?_
      rw [rdrB_n (by omega) hI]
      refine br0 (fun z3 => lay υ2 (-1) (Ag.refl υ2) (fun _ => rfl) (fun _ => rfl) hS2 ?_) (fun z3 => ?_)
      · unfold lefI; rw [if_neg (of_decide_eq_false z3)]
      · have z4 := of_decide_eq_true z3
        rw [hd2]
        refine s_leftOn hS2 z4 (by omega) (fun τ aτ hSτ => lay τ _ (aτ.mono (fun o k w => Or.inl w)) (fun j => aτ.at _ _ (by unfold qP; omega)) (fun j => aτ.at _ _ (by unfold qP; omega)) hSτ ?_)
        unfold lefI; rw [if_pos z4]
  · have lay : ∀ v, v = sncI L a d → w_M_setsOrder_j63 (fun σ a1 => KK (σ, a1)) post υ (nI a) (nI a) v := by
      intro v hv
      unfold w_M_setsOrder_j63
      rw [nI_clamp (by omega), nI_1]
      refine ⟨vp_in_nI (by omega) (by decide), fun σ1 e1 => ?_⟩
      refine ih (8 - (a + 1)) _ (by omega) ⟨a + 1, rfl, by omega, rfl, by simp only []; rw [e1]; exact ag.set rfl, fun j hj => ?_⟩
      simp only []
      by_cases ej : j = a
      · subst ej
        rw [e1, gI_same, hv]
        unfold envI
        rw [if_neg (by omega), if_neg (by omega), if_neg (by omega), if_neg (by omega), if_pos (by omega), show 4 + j - 4 = j by omega]
      · rw [e1, gI_sI, if_neg (by omega)]; exact hrow j (by omega)
    refine s_isAct hSu.1.1 hI ?_
    rw [actB_n (by omega) hI]
    refine br0 (fun z3 => ?_) (fun z3 => ?_)
    · unfold w_M_setsOrder_j33
      exact ⟨fun z => absurd rfl z, fun _ => lay (-1) (snc_no hLI (by have := of_decide_eq_false z3; omega)).symm⟩
    · rw [hdu]
      refine s_latestOf hSu.2.2.1 (by omega) (fun x hx => by have := hLI x hx; have := hI.a; omega) (by omega) (fun hl => ?_) (fun i x hx hl => ?_)
      · unfold w_M_setsOrder_j33
        refine ⟨fun z => absurd rfl z, fun _ => lay (-1) ?_⟩
        unfold sncI; rw [hl]
      · have hil : i < L.length := by
          by_cases c : i < L.length
          · exact c
          · rw [List.getElem?_eq_none (by omega)] at hx; cases hx
        have h84 := hSu.2.2.1.2.1
        unfold w_M_setsOrder_j33
        refine ⟨fun _ => s_reading hSu.2.2.1 hx (Or.inr (Or.inr ⟨rfl, rfl⟩)) (lay _ ?_), fun z => absurd z (nI_m1 (by omega))⟩
        rw [hdu]; unfold sncI; rw [hl]
end OE
