/-! ===== orders: the model goes along one ===== -/
def gtP (o k : Nat) : Prop := o = 0 ∧ (k = 22 ∨ k = 24 ∨ k = 48 ∨ k = 51)
section GM
variable {σ τ υ : DD} {N i l j l' : Nat} {c v : Nat → Int32} {e : Nat → Int64} {live : Bool}
theorem EC.g {B : Nat} {o : Bool} (h : EC σ B N c v o e) (a : ∀ p k, p = 4 ∨ p = 26 ∨ p = 27 ∨ p = 28 ∨ (p = 0 ∧ (k = 8 ∨ k = 23)) → gI τ p k = gI σ p k) : EC τ B N c v o e := by
  obtain ⟨h1, h2, h3, h4, h5, h6, h7, h8, h9⟩ := h
  refine ⟨?_, h2, h3, ?_, ?_, h6, ?_, ?_, ?_⟩
  · rw [a 0 23 (by omega)]; exact h1
  · intro k hk; rw [a 4 _ (by omega)]; exact h4 k hk
  · intro k hk; rw [a 4 _ (by omega)]; exact h5 k hk
  · rw [a 0 8 (by omega)]; exact h7
  · intro j hj; rw [a 26 _ (by omega)]; exact h8 j hj
  · intro ho
    refine ⟨fun j hj => ?_, fun j hj => ?_⟩
    · rw [a 27 _ (by omega)]; exact (h9 ho).1 j hj
    · rw [a 28 _ (by omega)]; exact (h9 ho).2 j hj
theorem evP_gt {o k : Nat} (h : evP o k) : gtP o k := by unfold evP at h; unfold gtP; omega
/-- how often, and if -/
theorem go_times {post : DD → Prop} {h : Int32} {A B : DS} {x : CLS} (hE : EC σ 2400 N c v true e) (hi : i ≤ N) (hl : l ≤ 50) (hv : ∀ k, 0 ≤ v k) (hx : pTimes true c v h A B i l = .inr (j, l', x)) (hg : gI σ 0 22 = nI (2400 + i)) (k : ∀ τ t C, x = (h, A, B, t, C) → Ag gtP σ τ → gI τ 0 48 = t → gI τ 0 22 = nI (2400 + j + 1) → (live = true → gI τ 0 51 = bl (decide (C e = some true))) → post τ) (σ32 : DD) (e32 : σ32 = sI σ 0 48 1) : w_M_passes0 σ32 25 (fun r34 σ35 => (r34 = 0 → w_M_goesAlong_j170 post σ35 (bl live)) ∧ (¬ r34 = 0 → vp_in (3212 + (gI σ35 0 22)) 6012 ∧ ∀ σ38, σ38 = sI σ35 0 48 (gI σ35 4 (3212 + (gI σ35 0 22)).toNatClampNeg) → ∀ σ40, σ40 = sI σ38 0 22 ((gI σ38 0 22) + 1) → w_M_goesAlong_j170 post σ40 (bl live))) := by
  have hc := hE.2.2.2.2.2.1
  have hN := hE.2.1
  have a32 : Ag gtP σ σ32 := by rw [e32]; exact Ag.put (by unfold gtP; omega)
  have ecg : ∀ {τ}, Ag gtP σ τ → EC τ 2400 N c v true e := fun a => hE.g (fun p k w => a.at _ _ (by unfold gtP; omega))
  have fin : ∀ τ (i2 : Nat) (t : Int32), Ag gtP σ τ → gI τ 0 48 = t → gI τ 0 22 = nI (2400 + i2) → i2 ≤ N → pIf true c v h A B t i2 l = .inr (j, l', x) → w_M_goesAlong_j170 post τ (bl live) := by
    intro τ i2 t aτ g48 g22 hi2 hp
    obtain ⟨C, hxe, hcase⟩ := pIf_inv hp
    have last : ∀ τ2 (tb hold : Bool), Ag gtP σ τ2 → gI τ2 0 48 = t → gI τ2 0 22 = nI (2400 + j) → gI τ2 0 24 = bl tb → (live = true → tb = (C e).isNone ∧ ∀ y, C e = some y → hold = y) → w_M_goesAlong_j197 post τ2 (bl hold) := by
      intro τ2 tb hold a2 q48 q22 q24 hC
      unfold w_M_goesAlong_j197
      refine ⟨bl_z hold, fun σ19 e19 => ?_⟩
      have q19 : gI σ19 0 51 = bl hold := by rw [e19, gI_same]
      have q24' : gI σ19 0 24 = bl tb := by rw [e19, gI_sI, if_neg (by omega)]; exact q24
      have out : ∀ w : Bool, (live = true → w = decide (C e = some true)) → w_M_goesAlong_j220 post σ19 (bl w) := by
        intro w hw
        unfold w_M_goesAlong_j220
        refine ⟨bl_z w, fun σ14 e14 σ16 e16 => ?_⟩
        have q22' : gI σ14 0 22 = nI (2400 + j) := by rw [e14, gI_sI, if_neg (by omega), e19, gI_sI, if_neg (by omega)]; exact q22
        rw [q22', nI_1] at e16
        refine k σ16 t C hxe ?_ ?_ ?_ (fun hlv => ?_)
        · rw [e16, e14, e19]; exact ((a2.set (by unfold gtP; omega)).set (by unfold gtP; omega)).set (by unfold gtP; omega)
        · rw [e16, gI_sI, if_neg (by omega), e14, gI_sI, if_neg (by omega), e19, gI_sI, if_neg (by omega)]; exact q48
        · rw [e16, gI_same]
        · rw [e16, gI_sI, if_neg (by omega), e14, gI_same, hw hlv]
      rw [q19, q24']
      refine br0 (fun z => ?_) (fun z => br1 (fun z2 => ?_) (fun z2 => ?_))
      · refine out false (fun hlv => (decide_eq_false (fun w => ?_)).symm)
        have := (hC hlv).2 true w
        rw [z] at this; exact absurd this (by decide)
      · refine out false (fun hlv => (decide_eq_false (fun w => ?_)).symm)
        have := (hC hlv).1
        rw [w, z2] at this; exact absurd this (by decide)
      · refine out true (fun hlv => (decide_eq_true ?_).symm)
        have h1 := (hC hlv).1
        rw [z2] at h1
        cases hce : C e with
        | none => rw [hce] at h1; exact absurd h1 (by decide)
        | some y =>
          have := (hC hlv).2 y hce
          rw [← this, z]
    unfold w_M_goesAlong_j170
    intro σ23 e23
    have a23 : Ag gtP σ σ23 := by rw [e23]; exact aτ.set (by unfold gtP; omega)
    have g23 : gI σ23 0 22 = nI (2400 + i2) := by rw [e23, gI_sI, if_neg (by omega)]; exact g22
    have g24 : gI σ23 0 24 = bl false := by rw [e23, gI_same]; rfl
    have g48' : gI σ23 0 48 = t := by rw [e23, gI_sI, if_neg (by omega)]; exact g48
    refine s_passes0 (ecg a23) hi2 g23 (fun z => ⟨fun w => absurd w (by decide), fun _ => ?_⟩) (fun z => ⟨fun _ => ?_, fun w => absurd rfl w⟩)
    · rcases hcase with ⟨h4, hT⟩ | ⟨h4, -⟩
      · have hlt : i2 < N := lt_of_c hc (by rw [z]; decide)
        have a24 : Ag gtP σ (sI σ23 0 22 (nI (2400 + (i2 + 1)))) := a23.set (by unfold gtP; omega)
        refine ev_test8 hN hc (i2 + 1) l j l' C hlt hl hT _ live false _ (ecg a24) gI_same (by rw [gI_sI, if_neg (by omega)]; exact g24) (fun r τ2 aE q22 q24 hr => ?_)
        have a25 := a24.trans (aE.mono (fun o k w => evP_gt w))
        have q48 : gI τ2 0 48 = t := by rw [aE.at _ _ (by unfold evP; omega), gI_sI, if_neg (by omega)]; exact g48'
        have L2 := last τ2 (false || (live && (C e).isNone)) r a25 q48 q22 q24 (fun hlv => ⟨by rw [hlv]; simp, fun y hy => hr hlv rfl y hy⟩)
        refine br0 (fun w => ?_) (fun w => ?_)
        · rw [w] at L2; exact L2
        · rw [w] at L2; exact L2
      · exact absurd z h4
    · rcases hcase with ⟨h4, -⟩ | ⟨h4, hj, hl', hT⟩
      · exact absurd h4 z
      · exact last σ23 false true a23 g48' (by rw [hj]; exact g23) g24 (fun _ => ⟨by rw [hT]; rfl, fun y hy => by rw [hT] at hy; simp at hy; exact hy.symm⟩)
  have g32 : gI σ32 0 22 = nI (2400 + i) := by rw [e32, gI_sI, if_neg (by omega)]; exact hg
  have g48 : gI σ32 0 48 = 1 := by rw [e32, gI_same]
  unfold pTimes at hx
  refine s_passes0 (ecg a32) hi g32 (fun z => ⟨fun w => absurd w (by decide), fun _ => ?_⟩) (fun z => ⟨fun _ => ?_, fun w => absurd rfl w⟩)
  · rw [if_pos z] at hx
    by_cases cn : c (i + 1) = 50 ∧ 1 ≤ v (i + 1) ∧ v (i + 1) ≤ 20
    · rw [if_pos cn] at hx
      have hlt : i + 1 < N := lt_of_c hc (by rw [cn.1]; decide)
      rw [gI_same, show (3212 : Int32) = nI 3212 from rfl, nI_add', nI_clamp (by omega), gI_sI, if_neg (by omega), (ecg a32).2.2.2.2.1 (i + 1) hlt]
      refine ⟨vp_in_nI (by omega) (by decide), fun σ38 e38 σ40 e40 => ?_⟩
      have q22 : gI σ38 0 22 = nI (2400 + (i + 1)) := by rw [e38, gI_sI, if_neg (by omega), gI_same]
      rw [q22, nI_1] at e40
      refine fin σ40 (i + 2) (v (i + 1)) ?_ ?_ ?_ hlt hx
      · rw [e40, e38]; exact ((a32.set (by unfold gtP; omega)).set (by unfold gtP; omega)).set (by unfold gtP; omega)
      · rw [e40, gI_sI, if_neg (by omega), e38, gI_same]
      · rw [e40, gI_same]; congr 1
    · rw [if_neg cn] at hx; cases hx
  · rw [if_neg z] at hx
    exact fin σ32 i 1 a32 g48 g32 hi hx
end GM
