/-! ===== orders: their words, of the class ===== -/
theorem tb_i {u k : Nat} (hu : u < 2 ^ 16) (hk : k < 32) : jshr (nI u) (nI k) &&& 1 = bl (u.testBit k) := by
  rw [jshr_n hk (by omega), show (1 : Int32) = nI 1 from rfl, nI_and, Nat.and_one_is_mod, Nat.testBit_eq_decide_div_mod_eq]
  have h2 : u / 2 ^ k % 2 < 2 := Nat.mod_lt _ (by decide)
  by_cases c : u / 2 ^ k % 2 = 1
  · rw [c]; rfl
  · rw [show u / 2 ^ k % 2 = 0 by omega]; rfl
section OX
variable {σ τ : DD} {T : TXT} {K : Nat → Int32} {L : List RD} {d dn u : Nat} {la : Int32}
def lwQ (o k : Nat) : Prop := xq o k ∨ o = 63
theorem s_daysSince {a : Nat} {post : Int32 → DD → Prop} (hS : XS σ T K L) (ha : a < 2 ^ 31) (hd : d < 2 ^ 31) (k : post (sncI L a d) σ) : w_Real_daysSince T σ (nI a) (nI d) post := by
  unfold w_Real_daysSince
  refine s_latestTold hS ha hd (fun hl => ⟨fun z => absurd rfl z, fun _ => ?_⟩) (fun i x hx hl => ?_)
  · unfold sncI at k; rw [hl] at k; exact k
  · have hil : i < L.length := by
      by_cases c : i < L.length
      · exact c
      · rw [List.getElem?_eq_none (by omega)] at hx; cases hx
    have h84 := hS.2.1.2.1
    refine ⟨fun _ => ?_, fun z => absurd z (nI_m1 (by omega))⟩
    rw [nI_clamp (by omega), (hS.2.1.2.2 i x hx).2.2]
    refine ⟨vp_in_nI (by omega) (by decide), ?_⟩
    unfold sncI at k; rw [hl] at k; exact k
theorem s_loadWords {post : DD → Prop} (hS : XS σ T K L) (hday : gI σ 208 0 = nI d) (hd : d ≤ 999) (h4 : gI σ 60 4 = nI dn) (h5 : gI σ 60 5 = la) (hu : u < 2 ^ 16) (k : ∀ τ, AgX lwQ xl σ τ → XS τ T K L → (∀ j, u.testBit j = true → gI τ 63 j = envI K L d dn la j) → post τ) : w_Ord_loadWords T σ (nI u) post := by
  have hI := hS.1.2.2
  unfold w_Ord_loadWords
  intro v25 e25 σ27 e27
  rw [hday] at e25
  subst e25
  have a27 : AgX lwQ xl σ σ27 := by rw [e27]; exact AgX.put (Or.inr rfl)
  have hS27 : XS σ27 T K L := hS.lo (P := fun o _ => o = 63) (Q := noL) (by rw [e27]; exact AgX.put rfl) (by omega)
  have g0 : gI σ27 63 0 = nI d := by rw [e27, gI_same]
  have j45 : ∀ υ v, AgX lwQ xl σ υ → XS υ T K L → gI υ 63 0 = nI d → (u.testBit 1 = true → v = ones8 (held K L d)) → w_Ord_loadWords_j45 T post υ (nI u) (nI d) 1 v := by
    intro υ v aυ hSυ q0 qv
    unfold w_Ord_loadWords_j45
    refine ⟨vp_in_nI (n := 1) (N := 16) (by decide) (by decide), fun σ18 e18 σ21 e21 σ23 e23 => ?_⟩
    have b18 : AgX (fun o _ => o = 63) noL υ σ18 := by rw [e18]; exact AgX.put rfl
    have q4 : gI σ18 60 4 = nI dn := by rw [b18.i _ _ (by omega), aυ.i _ _ (by unfold lwQ xq; omega)]; exact h4
    rw [q4] at e21
    have b21 : AgX (fun o _ => o = 63) noL υ σ21 := by rw [e21]; exact b18.set rfl
    have q5 : gI σ21 60 5 = la := by rw [b21.i _ _ (by omega), aυ.i _ _ (by unfold lwQ xq; omega)]; exact h5
    rw [q5] at e23
    have b23 : AgX (fun o _ => o = 63) noL υ σ23 := by rw [e23]; exact b21.set rfl
    have hS23 : XS σ23 T K L := hSυ.lo b23 (by omega)
    have w4 : ∀ j, j < 4 → u.testBit j = true → gI σ23 63 j = envI K L d dn la j := by
      intro j hj hb
      have h4 : j = 0 ∨ j = 1 ∨ j = 2 ∨ j = 3 := by omega
      rcases h4 with z | z | z | z <;> subst z
      · rw [e23, gI_sI, if_neg (by omega), e21, gI_sI, if_neg (by omega), e18, gI_sI, if_neg (by decide)]; exact q0
      · rw [e23, gI_sI, if_neg (by omega), e21, gI_sI, if_neg (by omega), e18, show (1 : Int32).toNatClampNeg = 1 from rfl, gI_same]; exact qv hb
      · rw [e23, gI_sI, if_neg (by omega), e21, gI_same]; rfl
      · rw [e23, gI_same]; rfl
    have a23 : AgX lwQ xl σ σ23 := aυ.trans (b23.mono (fun o k w => Or.inr w) (fun _ w => absurd w (fun z => z)))
    unfold w_Ord_loadWords_l68
    refine LoopN (fun m y => ∃ a, m = 8 - a ∧ a ≤ 8 ∧ y.2 = nI a ∧ AgX lwQ xl σ y.1 ∧ XS y.1 T K L ∧ ∀ j, j < 4 + a → u.testBit j = true → gI y.1 63 j = envI K L d dn la j) ?_ (n := 8) ⟨0, rfl, by omega, rfl, a23, hS23, fun j hj => w4 j (by omega)⟩
    rintro m ⟨υ1, a1⟩ KK ⟨a, hm, ha, e1, ag, hS1, hrow⟩ ih
    simp only [] at e1 ag hS1 hrow ⊢
    subst e1
    unfold w_Ord_loadWords_b68
    rw [show (8 : Int32) ≤ nI a ↔ 8 ≤ a from nI_leI (a := 8) (b := a) (by decide) (by omega), show (4 : Int32) + nI a = nI (4 + a) from nI_add' 4 a, tb_i hu (by omega), nI_clamp (by omega), nI_1]
    refine ⟨fun z => ?_, fun z => br0 (fun z2 => ?_) (fun z2 => ?_)⟩
    · have ha8 : a = 8 := by omega
      subst ha8
      clear ih
      unfold w_Ord_loadWords_l109
      refine LoopN (fun m y => ∃ r, m = 4 - r ∧ r ≤ 4 ∧ y.2 = nI r ∧ AgX lwQ xl σ y.1 ∧ XS y.1 T K L ∧ ∀ j, j < 12 + r → u.testBit j = true → gI y.1 63 j = envI K L d dn la j) ?_ (n := 4) ⟨0, rfl, by omega, rfl, ag, hS1, fun j hj => hrow j (by omega)⟩
      rintro m2 ⟨υ2, a2⟩ K2 ⟨r, hm2, hr, e2, ag2, hS2, hrow2⟩ ih2
      simp only [] at e2 ag2 hS2 hrow2 ⊢
      subst e2
      unfold w_Ord_loadWords_b109
      rw [show (4 : Int32) ≤ nI r ↔ 4 ≤ r from nI_leI (a := 4) (b := r) (by decide) (by omega), show (12 : Int32) + nI r = nI (12 + r) from nI_add' 12 r, tb_i hu (by omega), nI_1]
      refine ⟨fun z2 => k υ2 ag2 hS2 (fun j hj => ?_), fun z2 => br0 (fun z3 => ?_) (fun z3 => ?_)⟩
      · refine hrow2 j ?_ hj
        by_cases c : j < 16
        · omega
        · have := Nat.testBit_lt_two_pow (x := u) (i := j) (Nat.lt_of_lt_of_le hu (Nat.pow_le_pow_right (by decide) (by omega)))
          rw [this] at hj; exact absurd hj (by decide)
      · refine ih2 (4 - (r + 1)) _ (by omega) ⟨r + 1, rfl, by omega, rfl, ag2, hS2, fun j hj hb => ?_⟩
        by_cases ej : j = 12 + r
        · rw [ej, z3] at hb; exact absurd hb (by decide)
        · exact hrow2 j (by omega) hb
      · have lay : ∀ υ3 v, AgX xq xl υ2 υ3 → XS υ3 T K L → v = lefI K L r d → w_Ord_loadWords_j157 T (fun σ a3 => K2 (σ, a3)) post υ3 (nI u) (nI d) (nI r) (nI (12 + r)) v := by
          intro υ3 v a3 hS3 hv
          unfold w_Ord_loadWords_j157
          rw [nI_clamp (by omega), nI_1]
          refine ⟨vp_in_nI (by omega) (by decide), fun σ1 e1 => ?_⟩
          have b1 : AgX (fun o _ => o = 63) noL υ3 σ1 := by rw [e1]; exact AgX.put rfl
          refine ih2 (4 - (r + 1)) _ (by omega) ⟨r + 1, rfl, by omega, rfl, (ag2.trans (a3.mono (fun o k w => Or.inl w) (fun _ w => w))).trans (b1.mono (fun o k w => Or.inr w) (fun _ w => absurd w (fun z => z))), hS3.lo b1 (by omega), fun j hj hb => ?_⟩
          simp only []
          by_cases ej : j = 12 + r
          · rw [ej, e1, gI_same, hv]
            unfold envI
            rw [if_neg (by omega), if_neg (by omega), if_neg (by omega), if_neg (by omega), if_neg (by omega), show 12 + r - 12 = r by omega]
          · rw [e1, gI_sI, if_neg (by omega), a3.i _ _ (by unfold xq; omega)]; exact hrow2 j (by omega) hb
        refine s_XisReader hS2.1.1 hI ?_
        rw [rdrB_n (by omega) hI]
        refine br0 (fun z4 => lay υ2 (-1) (AgX.refl υ2) hS2 ?_) (fun z4 => ?_)
        · unfold lefI; rw [if_neg (of_decide_eq_false z4)]
        · have z5 := of_decide_eq_true z4
          refine s_voiceLeft hS2 z5 (by omega) (fun τ aτ hSτ => lay τ _ aτ hSτ ?_)
          unfold lefI; rw [if_pos z5]
    · refine ih (8 - (a + 1)) _ (by omega) ⟨a + 1, rfl, by omega, rfl, ag, hS1, fun j hj hb => ?_⟩
      by_cases ej : j = 4 + a
      · rw [ej, z2] at hb; exact absurd hb (by decide)
      · exact hrow j (by omega) hb
    · refine s_daysSince hS1 (by omega) (by omega) ⟨vp_in_nI (by omega) (by decide), fun σ15 e15 => ?_⟩
      have b1 : AgX (fun o _ => o = 63) noL υ1 σ15 := by rw [e15]; exact AgX.put rfl
      refine ih (8 - (a + 1)) _ (by omega) ⟨a + 1, rfl, by omega, rfl, ag.trans (b1.mono (fun o k w => Or.inr w) (fun _ w => absurd w (fun z => z))), hS1.lo b1 (by omega), fun j hj hb => ?_⟩
      simp only []
      by_cases ej : j = 4 + a
      · rw [ej, e15, gI_same]
        unfold envI
        rw [if_neg (by omega), if_neg (by omega), if_neg (by omega), if_neg (by omega), if_pos (by omega), show 4 + a - 4 = a by omega]
      · rw [e15, gI_sI, if_neg (by omega)]; exact hrow j (by omega) hb
  rw [show jshr (nI u) 1 &&& 1 = bl (u.testBit 1) from tb_i (k := 1) hu (by decide)]
  refine br0 (fun z => j45 σ27 0 a27 hS27 g0 (fun w => by rw [z] at w; exact absurd w (by decide))) (fun z => ?_)
  refine s_heldBits hS27 (by omega) (fun τ aτ hSτ => ?_)
  obtain ⟨hk, hk1, hk2⟩ := held_n (L := L) hI d
  rw [hk2]
  refine s_bitCount hk1 (j45 τ _ (a27.trans (aτ.mono (fun o k w => Or.inl w) (fun _ w => w))) hSτ ?_ (fun _ => by rw [hk2]))
  rw [aτ.i _ _ (by unfold xq; omega)]; exact g0
end OX
