/-! ===== both told: terms, years, the tape ===== -/
section CT
variable {m x m' x' σ τ : DD} {T : TXT} {n G : Nat} {K K' : Nat → Int32} {L L' : List RD} {d d' : Nat}
theorem s_Mt16 {a1 a2 : Int32} {post : Int32 → DD → Prop} (hM : MS m K L) (kok : (a1 = 0 → ∀ y, y ∈ L → nI y.2.2 ≤ a2) → w_M_terms_j55 post m a1 a2) (kno : a1 = 0 → (∃ y, y ∈ L ∧ ¬ nI y.2.2 ≤ a2) → w_M_refuses m (-3) post) : w_M_terms_l16 post m a1 a2 0 := by
  have h84 := hM.2.2.1.2.1
  unfold w_M_terms_l16
  refine LoopN (fun c y => ∃ i, c = L.length - i ∧ i ≤ L.length ∧ y.1 = m ∧ y.2 = nI i ∧ (a1 = 0 → ∀ (j : Nat) (z : RD), j < i → L[j]? = some z → nI z.2.2 ≤ a2)) ?_ (n := L.length) ⟨0, rfl, Nat.zero_le _, rfl, rfl, by intro _ j z hj; omega⟩
  rintro c ⟨τ, a3⟩ KK ⟨i, hc, hi, e1, e2, hz⟩ ih
  simp only [] at e1 e2 ⊢
  subst e1; subst e2
  unfold w_M_terms_b16
  rw [hM.2.2.1.1, nI_leI (by omega) (by omega)]
  refine ⟨fun q => kok (fun e y hy => ?_), fun q => ⟨fun q2 => kok (fun e => absurd e q2), fun q2 => ?_⟩⟩
  · obtain ⟨j, hj⟩ := List.getElem?_of_mem hy
    have hjl : j < L.length := by rw [List.getElem?_eq_some_iff] at hj; exact hj.1
    exact hz e j y (by omega) hj
  · obtain ⟨y, hy, hmem⟩ := get_lt (show i < L.length by omega)
    refine s_reading hM.2.2.1 hy (v := nI y.2.2) (Or.inr (Or.inr ⟨rfl, rfl⟩)) ⟨fun w => ?_, fun w => kno q2 ⟨y, hmem, w⟩⟩
    rw [nI_1]
    refine ih (L.length - (i + 1)) _ (by omega) ⟨i + 1, rfl, by omega, rfl, rfl, fun e j z hj hjz => ?_⟩
    by_cases c2 : j = i
    · subst c2
      rw [hy] at hjz
      cases hjz
      exact w
    · exact hz e j z (by omega) hjz
theorem s_latestDay {post : Int32 → DD → Prop} (hS : XS σ T K L) (k0 : L = [] → post 0 σ) (k1 : ∀ M y, L = M ++ [y] → post (nI y.2.2) σ) : w_Real_latestToldDay T σ post := by
  have h84 := hS.2.1.2.1
  unfold w_Real_latestToldDay
  rw [hS.2.1.len, show (0 : Int32) = nI 0 from rfl, nI_leI (by omega) (by decide)]
  refine ⟨fun q => ?_, fun q => ?_⟩
  · have : L = [] := List.eq_nil_of_length_eq_zero (by omega)
    exact k0 this
  · rcases snoc_or L with e | ⟨M, y, e⟩
    · rw [e] at q; exact absurd (Nat.zero_le _) q
    · have hl : L.length = M.length + 1 := by rw [e, List.length_append]; rfl
      have hy : L[M.length]? = some y := by rw [e, List.getElem?_append_right (Nat.le_refl _), Nat.sub_self]; rfl
      rw [hl, nI_pred, nI_clamp (by omega), (hS.2.1.x hy).2.2]
      exact ⟨vp_in_nI (by omega) (by decide), k1 M y e⟩
theorem tm_out {a1 a2 : Int32} (h : a1 < 0 ∨ 4 ≤ a1) : isTm a1 a2 = false := by
  unfold isTm
  rw [if_neg (by grind), if_neg (by grind), if_neg (by grind), if_neg (by grind)]
theorem p_terms {a1 a2 : Int32} (h : INV T m x n) (hn : n < 2 ^ 20) : w_Face_terms T x a1 a2 (fun r x' => w_M_terms m a1 a2 (fun r' m' => r = r' ∧ INV T m' x' (n + 1))) := by
  obtain ⟨K, L, d, hM, hB, -⟩ := h.b
  have hX := hB.1
  have hI := hX.1.2.2
  have ha8 := hI.a
  have hr4 := hI.r
  have h1 := hB.2.1
  have h2 := hB.2.2.1
  have h3 := hB.2.2.2.1
  have h4 := hB.2.2.2.2.1
  have h5 := hB.2.2.2.2.2.1
  obtain ⟨g, hg1, hg2⟩ := hB.2.2.2.2.2.2.2.2.2.2
  have out : isTm a1 a2 = false → w_Face_terms_j17 T (fun r x' => w_M_terms m a1 a2 (fun r' m' => r = r' ∧ INV T m' x' (n + 1))) x := by
    intro e
    refine rff hM hB (Or.inl rfl) (w_M_terms m a1 a2) (fun post hp => ?_)
    unfold w_M_terms
    exact s_isTerm (br1 (fun z => absurd (e.symm.trans z) (by decide)) (fun _ => hp))
  unfold w_Face_terms
  refine ⟨fun q => out (tm_out (Or.inl q)), fun q => ⟨fun q2 => out (tm_out (Or.inr q2)), fun q2 => s_XcanBeTerm (br1 (fun e => ⟨fun q3 => ?_, fun q3 => ?_⟩) (fun e => out e))⟩⟩
  · have hj : ∃ j, 1 ≤ j ∧ j < 4 ∧ a1 = nI j ∧ ((j = 1 → rng a2 0 10) ∧ (j = 2 → rng a2 1 60) ∧ (j = 3 → rng a2 0 9)) := by
      unfold isTm at e
      rw [if_neg q3] at e
      by_cases z1 : a1 = 1
      · rw [if_pos z1] at e
        obtain ⟨v, w1, w2⟩ := inB_z (hi := 10) e (by decide)
        exact ⟨1, by omega, by omega, z1, fun _ => ⟨v, by omega, w1, w2⟩, fun w => absurd w (by decide), fun w => absurd w (by decide)⟩
      · rw [if_neg z1] at e
        by_cases z2 : a1 = 2
        · rw [if_pos z2] at e
          exact ⟨2, by omega, by omega, z2, fun w => absurd w (by decide), fun _ => inB_o (hi := 60) e (by decide), fun w => absurd w (by decide)⟩
        · rw [if_neg z2] at e
          by_cases z3 : a1 = 3
          · rw [if_pos z3] at e
            obtain ⟨v, w1, w2⟩ := inB_z (hi := 9) e (by decide)
            exact ⟨3, by omega, by omega, z3, fun w => absurd w (by decide), fun w => absurd w (by decide), fun _ => ⟨v, by omega, w1, w2⟩⟩
          · rw [if_neg z3] at e; exact absurd e (by decide)
    obtain ⟨j, hj1, hj4, ej, ok⟩ := hj
    subst ej
    unfold w_Face_terms_j45
    have hin := vp_in_nI (n := j) (N := 4) (by omega) (by decide)
    rw [nI_clamp (by omega)]
    refine ⟨hin, fun v4 e4 => ⟨hin, fun σ6 e6 => ?_⟩⟩
    subst e4; subst e6
    refine s_forget (s_granted ?_)
    unfold w_M_terms
    refine s_isTerm (br1 (fun _ => s_Mt16 hM (fun _ => ?_) (fun z => absurd z q3)) (fun z => absurd (e.symm.trans z) (by decide)))
    unfold w_M_terms_j55
    have ei : (395 : Int32) + nI j = nI (395 + j) := by rw [show (395 : Int32) = nI 395 from rfl, nI_add]
    have hin2 := vp_in_nI (n := 395 + j) (N := 6012) (by omega) (by decide)
    rw [ei, nI_clamp (by omega), hM.1.1 (395 + j) (by unfold dyn; omega)]
    refine ⟨hin2, fun v2 e2 => ⟨hin2, fun σ4 e4 => s_good ⟨?_, ?_⟩⟩⟩
    · rw [e2]
      have := hX.1.1.2.2.2.2.2.2.2.2.2.1
      have hj3 : j = 1 ∨ j = 2 ∨ j = 3 := by omega
      rcases hj3 with z | z | z <;> subst z
      · exact this.1
      · exact this.2.1
      · exact this.2.2
    · subst e4
      have KE : ∀ p, ¬ p = 395 + j → upK K (395 + j) a2 p = K p := fun p hp => upK_ne hp
      have ax : AgX (fun o p => (o = 208 ∧ p = j) ∨ (o = 50 ∧ p = 5)) (fun _ => False) x (sI (sI x 208 j a2) 50 5 (gI (sI x 208 j a2) 50 5 + 1)) := (AgX.put (by omega)).set (by omega)
      have eA : nA (upK K (395 + j) a2) = nA K := nA_cg (KE 399 (by omega))
      have eR : nR (upK K (395 + j) a2) = nR K := nR_cg (KE 400 (by omega))
      have hp := pts_of hX.1.1 hI
      have e5 : gI (sI (sI x 208 j a2) 50 5 (gI (sI x 208 j a2) 50 5 + 1)) 50 5 = gI x 50 5 + 1 := by
        rw [gI_same, gI_sI, if_neg (by omega)]
      refine INB.gch (P := fun o p => o = 4 ∧ p = 395 + j) hM hB hn (by omega) (by omega) (Ag.put (by omega)) (by omega) (hM.1.1.up _ _) ax (by omega) (fun _ w => w.elim) (hp.ch ax (by omega) KE (by omega) (Or.inr ⟨by omega, by omega, by omega⟩) (Or.inr ⟨by omega, by omega⟩) (Or.inr ⟨by omega, by omega, by omega, by omega⟩) (Or.inr ⟨by omega, by omega⟩) (Or.inl ?_) (Or.inr ⟨by omega, by omega, by omega⟩) (Or.inr ⟨by omega, by omega, by unfold rgT; omega⟩)) (hX.1.2.1.fg hg2 (by omega) e5 (fun k => ax.i _ _ (by omega))) ⟨g + 1, by omega, by rw [e5, hg2, nI_1]⟩
      have vj : gI (sI (sI x 208 j a2) 50 5 (gI (sI x 208 j a2) 50 5 + 1)) 208 j = a2 := by rw [gI_sI, if_neg (by omega), gI_same]
      have ot : ∀ i, ¬ i = j → gI (sI (sI x 208 j a2) 50 5 (gI (sI x 208 j a2) 50 5 + 1)) 208 i = gI x 208 i := fun i hi => ax.i _ _ (by omega)
      have tm := hI.tm
      have tx := hX.1.1.2.2.2.2.2.2.2.2.2.1
      have hj3 : j = 1 ∨ j = 2 ∨ j = 3 := by omega
      unfold PtT
      rcases hj3 with z | z | z <;> subst z
      · rw [show upK K (395 + 1) a2 396 = a2 from upK_eq _ _ _, KE 397 (by omega), KE 398 (by omega), show (200 + 8 : Nat) = 208 from rfl, vj, ot 2 (by omega), ot 3 (by omega)]
        exact ⟨⟨ok.1 rfl, tm.2⟩, rfl, tx.2⟩
      · rw [show upK K (395 + 2) a2 397 = a2 from upK_eq _ _ _, KE 396 (by omega), KE 398 (by omega), show (200 + 8 : Nat) = 208 from rfl, vj, ot 1 (by omega), ot 3 (by omega)]
        exact ⟨⟨tm.1, ok.2.1 rfl, tm.2.2⟩, tx.1, rfl, tx.2.2⟩
      · rw [show upK K (395 + 3) a2 398 = a2 from upK_eq _ _ _, KE 396 (by omega), KE 397 (by omega), show (200 + 8 : Nat) = 208 from rfl, vj, ot 1 (by omega), ot 2 (by omega)]
        exact ⟨⟨tm.1, tm.2.1, ok.2.2 rfl⟩, tx.1, tx.2.1, rfl⟩
  · subst q3
    obtain ⟨v, hv, ev⟩ := inB_z (hi := 999) (show inB a2 0 999 = true from e) (by decide)
    subst ev
    have fin : (∀ y, y ∈ L → y.2.2 ≤ v) → w_Face_terms_j45 T (fun r x' => w_M_terms m 0 (nI v) (fun r' m' => r = r' ∧ INV T m' x' (n + 1))) x 0 (nI v) := by
      intro hall
      unfold w_Face_terms_j45
      have hin := vp_in_nI (n := 0) (N := 4) (by omega) (by decide)
      rw [show (0 : Int32).toNatClampNeg = 0 from rfl, h2]
      refine ⟨hin, fun v4 e4 => ⟨hin, fun σ6 e6 => ?_⟩⟩
      subst e4; subst e6
      refine s_forget (s_granted ?_)
      unfold w_M_terms
      refine s_isTerm (br1 (fun _ => s_Mt16 hM (fun _ => ?_) (fun _ z => ?_)) (fun z => absurd (e.symm.trans z) (by decide)))
      · unfold w_M_terms_j55
        rw [show ((395 : Int32) + 0) = nI 395 from rfl, nI_clamp (by omega), h1]
        refine ⟨vp_in_nI (by omega) (by decide), fun v2 e2 => ⟨vp_in_nI (by omega) (by decide), fun σ4 e4 => s_good ⟨e2.symm, ?_⟩⟩⟩
        subst e4
        have ax : AgX (fun o p => (o = 208 ∧ p = 0) ∨ (o = 50 ∧ p = 5)) (fun _ => False) x (sI (sI x 208 0 (nI v)) 50 5 (gI (sI x 208 0 (nI v)) 50 5 + 1)) := (AgX.put (by omega)).set (by omega)
        have e5 : gI (sI (sI x 208 0 (nI v)) 50 5 (gI (sI x 208 0 (nI v)) 50 5 + 1)) 50 5 = gI x 50 5 + 1 := by
          rw [gI_same, gI_sI, if_neg (by omega)]
        have ag : Ag (fun o p => o = 4 ∧ p = 395) m (sI m 4 395 (nI v)) := Ag.put (by omega)
        refine INB.good (hM.day).z (hB.ch (fun o p z w => ag.at o p (by omega)) (ax.mono (fun o p z => by unfold chX; omega) (fun o z => z.elim)) ⟨⟨hX.1.1.ag2 ax (by intro o k h; unfold logP; omega), hX.1.2.1.fg hg2 (by omega) e5 (fun k => ax.i _ _ (by omega)), hI⟩, ⟨?_, hX.2.1.2.1, fun i y hy => ?_⟩, hX.2.2⟩ gI_same ?_ hv hall h5 ⟨g + 1, by omega, by rw [e5, hg2, nI_1]⟩) hn
        · rw [ax.i _ _ (by omega)]; exact hX.2.1.1
        · rw [ax.i _ _ (by omega), ax.i _ _ (by omega), ax.i _ _ (by omega)]; exact hX.2.1.2.2 i y hy
        · rw [gI_sI, if_neg (by omega), gI_same]
      · obtain ⟨y, hy, ny⟩ := z
        have := h4 y hy
        rw [nI_leI (by omega) (by omega)] at ny
        exact absurd (hall y hy) ny
    refine s_latestDay hX (fun e0 => ⟨fun _ => fin (by rw [e0]; intro y hy; cases hy), fun z => absurd (nI_pos' (by omega)) z⟩) (fun M y e0 => ?_)
    have hy : y ∈ L := by rw [e0]; exact List.mem_append_right _ (List.mem_singleton.2 rfl)
    have hyd := h4 y hy
    rw [nI_leI (by omega) (by omega)]
    refine ⟨fun q4 => fin (fun z hz => ?_), fun q4 => ?_⟩
    · have hs := hX.2.2.2
      unfold Srt at hs
      rw [e0, List.pairwise_append] at hs
      rw [e0, List.mem_append] at hz
      rcases hz with w | w
      · have := hs.2.2 z w y (List.mem_singleton.2 rfl); omega
      · rw [List.mem_singleton] at w; subst w; exact q4
    · refine rff hM hB (Or.inr (Or.inr (Or.inl rfl))) (w_M_terms m 0 (nI v)) (fun post hp => ?_)
      unfold w_M_terms
      refine s_isTerm (br1 (fun _ => s_Mt16 hM (fun z => ?_) (fun _ _ => hp)) (fun z => absurd (e.symm.trans z) (by decide)))
      have := z rfl y hy
      rw [nI_leI (by omega) (by omega)] at this
      exact absurd this q4
theorem s_Myears97 {a2 a3 a4 : Int32} {post : Int32 → DD → Prop} (k : ∀ τ, Ag (fun o _ => o = 54 ∨ o = 55) σ τ → (∀ a, a < 8 → gI τ 54 a = 0 ∧ gI τ 55 a = 0) → w_M_years_l129 post τ a2 a3 a4 1 0) : w_M_years_l97 post σ a2 a3 a4 1 0 := by
  unfold w_M_years_l97
  refine LoopN (fun c y => ∃ i, c = 8 - i ∧ i ≤ 8 ∧ Ag (fun o _ => o = 54 ∨ o = 55) σ y.1 ∧ y.2 = nI i ∧ ∀ j, j < i → gI y.1 54 j = 0 ∧ gI y.1 55 j = 0) ?_ (n := 8) ⟨0, rfl, Nat.zero_le _, Ag.refl σ, rfl, by omega⟩
  rintro c ⟨υ, a6⟩ KK ⟨i, hc, hi, ag, e2, hz⟩ ih
  simp only [] at ag e2 hz ⊢
  subst e2
  unfold w_M_years_b97
  rw [show (8 : Int32) = nI 8 from rfl, nI_leI (by decide) (by omega)]
  refine ⟨fun z => ?_, fun z => ?_⟩
  · have : i = 8 := by omega
    subst this
    exact k υ ag hz
  · rw [nI_clamp (by omega), nI_1]
    refine ⟨vp_in_nI (by omega) (by omega), fun σ2 e2 => ⟨vp_in_nI (by omega) (by omega), fun σ3 e3 => ?_⟩⟩
    refine ih (8 - (i + 1)) _ (by omega) ⟨i + 1, rfl, by omega, ?_, rfl, ?_⟩
    · subst e2; subst e3; exact (ag.set (Or.inl rfl)).set (Or.inr rfl)
    · intro j hj
      subst e2; subst e3
      simp only []
      by_cases hji : j = i
      · subst hji
        rw [gI_sI, if_neg (by omega), gI_same, gI_same]; exact ⟨rfl, rfl⟩
      · rw [gI_sI, if_neg (by omega), gI_sI, if_neg (by omega), gI_sI, if_neg (by omega), gI_sI, if_neg (by omega)]; exact hz j (by omega)
theorem p_years {a1 a2 : Int32} (h : INV T m x n) (hn : n < 2 ^ 20) : w_Face_years T x a1 a2 (fun r x' => w_M_years m a1 a2 (fun r' m' => r = r' ∧ INV T m' x' (n + 1))) := by
  obtain ⟨K, L, d, hM, hB, -⟩ := h.b
  have hX := hB.1
  have hI := hX.1.2.2
  have ha8 := hI.a
  have hr4 := hI.r
  have h1 := hB.2.1
  have h2 := hB.2.2.1
  have h3 := hB.2.2.2.1
  have h4 := hB.2.2.2.2.1
  have h5 := hB.2.2.2.2.2.1
  obtain ⟨g, hg1, hg2⟩ := hB.2.2.2.2.2.2.2.2.2.2
  have eMA : gI m 4 399 = nI (nA K) := (hM.1.1 399 (by unfold dyn; omega)).trans ha8.1
  have eMR : gI m 4 400 = nI (nR K) := (hM.1.1 400 (by unfold dyn; omega)).trans hr4.1
  have z0 : ∀ k, k < 2 ^ 31 → (nI k = 0 ↔ k = 0) := fun k hk => by rw [show (0 : Int32) = nI 0 from rfl, nI_eq hk (by decide)]
  have r1 : (inB a1 0 1000000 = false ∨ inB a2 1 60 = false) → w_Face_years_j22 T (fun r x' => w_M_years m a1 a2 (fun r' m' => r = r' ∧ INV T m' x' (n + 1))) x := by
    intro c
    refine rff hM hB (Or.inl rfl) (w_M_years m a1 a2) (fun post hp => ?_)
    unfold w_M_years
    refine s_lies (br0 (fun _ => hp) (fun e1 => s_lies (br1 (fun e2 => ?_) (fun _ => hp))))
    rw [e1, e2] at c
    rcases c with z | z <;> exact absurd z (by decide)
  have r3 : inB a1 0 1000000 = true → inB a2 1 60 = true → (nA K = 0 ∨ nR K = 0) → w_Face_years_j48 T (fun r x' => w_M_years m a1 a2 (fun r' m' => r = r' ∧ INV T m' x' (n + 1))) x := by
    intro c1 c2 c
    refine rff hM hB (Or.inr (Or.inr (Or.inl rfl))) (w_M_years m a1 a2) (fun post hp => ?_)
    unfold w_M_years
    refine s_lies (br0 (fun z => absurd (c1.symm.trans z) (by decide)) (fun e1 => s_lies (br1 (fun e2 => ?_) (fun z => absurd (c2.symm.trans z) (by decide)))))
    rw [eMA, eMR, z0 _ (by omega), z0 _ (by omega)]
    exact ⟨fun _ => hp, fun w => ⟨fun w2 => absurd c (by omega), fun _ => hp⟩⟩
  unfold w_Face_years
  refine ⟨fun q => r1 (Or.inl (inB_f (by grind))), fun q => ⟨fun q2 => r1 (Or.inl (inB_f (by grind))), fun q2 => ⟨fun q3 => r1 (Or.inr (inB_f (by grind))), fun q3 => ⟨fun q4 => ?_, fun q4 => r1 (Or.inr (inB_f (by grind)))⟩⟩⟩⟩
  have c1 : inB a1 0 1000000 = true := inB_t (by grind)
  have c2 : inB a2 1 60 = true := inB_t (by grind)
  rw [hX.1.1.na, hX.1.1.nr, ha8.1, hr4.1, z0 _ (by omega), z0 _ (by omega)]
  refine ⟨fun w => r3 c1 c2 (Or.inl w), fun w => ⟨fun w2 => ?_, fun w2 => r3 c1 c2 (Or.inr w2)⟩⟩
  obtain ⟨s0, hs0, es⟩ := inB_z (hi := 1000000) c1 (by decide)
  obtain ⟨k, hk1, hk, ek⟩ := inB_o (hi := 60) c2 (by decide)
  subst es; subst ek
  refine s_live (by omega) (by omega) h3 h4 hs0 hk1 hk h5 hX h2 ?_
  intro x1 ax hX1 e110 e114
  refine s_granted ?_
  unfold w_M_years
  refine s_lies (br0 (fun z => absurd (c1.symm.trans z) (by decide)) (fun _ => s_lies (br1 (fun _ => ?_) (fun z => absurd (c2.symm.trans z) (by decide)))))
  rw [eMA, eMR, z0 _ (by omega), z0 _ (by omega)]
  refine ⟨fun z => absurd z w, fun _ => ⟨fun _ => ?_, fun z => absurd z w2⟩⟩
  intro σ61 e61 σ63 e63 v65 e65 v67 e67
  have ag63 : Ag (fun o p => o = 0 ∧ (p = 55 ∨ p = 56)) m σ63 := by rw [e63, e61]; exact (Ag.put (by omega)).set (by omega)
  have f55 : gI σ63 0 55 = nI (nA K) := by rw [e63, gI_same, e61, gI_sI, if_neg (by omega)]; exact eMA
  have f56 : gI σ63 0 56 = nI s0 := by rw [e63, gI_sI, if_neg (by omega), e61, gI_same]
  have hM63 := hM.lo ag63 (by omega)
  have v65' : v65 = nI L.length := by rw [e65]; exact hM63.2.2.1.1
  have v67' : v67 = nI d := by rw [e67, ag63.at 4 395 (by omega)]; exact h1
  rw [v65', v67']
  refine s_Myears97 ?_
  intro τ1 ag1 hz
  have hM1 := hM63.lo ag1 (by omega)
  refine s_years129 hI (by omega) (by omega) hX.2.2.1 hX.2.2.2 h3 h4 hs0 hk1 hk h5 hM1 ?_ ?_ ?_ hz ?_
  · rw [ag1.at _ _ (by omega), ag63.at _ _ (by omega)]; exact h1
  · rw [ag1.at _ _ (by omega)]; exact f55
  · rw [ag1.at _ _ (by omega)]; exact f56
  intro τ2 ag2 hM2 hd2 e55 e54
  refine s_good ⟨rfl, ?_⟩
  have ag : Ag yP m τ2 := (ag63.mono (fun o p z => by unfold yP; omega)).trans ((ag1.mono (fun o p z => by unfold yP; omega)).trans ag2)
  have hRS : RSX τ2 x1 := by
    refine hB.2.2.2.2.2.2.1.gen (P := yP) (Q := ylP) (fun o p z => ag.at o p z) (fun o p z => ax.i o p z) (Or.inr ?_) (Or.inr ?_) (Or.inr ?_) ?_ (Or.inr ?_) (Or.inl ⟨nA K, ha8.2, e110, e55, fun a ha => ?_⟩) ?_
    · unfold yP qP lgP ylP xq wrP; omega
    · unfold yP qP lgP ylP xq wrP; omega
    · unfold yP qP lgP ylP xq wrP; omega
    · exact ⟨fun p => by unfold yP qP lgP; omega, fun p => by unfold ylP xq wrP; omega⟩
    · exact ⟨by unfold yP qP lgP; omega, fun p => by unfold yP qP lgP; omega, by unfold ylP xq wrP; omega, fun p => by unfold ylP xq wrP; omega⟩
    · exact ⟨(e114 a ha).1.trans (e54 a ha).1.symm, (e114 a ha).2.trans (e54 a ha).2.symm⟩
    · unfold yP qP lgP; omega
  refine INB.good hM2.z (hB.gen (P := yP) (fun o p z => ag.at o p z) ⟨fun p => by unfold yP qP lgP; omega, by unfold yP qP lgP; omega⟩ ax (by unfold ylP xq wrP; omega) hX1 hd2 ?_ h3 h4 h5 hRS ⟨g, by omega, ?_⟩) hn
  · rw [ax.i 208 0 (by unfold ylP xq wrP; omega)]; exact h2
  · rw [ax.i 50 5 (by unfold ylP xq wrP; omega)]; exact hg2
/-- the tape alone changes -/
theorem INV.tp {P P2 : Nat → Nat → Prop} (h : INV T m x n) (ag : Ag P m m') (hP : ∀ o p, P o p → o = 12 ∨ o = 13 ∨ (o = 0 ∧ p = 13)) (ax : AgX P2 (fun _ => False) x x') (hP2 : ∀ o p, P2 o p → o = 21 ∨ (o = 20)) (ht : tapE m' x') : INV T m' x' n := by
  obtain ⟨K, L, d, hM, hB, est⟩ := h.b
  have np : ∀ o p, ¬ (o = 12 ∨ o = 13 ∨ (o = 0 ∧ p = 13)) → ¬ P o p := fun o p z w => z (hP o p w)
  have np2 : ∀ o p, ¬ (o = 21 ∨ o = 20) → ¬ P2 o p := fun o p z w => z (hP2 o p w)
  refine INB.inv (hM.lo ag (fun o p z => by have := hP o p z; omega)) (hB.lo ag (fun o p z => by have := hP o p z; omega) ax (fun o p z => by have := hP2 o p z; omega) ?_) ?_
  · refine hB.2.2.2.2.2.2.1.gen (P := P) (Q := P2) (fun o p z => ag.at o p z) (fun o p z => ax.i o p z) (Or.inr ⟨np _ _ (by omega), np2 _ _ (by omega)⟩) (Or.inr ⟨np _ _ (by omega), np2 _ _ (by omega)⟩) (Or.inr ⟨np _ _ (by omega), np2 _ _ (by omega)⟩) ⟨fun p => np _ _ (by omega), fun p => np2 _ _ (by omega)⟩ (Or.inl ht) (Or.inr ⟨np _ _ (by omega), fun p => ⟨np _ _ (by omega), np _ _ (by omega)⟩, np2 _ _ (by omega), fun p => ⟨np2 _ _ (by omega), np2 _ _ (by omega)⟩⟩) (fun p => ⟨np _ _ (by omega), np _ _ (by omega)⟩)
  · rw [ax.i _ _ (np2 _ _ (by omega)), ag.at _ _ (np _ _ (by omega))]; exact est
theorem p_end {a1 : Int32} (h : INV T m x n) : w_Face_end T x a1 (fun r x' => w_M_end m a1 (fun r' m' => r = r' ∧ INV T m' x' n)) := by
  have hh := h
  obtain ⟨K, L, d, -, -, -, -, -, -, -, h6, -⟩ := hh
  obtain ⟨-, -, ⟨sz, t1, t2, t3, t4⟩, -, -, -⟩ := h6
  have no : ¬ (0 ≤ a1 ∧ a1 ≤ nI sz) → w_M_end m a1 (fun r' m' => (-1 : Int32) = r' ∧ INV T m' x n) := by
    intro q
    unfold w_M_end
    rw [t3]
    exact s_lies (br1 (fun e => absurd (of_decide_eq_true e) q) (fun _ => ⟨rfl, h⟩))
  unfold w_Face_end
  rw [t2]
  refine ⟨fun q => no (by grind), fun q => ⟨fun q2 σ3 e3 => ?_, fun q2 => no (by grind)⟩⟩
  have q0 : (0 : Int32) ≤ a1 := by grind
  obtain ⟨k, hk, ek⟩ := inB_z (x := a1) (hi := sz) (inB_t ⟨q0, q2⟩) (by omega)
  subst e3; subst ek
  unfold w_M_end
  rw [t3]
  refine s_lies (br1 (fun _ σ4 e4 => ⟨rfl, ?_⟩) (fun e => absurd (e.symm.trans (inB_t ⟨q0, q2⟩)) (by decide)))
  subst e4
  refine h.tp (P := fun o p => o = 0 ∧ p = 13) (P2 := fun o p => o = 20 ∧ p = 1) (Ag.put ⟨rfl, rfl⟩) (by omega) (AgX.put ⟨rfl, rfl⟩) (by omega) ⟨k, by omega, gI_same, gI_same, fun i hi => ?_⟩
  rw [gI_sI, if_neg (by omega), gI_sI, if_neg (by omega)]
  exact t4 i (by omega)
end CT
