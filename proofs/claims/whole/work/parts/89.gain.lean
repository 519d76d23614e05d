/-! ===== both told: gainsaying, terms, what is in force, fines ===== -/
theorem mask8 {v b : Nat} (hv : v < 256) (hb : b < 8) : nI v &&& (jshl 1 (nI b) ^^^ (-1)) = nI v &&& bits (fun i => decide (¬ i = b)) 8 := by
  have key := co_dec (N := 2048) (P := fun k => nI (k / 8) &&& (jshl 1 (nI (k % 8)) ^^^ (-1)) = nI (k / 8) &&& bits (fun i => decide (¬ i = k % 8)) 8) (by decide +kernel) (i := 8 * v + b) (by omega)
  have e1 : (8 * v + b) / 8 = v := by omega
  have e2 : (8 * v + b) % 8 = b := by omega
  simp only [e1, e2] at key
  exact key
theorem bits_put (p : Nat → Bool) {b : Nat} (hb : b < 8) (z : Bool) : (bits p 8 &&& (jshl 1 (nI b) ^^^ (-1))) ||| jshl (bl z) (nI b) = bits (fun i => if i = b then z else p i) 8 := by
  rw [bits_N p 8 (by omega), mask8 (bitsN_lt p 8) hb, ← bits_N p 8 (by omega), bits_and _ _ (by omega)]
  cases z
  · have e0 : jshl (bl false) (nI b) = bits (fun _ => false) 8 := by
      have := jshl_n (n := 0) (k := b) (by omega) (by omega)
      rw [show bl false = nI 0 from rfl, this, Nat.zero_mul, bits_0]; rfl
    rw [e0, bits_or _ _ (by omega)]
    refine bits_congr 8 (fun i _ => ?_)
    by_cases c : i = b
    · rw [if_pos c]; simp [c]
    · rw [if_neg c]; simp [c]
  · rw [show bl true = 1 from rfl, bits_set (by omega) hb]
    refine bits_congr 8 (fun i _ => ?_)
    by_cases c : i = b
    · rw [if_pos c]; simp [c]
    · rw [if_neg c]; simp [c]
section CG
variable {m x m' x' : DD} {T : TXT} {n : Nat} {K : Nat → Int32} {L : List RD}
theorem p_gainsay {a1 a2 a3 : Int32} (h : INV T m x n) (hn : n < 2 ^ 20) : w_Face_gainsay T x a1 a2 a3 (fun r x' => w_M_gainsay m a1 a2 a3 (fun r' m' => r = r' ∧ INV T m' x' (n + 1))) := by
  obtain ⟨K, L, d, hM, hB, -⟩ := h.b
  have hX := hB.1
  have hI := hX.1.2.2
  have ha8 := hI.a
  have hr4 := hI.r
  obtain ⟨g, hg1, hg2⟩ := hB.2.2.2.2.2.2.2.2.2.2
  have r1 : (a1 = a2 ∨ inB a3 0 1 = false) → w_Face_gainsay_j14 T (fun r x' => w_M_gainsay m a1 a2 a3 (fun r' m' => r = r' ∧ INV T m' x' (n + 1))) x := by
    intro c
    refine rff hM hB (Or.inl rfl) (w_M_gainsay m a1 a2 a3) (fun post hp => ?_)
    unfold w_M_gainsay w_M_gainsay_j14
    refine s_lies (br0 (fun _ => hp) (fun e => ⟨fun q => ?_, fun _ => hp⟩))
    rcases c with c | c
    · exact absurd c q
    · exact absurd (e.symm.trans c) (by decide)
  have r2 : ¬ a1 = a2 → inB a3 0 1 = true → (actB K a1 = false ∨ actB K a2 = false) → w_Face_gainsay_j42 T (fun r x' => w_M_gainsay m a1 a2 a3 (fun r' m' => r = r' ∧ INV T m' x' (n + 1))) x := by
    intro c1 c2 c3
    refine rff hM hB (Or.inr (Or.inl rfl)) (w_M_gainsay m a1 a2 a3) (fun post hp => ?_)
    unfold w_M_gainsay w_M_gainsay_j36
    refine s_lies (br0 (fun e => absurd (c2.symm.trans e) (by decide)) (fun e => ⟨fun _ => ?_, fun q => absurd q c1⟩))
    refine s_isAct hM.1.1 hM.2.1 (br0 (fun _ => hp) (fun e1 => s_isAct hM.1.1 hM.2.1 (br1 (fun e2 => ?_) (fun _ => hp))))
    rw [e1, e2] at c3
    rcases c3 with z | z <;> exact absurd z (by decide)
  unfold w_Face_gainsay
  refine ⟨fun q => r1 (Or.inl q), fun q => ⟨fun q2 => r1 (Or.inr (inB_f (by grind))), fun q2 => ⟨fun q3 => ?_, fun q3 => r1 (Or.inr (inB_f (by grind)))⟩⟩⟩
  have e3 : inB a3 0 1 = true := inB_t (by grind)
  refine s_XisAct hX.1.1 hI (br0 (fun e => r2 q e3 (Or.inl e)) (fun e1 => s_XisAct hX.1.1 hI (br1 (fun e2 => ?_) (fun e => r2 q e3 (Or.inr e)))))
  obtain ⟨a, ha, ea⟩ := actB_e hI e1
  obtain ⟨b, hb, eb⟩ := actB_e hI e2
  obtain ⟨j, hj, ej⟩ := inB_z (hi := 1) e3 (by decide)
  have hab : ¬ a = b := fun z => q (by rw [ea, eb, z])
  obtain ⟨z, ez⟩ : ∃ z : Bool, a3 = bl z := by
    have : j = 0 ∨ j = 1 := by omega
    rcases this with w | w <;> subst w
    · exact ⟨false, ej⟩
    · exact ⟨true, ej⟩
  subst ea; subst eb; subst ez
  have hin := vp_in_nI (n := a) (N := 8) (by omega) (by decide)
  have hin2 := vp_in_nI (n := b) (N := 8) (by omega) (by decide)
  rw [nI_clamp (by omega), nI_clamp (by omega)]
  refine ⟨hin, fun v15 e15 => ⟨hin, hin, fun σ18 e18 => ⟨hin2, hin2, fun σ22 e22 => ?_⟩⟩⟩
  rw [hX.1.1.gs (by omega), bits_bit _ (by omega) (by omega), show decide (b < 8) = true from decide_eq_true (by omega), Bool.true_and] at e15
  rw [hX.1.1.gs (by omega), bits_put _ (by omega)] at e18
  subst e18
  rw [gI_sI, if_neg (by omega), hX.1.1.gs (by omega), bits_put _ (by omega)] at e22
  subst e22; subst e15
  refine s_granted ?_
  unfold w_M_gainsay
  refine s_lies (br0 (fun e => absurd (e3.symm.trans e) (by decide)) (fun e => ⟨fun _ => ?_, fun w => absurd w q⟩))
  refine s_isAct hM.1.1 hM.2.1 (br0 (fun w => absurd (e1.symm.trans w) (by decide)) (fun _ => s_isAct hM.1.1 hM.2.1 (br1 (fun _ => ?_) (fun w => absurd (e2.symm.trans w) (by decide)))))
  have ei : ∀ u w : Nat, (32 + (8 * nI u)) + nI w = nI (32 + 8 * u + w) := by
    intro u w
    rw [show (32 : Int32) = nI 32 from rfl, show (8 : Int32) = nI 8 from rfl, pk_mul, nI_add, nI_add]
  rw [ei, ei, nI_clamp (by omega), nI_clamp (by omega), hM.1.1 (32 + 8 * a + b) (dyn_lt (by omega))]
  refine ⟨vp_in_nI (by omega) (by decide), fun v16 e16 => ⟨vp_in_nI (by omega) (by decide), fun σ18 e18 => ⟨vp_in_nI (by omega) (by decide), fun σ21 e21 => s_good ⟨?_, ?_⟩⟩⟩⟩
  · rw [e16]
    unfold gsy
    rcases (hI.gs (a := a) (b := b) (by omega) (by omega)).1 with w | w
    · rw [w]; decide
    · rw [w]; decide
  · subst e18; subst e21
    have KE : ∀ p, ¬ (p = 32 + 8 * a + b ∨ p = 32 + 8 * b + a) → upK (upK K (32 + 8 * a + b) (bl z)) (32 + 8 * b + a) (bl z) p = K p := fun p hp => by
      rw [upK_ne (by omega), upK_ne (by omega)]
    have ax : AgX (fun o p => o = 203 ∧ (p = a ∨ p = b)) (fun _ => False) x (sI (sI x 203 a (bits (fun i => if i = b then z else gsy K a i) 8)) 203 b (bits (fun i => if i = a then z else gsy K b i) 8)) := (AgX.put (by omega)).set (by omega)
    have eA : nA (upK (upK K (32 + 8 * a + b) (bl z)) (32 + 8 * b + a) (bl z)) = nA K := nA_cg (KE 399 (by omega))
    have eR : nR (upK (upK K (32 + 8 * a + b) (bl z)) (32 + 8 * b + a) (bl z)) = nR K := nR_cg (KE 400 (by omega))
    have hp := pts_of hX.1.1 hI
    have kab : upK (upK K (32 + 8 * a + b) (bl z)) (32 + 8 * b + a) (bl z) (32 + 8 * a + b) = bl z := by rw [upK_ne (by omega), upK_eq]
    have kba : upK (upK K (32 + 8 * a + b) (bl z)) (32 + 8 * b + a) (bl z) (32 + 8 * b + a) = bl z := upK_eq _ _ _
    have zz : bl z = 0 ∨ bl z = 1 := by cases z <;> simp [bl]
    have gz : decide (bl z = 1) = z := by cases z <;> decide
    refine INB.gch (P := fun o p => o = 4 ∧ (p = 32 + 8 * a + b ∨ p = 32 + 8 * b + a)) hM hB hn (by omega) (by omega) ((Ag.put (by omega)).set (by omega)) (by omega) ((hM.1.1.up _ _).up _ _) ax (by omega) (fun _ w => w.elim) (hp.ch ax (by omega) KE (by omega) (Or.inr ⟨by omega, by omega, by omega⟩) (Or.inl ?_) (Or.inr ⟨by omega, by omega, by omega, by omega⟩) (Or.inr ⟨by omega, by omega⟩) (Or.inr ⟨by omega, by omega⟩) (Or.inr ⟨by omega, by omega, by omega⟩) (Or.inr ⟨by omega, by omega, by unfold rgT; omega⟩)) (hX.1.2.1.ke hI ax (by omega) (by omega) (by omega) KE (by omega) (by omega) (by omega) (by omega) (by unfold rgT; omega)) ⟨g, by omega, by rw [ax.i 50 5 (by omega)]; exact hg2⟩
    refine ⟨?_, ?_⟩
    · intro u w hu hw
      have dg : upK (upK K (32 + 8 * a + b) (bl z)) (32 + 8 * b + a) (bl z) (32 + 8 * u + u) = K (32 + 8 * u + u) := KE _ (by omega)
      rw [dg]
      have o := hI.gs hu hw
      by_cases c1 : u = a ∧ w = b
      · rw [c1.1, c1.2, kab, kba]; exact ⟨zz, rfl, (hI.gs (a := a) (b := b) (by omega) (by omega)).2.2⟩
      · by_cases c2 : u = b ∧ w = a
        · rw [c2.1, c2.2, kab, kba]; exact ⟨zz, rfl, (hI.gs (a := b) (b := a) (by omega) (by omega)).2.2⟩
        · rw [KE _ (by omega), KE _ (by omega)]; exact o
    · intro u hu
      by_cases c2 : u = b
      · subst c2
        rw [gI_same]
        refine bits_congr 8 (fun i hi => ?_)
        unfold gsy
        by_cases c : i = a
        · rw [if_pos c, c, kba, gz]
        · rw [if_neg c, KE _ (by omega)]
      · by_cases c1 : u = a
        · subst c1
          rw [gI_sI, if_neg (by omega), gI_same]
          refine bits_congr 8 (fun i hi => ?_)
          unfold gsy
          by_cases c : i = b
          · rw [if_pos c, c, kab, gz]
          · rw [if_neg c, KE _ (by omega)]
        · rw [ax.i _ _ (by omega), hX.1.1.gs hu]
          refine bits_congr 8 (fun i hi => ?_)
          unfold gsy
          rw [KE _ (by omega)]
theorem p_force {a1 : Int32} (h : INV T m x n) (hn : n < 2 ^ 20) : w_Face_force T x a1 (fun r x' => w_M_force m a1 (fun r' m' => r = r' ∧ INV T m' x' (n + 1))) := by
  obtain ⟨K, L, d, hM, hB, -⟩ := h.b
  have hX := hB.1
  have hI := hX.1.2.2
  have ha8 := hI.a
  have hr4 := hI.r
  have hl6 := hI.l
  obtain ⟨g, hg1, hg2⟩ := hB.2.2.2.2.2.2.2.2.2.2
  have eM : gI m 4 403 = nI (nLw K) := (hM.1.1 403 (by unfold dyn; omega)).trans hl6.1
  have eq1 : inB a1 (-1) (nI (nLw K) - 1) = true ↔ (a1 = -1 ∨ (0 ≤ a1 ∧ a1 < nI (nLw K))) := by
    have := lt_pred (x := a1) (n := nLw K) (by omega)
    unfold inB
    rw [decide_eq_true_iff]
    constructor
    · intro z
      by_cases c : a1 = -1
      · exact Or.inl c
      · exact Or.inr (this.1 ⟨by grind, z.2⟩)
    · rintro (z | z)
      · subst z
        refine ⟨by decide, ?_⟩
        cases hL : nLw K with
        | zero => decide
        | succ k =>
          rw [nI_pred]
          have : (0 : Int32) ≤ nI k := by rw [show (0 : Int32) = nI 0 from rfl, nI_leI (by decide) (by omega)]; omega
          grind
      · have := this.2 z
        exact ⟨by grind, this.2⟩
  have r2 : ¬ (a1 = -1 ∨ (0 ≤ a1 ∧ a1 < nI (nLw K))) → w_Face_force_j20 T (fun r x' => w_M_force m a1 (fun r' m' => r = r' ∧ INV T m' x' (n + 1))) x := by
    intro c
    refine rff hM hB (Or.inr (Or.inl rfl)) (w_M_force m a1) (fun post hp => ?_)
    unfold w_M_force
    rw [eM]
    exact s_lies (br1 (fun e => absurd (eq1.1 e) c) (fun _ => hp))
  have ok : (a1 = -1 ∨ (0 ≤ a1 ∧ a1 < nI (nLw K))) → w_Face_force_j27 T (fun r x' => w_M_force m a1 (fun r' m' => r = r' ∧ INV T m' x' (n + 1))) x a1 := by
    intro c
    unfold w_Face_force_j27
    intro v3 e3 σ5 e5
    subst e3; subst e5
    refine s_forget (s_granted ?_)
    unfold w_M_force
    rw [eM]
    refine s_lies (br1 (fun _ => ?_) (fun e => absurd (e.symm.trans (eq1.2 c)) (by decide)))
    intro v4 e4 σ6 e6
    subst e4; subst e6
    refine s_good ⟨?_, ?_⟩
    · rw [hM.1.1 404 (by unfold dyn; omega)]; exact hX.1.1.2.2.2.2.1
    · have KE : ∀ p, ¬ p = 404 → upK K 404 a1 p = K p := fun p hp => upK_ne hp
      have ax : AgX (fun o p => (o = 200 ∧ p = 19) ∨ (o = 50 ∧ p = 5)) (fun _ => False) x (sI (sI x 200 19 a1) 50 5 (gI (sI x 200 19 a1) 50 5 + 1)) := (AgX.put (by omega)).set (by omega)
      have eA : nA (upK K 404 a1) = nA K := nA_cg (KE 399 (by omega))
      have eR : nR (upK K 404 a1) = nR K := nR_cg (KE 400 (by omega))
      have eL : nLw (upK K 404 a1) = nLw K := nL_cg (KE 403 (by omega))
      have hp := pts_of hX.1.1 hI
      have e5 : gI (sI (sI x 200 19 a1) 50 5 (gI (sI x 200 19 a1) 50 5 + 1)) 50 5 = gI x 50 5 + 1 := by
        rw [gI_same, gI_sI, if_neg (by omega)]
      refine INB.gch (P := fun o p => o = 4 ∧ p = 404) hM hB hn (by omega) (by omega) (Ag.put (by omega)) (by omega) (hM.1.1.up _ _) ax (by omega) (fun _ w => w.elim) (hp.ch ax (by omega) KE (by omega) (Or.inr ⟨by omega, by omega, by omega⟩) (Or.inr ⟨by omega, by omega⟩) (Or.inr ⟨by omega, by omega, by omega, by omega⟩) (Or.inr ⟨by omega, by omega⟩) (Or.inr ⟨by omega, by omega⟩) (Or.inr ⟨by omega, by omega, by omega⟩) (Or.inl ?_)) (hX.1.2.1.fg hg2 (by omega) e5 (fun k => ax.i _ _ (by omega))) ⟨g + 1, by omega, by rw [e5, hg2, nI_1]⟩
      obtain ⟨b1, b2, b3, b4, b5, b6⟩ := hp.2.2.2.2.2.2
      have lw : ∀ f, f < nLw K → LwE K (upK K 404 a1) f := fun f hf => LwE.of (S := fun p => p = 404) KE (by unfold rgT; omega) (by omega)
      refine ⟨?_, ?_, ?_, ?_, ?_, ?_⟩
      · rw [KE _ (by omega), ax.i _ _ (by omega)]; exact b1
      · rw [upK_eq, gI_sI, if_neg (by omega), gI_same]
      · rw [eL, KE _ (by omega)]; exact b3
      · rw [eL, upK_eq]
        rcases c with c | c
        · exact Or.inl c
        · exact Or.inr (nI_ltE c (by omega))
      · intro f hf
        rw [eL] at hf
        exact lok_cg (b5 f hf) (lw f hf)
      · intro f hf
        rw [eL] at hf
        obtain ⟨t, ht, er, tk⟩ := b6 f hf
        refine ⟨t, ht, (ax.r _ _).trans er, ?_⟩
        rw [cls_cg (b5 f hf).1 (lw f hf)]
        exact tk.ag ax (by omega) (by omega) (by omega)
  unfold w_Face_force
  have eX : gI x 200 17 = nI (nLw K) := hX.1.1.2.2.2.1.trans hl6.1
  rw [eX]
  refine ⟨fun q => ok (Or.inl q), fun q => ⟨fun q2 => r2 (by grind), fun q2 => ⟨fun q3 => ok (Or.inr ⟨by grind, q3⟩), fun q3 => r2 (by grind)⟩⟩⟩
theorem p_fine {a1 a2 a3 a4 : Int32} (h : INV T m x n) (hn : n < 2 ^ 20) : w_Face_fine T x a1 a2 a3 a4 (fun r x' => w_M_fine m a1 a2 a3 a4 (fun r' m' => r = r' ∧ INV T m' x' (n + 1))) := by
  obtain ⟨K, L, d, hM, hB, -⟩ := h.b
  have hX := hB.1
  have hI := hX.1.2.2
  have ha8 := hI.a
  have hr4 := hI.r
  have hf8 := hI.f
  obtain ⟨g, hg1, hg2⟩ := hB.2.2.2.2.2.2.2.2.2.2
  have r1 : (inB a1 0 999 = false ∨ inB a2 0 5 = false ∨ inB a4 0 1 = false) → w_Face_fine_j29 T (fun r x' => w_M_fine m a1 a2 a3 a4 (fun r' m' => r = r' ∧ INV T m' x' (n + 1))) x := by
    intro c
    refine rff hM hB (Or.inl rfl) (w_M_fine m a1 a2 a3 a4) (fun post hp => ?_)
    unfold w_M_fine w_M_fine_j24
    refine s_isDay (br0 (fun _ => hp) (fun e1 => s_isClass (br0 (fun _ => hp) (fun e2 => s_lies (br1 (fun e3 => ?_) (fun _ => hp))))))
    rw [e1, e2, e3] at c
    rcases c with w | w | w <;> exact absurd w (by decide)
  unfold w_Face_fine
  refine s_XcanBeTerm ?_
  rw [show isTm 0 a1 = inB a1 0 999 from rfl]
  refine br0 (fun e1 => r1 (Or.inl e1)) (fun e1 => ⟨fun q => r1 (Or.inr (Or.inl (inB_f (by grind)))), fun q => ⟨fun q2 => r1 (Or.inr (Or.inl (inB_f (by grind)))), fun q2 => ⟨fun q3 => r1 (Or.inr (Or.inr (inB_f (by grind)))), fun q3 => ⟨fun q4 => ?_, fun q4 => r1 (Or.inr (Or.inr (inB_f (by grind))))⟩⟩⟩⟩)
  have e2 : inB a2 0 5 = true := inB_t (by grind)
  have e4 : inB a4 0 1 = true := inB_t (by grind)
  have md : ∀ post : Int32 → DD → Prop, w_M_isAct m a3 (fun r12 σ13 => (¬ r12 = 0 → ∀ v15, v15 = (gI σ13 4 402) → (¬ v15 = 8 → vp_in (363 + (4 * v15)) 6012 ∧ ∀ σ18, σ18 = sI σ13 4 ((363 + (4 * v15)).toNatClampNeg) a1 → vp_in ((363 + (4 * v15)) + 1) 6012 ∧ ∀ σ21, σ21 = sI σ18 4 (((363 + (4 * v15)) + 1).toNatClampNeg) a2 → vp_in ((363 + (4 * v15)) + 2) 6012 ∧ ∀ σ24, σ24 = sI σ21 4 (((363 + (4 * v15)) + 2).toNatClampNeg) a3 → vp_in ((363 + (4 * v15)) + 3) 6012 ∧ ∀ σ27, σ27 = sI σ24 4 (((363 + (4 * v15)) + 3).toNatClampNeg) a4 → ∀ σ30, σ30 = sI σ27 4 402 ((gI σ27 4 402) + 1) → w_M_good σ30 (v15 + 1) (fun r32 σ33 => post r32 σ33)) ∧ (v15 = 8 → w_M_refuses σ13 (-5) (fun r34 σ35 => post r34 σ35))) ∧ (r12 = 0 → w_M_refuses σ13 (-2) (fun r36 σ37 => post r36 σ37))) → w_M_fine m a1 a2 a3 a4 post := by
    intro post k
    unfold w_M_fine
    exact s_isDay (br0 (fun w => absurd (e1.symm.trans w) (by decide)) (fun _ => s_isClass (br0 (fun w => absurd (e2.symm.trans w) (by decide)) (fun _ => s_lies (br1 (fun _ => k) (fun w => absurd (e4.symm.trans w) (by decide)))))))
  refine s_XisAct hX.1.1 hI (br1 (fun e3 => ?_) (fun e3 => ?_))
  · have eX : gI x 200 12 = nI (nF K) := hX.1.1.2.2.1.trans hf8.1
    have eM : gI m 4 402 = nI (nF K) := (hM.1.1 402 (by unfold dyn; omega)).trans hf8.1
    rw [eX, show (8 : Int32) = nI 8 from rfl, nI_ltI (by omega) (by decide)]
    refine ⟨fun q5 => ?_, fun q5 => ?_⟩
    · have hin := vp_in_nI (n := nF K) (N := 8) q5 (by decide)
      rw [nI_clamp (by omega)]
      refine ⟨hin, fun σ14 e14 => ?_⟩
      have f14 : gI σ14 200 12 = nI (nF K) := by rw [e14, gI_sI, if_neg (by omega)]; exact eX
      rw [f14, nI_clamp (by omega)]
      refine ⟨hin, fun σ17 e17 => ?_⟩
      have f17 : gI σ17 200 12 = nI (nF K) := by rw [e17, gI_sI, if_neg (by omega)]; exact f14
      rw [f17, nI_clamp (by omega)]
      refine ⟨hin, fun σ20 e20 => ?_⟩
      have f20 : gI σ20 200 12 = nI (nF K) := by rw [e20, gI_sI, if_neg (by omega)]; exact f17
      rw [f20, nI_clamp (by omega)]
      refine ⟨hin, fun σ23 e23 σ26 e26 => ?_⟩
      have f23 : gI σ23 200 12 = nI (nF K) := by rw [e23, gI_sI, if_neg (by omega)]; exact f20
      rw [f23, nI_1] at e26
      have f26 : gI σ26 200 12 = nI (nF K + 1) := by rw [e26, gI_same]
      rw [f26]
      refine s_granted (md _ (s_isAct hM.1.1 hM.2.1 (br1 (fun _ => ?_) (fun w => absurd (e3.symm.trans w) (by decide)))))
      intro v15 e15
      rw [eM] at e15
      subst e15
      have ei : (363 : Int32) + (4 * nI (nF K)) = nI (363 + 4 * nF K) := by rw [show (363 : Int32) = nI 363 from rfl, show (4 : Int32) = nI 4 from rfl, pk_mul, nI_add]
      rw [ei, nI_1, nI_1, show nI (363 + 4 * nF K) + 2 = nI (363 + 4 * nF K + 2) from nI_add _ 2, show nI (363 + 4 * nF K) + 3 = nI (363 + 4 * nF K + 3) from nI_add _ 3, nI_clamp (by omega), nI_clamp (by omega), nI_clamp (by omega), nI_clamp (by omega)]
      refine ⟨fun _ => ⟨vp_in_nI (by omega) (by decide), fun σ18 e18 => ⟨vp_in_nI (by omega) (by decide), fun σ21 e21 => ⟨vp_in_nI (by omega) (by decide), fun σ24 e24 => ⟨vp_in_nI (by omega) (by decide), fun σ27 e27 σ30 e30 => s_good ⟨rfl, ?_⟩⟩⟩⟩⟩, fun w => absurd (show nF K = 8 from (nI_eq (by omega) (by decide)).1 w) (by omega)⟩
      subst e18; subst e21; subst e24; subst e27
      have eF : gI (sI (sI (sI (sI m 4 (363 + 4 * nF K) a1) 4 (363 + 4 * nF K + 1) a2) 4 (363 + 4 * nF K + 2) a3) 4 (363 + 4 * nF K + 3) a4) 4 402 + 1 = nI (nF K + 1) := by
        rw [gI_sI, if_neg (by omega), gI_sI, if_neg (by omega), gI_sI, if_neg (by omega), gI_sI, if_neg (by omega), eM, nI_1]
      rw [eF] at e30
      subst e30
      have ax : AgX (fun o p => (214 ≤ o ∧ o ≤ 217 ∧ p = nF K) ∨ (o = 200 ∧ p = 12)) (fun _ => False) x σ26 := by
        rw [e26, e23, e20, e17, e14]
        exact ((((AgX.put (by omega)).set (by omega)).set (by omega)).set (by omega)).set (by omega)
      have v0 : gI σ26 214 (nF K) = a1 := by
        rw [e26, gI_sI, if_neg (by omega), e23, gI_sI, if_neg (by omega), e20, gI_sI, if_neg (by omega), e17, gI_sI, if_neg (by omega), e14, gI_same]
      have v1 : gI σ26 215 (nF K) = a2 := by
        rw [e26, gI_sI, if_neg (by omega), e23, gI_sI, if_neg (by omega), e20, gI_sI, if_neg (by omega), e17, gI_same]
      have v2 : gI σ26 216 (nF K) = a3 := by
        rw [e26, gI_sI, if_neg (by omega), e23, gI_sI, if_neg (by omega), e20, gI_same]
      have v3 : gI σ26 217 (nF K) = a4 := by
        rw [e26, gI_sI, if_neg (by omega), e23, gI_same]
      obtain ⟨K', eK'⟩ : ∃ K', K' = upK (upK (upK (upK (upK K (363 + 4 * nF K) a1) (363 + 4 * nF K + 1) a2) (363 + 4 * nF K + 2) a3) (363 + 4 * nF K + 3) a4) 402 (nI (nF K + 1)) := ⟨_, rfl⟩
      have KE : ∀ p, ¬ ((363 + 4 * nF K ≤ p ∧ p < 363 + 4 * nF K + 4) ∨ p = 402) → K' p = K p := fun p hp => by
        rw [eK', upK_ne (by omega), upK_ne (by omega), upK_ne (by omega), upK_ne (by omega), upK_ne (by omega)]
      have k0 : K' (363 + 4 * nF K) = a1 := by rw [eK', upK_ne (by omega), upK_ne (by omega), upK_ne (by omega), upK_ne (by omega), upK_eq]
      have k1 : K' (363 + 4 * nF K + 1) = a2 := by rw [eK', upK_ne (by omega), upK_ne (by omega), upK_ne (by omega), upK_eq]
      have k2 : K' (363 + 4 * nF K + 2) = a3 := by rw [eK', upK_ne (by omega), upK_ne (by omega), upK_eq]
      have k3 : K' (363 + 4 * nF K + 3) = a4 := by rw [eK', upK_ne (by omega), upK_eq]
      have k4 : K' 402 = nI (nF K + 1) := by rw [eK', upK_eq]
      have eA : nA K' = nA K := nA_cg (KE 399 (by omega))
      have eR : nR K' = nR K := nR_cg (KE 400 (by omega))
      have eFF : nF K' = nF K + 1 := nF_of k4 (by omega)
      have hp := pts_of hX.1.1 hI
      have mk : MK (sI (sI (sI (sI (sI m 4 (363 + 4 * nF K) a1) 4 (363 + 4 * nF K + 1) a2) 4 (363 + 4 * nF K + 2) a3) 4 (363 + 4 * nF K + 3) a4) 4 402 (nI (nF K + 1))) K' := by
        rw [eK']; exact ((((hM.1.1.up _ _).up _ _).up _ _).up _ _).up _ _
      refine INB.gch (P := fun o p => o = 4 ∧ ((363 + 4 * nF K ≤ p ∧ p < 363 + 4 * nF K + 4) ∨ p = 402)) hM hB hn (by omega) (by omega) (((((Ag.put (by omega)).set (by omega)).set (by omega)).set (by omega)).set (by omega)) (by omega) mk ax (by omega) (fun _ w => w.elim) (hp.ch ax (by omega) KE (by omega) (Or.inr ⟨by omega, by omega, by omega⟩) (Or.inr ⟨by omega, by omega⟩) (Or.inr ⟨by omega, by omega, by omega, by omega⟩) (Or.inr ⟨by omega, by omega⟩) (Or.inr ⟨by omega, by omega⟩) (Or.inl ?_) (Or.inr ⟨by omega, by omega, by unfold rgT; omega⟩)) (hX.1.2.1.ke hI ax (by omega) (by omega) (by omega) KE (by omega) (by omega) (by omega) (by omega) (by unfold rgT; omega)) ⟨g, by omega, by rw [ax.i 50 5 (by omega)]; exact hg2⟩
      refine ⟨f26.trans k4.symm, ?_, ?_, ?_⟩
      · rw [eFF, k4]; exact ⟨rfl, by omega⟩
      · intro i hi
        rw [eFF] at hi
        rw [eA]
        by_cases c : i = nF K
        · subst c
          rw [k0, k1, k2, k3]
          obtain ⟨j0, w0, z0⟩ := inB_z (hi := 999) e1 (by decide)
          obtain ⟨j1, w1, z1⟩ := inB_z (hi := 5) e2 (by decide)
          obtain ⟨j3, w3, z3⟩ := inB_z (hi := 1) e4 (by decide)
          refine ⟨⟨j0, by omega, w0, z0⟩, ⟨j1, by omega, w1, z1⟩, actB_e hI e3, ?_⟩
          have : j3 = 0 ∨ j3 = 1 := by omega
          rcases this with w | w <;> subst w
          · exact Or.inl z3
          · exact Or.inr z3
        · rw [KE _ (by omega), KE _ (by omega), KE _ (by omega), KE _ (by omega)]
          exact hI.fn (by omega)
      · intro i hi
        rw [eFF] at hi
        by_cases c : i = nF K
        · subst c
          rw [k0, k1, k2, k3]
          exact ⟨v0, v1, v2, v3⟩
        · rw [KE _ (by omega), KE _ (by omega), KE _ (by omega), KE _ (by omega), ax.i _ _ (by omega), ax.i _ _ (by omega), ax.i _ _ (by omega), ax.i _ _ (by omega)]
          exact hp.2.2.2.2.2.1.2.2.2 i (by omega)
    · refine rff hM hB (Or.inr (Or.inr (Or.inr (Or.inl rfl)))) (w_M_fine m a1 a2 a3 a4) (fun post hp => md post (s_isAct hM.1.1 hM.2.1 (br1 (fun _ => ?_) (fun w => absurd (e3.symm.trans w) (by decide)))))
      intro v15 e15
      rw [eM] at e15
      subst e15
      have : nF K = 8 := by omega
      exact ⟨fun w => absurd (by rw [this]; rfl) w, fun _ => hp⟩
  · exact rff hM hB (Or.inr (Or.inl rfl)) (w_M_fine m a1 a2 a3 a4) (fun post hp => md post (s_isAct hM.1.1 hM.2.1 (br1 (fun w => absurd (w.symm.trans e3) (by decide)) (fun _ => hp))))
theorem p_forgive (h : INV T m x n) : w_Face_forgive T x (fun r x' => w_M_forgive m (fun r' m' => r = r' ∧ INV T m' x' n)) := by
  obtain ⟨K, L, d, hM, hB, est⟩ := h.b
  have hX := hB.1
  have hI := hX.1.2.2
  have ha8 := hI.a
  have hr4 := hI.r
  have hl6 := hI.l
  obtain ⟨g, hg1, hg2⟩ := hB.2.2.2.2.2.2.2.2.2.2
  unfold w_Face_forgive
  intro v1 e1 σ3 e3
  subst e1; subst e3
  unfold w_M_forgive
  intro v1 e1 σ3 e3
  subst e1; subst e3
  refine ⟨hX.1.1.2.2.1.trans (hM.1.1 402 (by unfold dyn; omega)).symm, ?_⟩
  have KE : ∀ p, ¬ p = 402 → upK K 402 0 p = K p := fun p hp => upK_ne hp
  have ag : Ag (fun o p => o = 4 ∧ p = 402) m (sI m 4 402 0) := Ag.put (by omega)
  have ax : AgX (fun o p => o = 200 ∧ p = 12) (fun _ => False) x (sI x 200 12 0) := AgX.put (by omega)
  have eA : nA (upK K 402 0) = nA K := nA_cg (KE 399 (by omega))
  have eR : nR (upK K 402 0) = nR K := nR_cg (KE 400 (by omega))
  have eF : nF (upK K 402 0) = 0 := nF_of (upK_eq _ _ _) (by omega)
  have hp := pts_of hX.1.1 hI
  have hp' : PTS (sI x 200 12 0) 200 T (upK K 402 0) := by
    refine hp.ch ax (by omega) KE (by omega) (Or.inr ⟨by omega, by omega, by omega⟩) (Or.inr ⟨by omega, by omega⟩) (Or.inr ⟨by omega, by omega, by omega, by omega⟩) (Or.inr ⟨by omega, by omega⟩) (Or.inr ⟨by omega, by omega⟩) (Or.inl ?_) (Or.inr ⟨by omega, by omega, by unfold rgT; omega⟩)
    refine ⟨?_, ?_, ?_, ?_⟩
    · rw [gI_same, upK_eq]
    · rw [eF, upK_eq]; exact ⟨rfl, by omega⟩
    · intro i hi; rw [eF] at hi; exact absurd hi (by omega)
    · intro i hi; rw [eF] at hi; exact absurd hi (by omega)
  obtain ⟨hR', hI'⟩ := of_pts hp'
  have hL' := hX.2.2.1.mo (K' := upK K 402 0) (by omega) (by omega)
  refine INB.inv (K := upK K 402 0) (L := L) (d := d) ⟨⟨hM.1.1.up _ _, hM.1.2.1.ag ag (by omega) (by omega), ?_⟩, hI', hM.2.2.1.fr (fun p hp => ag.at 4 p (by omega)), hL'⟩ (hB.ch (fun o p _ c => ag.at o p (by omega)) (ax.mono (fun o p z => by unfold chX; omega) (fun _ z => z.elim)) ⟨⟨hR', hX.1.2.1.ke hI ax (by omega) (by omega) (by omega) KE (by omega) (by omega) (by omega) (by omega) (by unfold rgT; omega), hI'⟩, ?_, hL', hX.2.2.2⟩ ?_ ?_ hB.2.2.2.1 hB.2.2.2.2.1 hB.2.2.2.2.2.1 ⟨g, by omega, by rw [ax.i 50 5 (by omega)]; exact hg2⟩) ?_
  · rw [ag.at 0 29 (by omega), ag.at 0 1 (by omega)]
    intro hv hh a r w g1 g3 ga gr gw
    rw [ag.at 29 _ (by omega), ans_cg (K' := upK K 402 0) hI (KE _ (by omega)) (KE _ (by omega)) (fun j hj => KE _ (by omega)) (KE _ (by omega)) (fun f hf => LwE.of (S := fun p => p = 402) KE (by unfold rgT; omega) (by omega))]
    exact hM.1.2.2 hv hh a r w g1 g3 ga gr gw
  · refine ⟨?_, hX.2.1.2.1, fun i y hy => ?_⟩
    · rw [ax.i _ _ (by omega)]; exact hX.2.1.1
    · rw [ax.i _ _ (by omega), ax.i _ _ (by omega), ax.i _ _ (by omega)]; exact hX.2.1.2.2 i y hy
  · rw [ag.at 4 395 (by omega)]; exact hB.2.1
  · rw [ax.i 208 0 (by omega)]; exact hB.2.2.1
  · rw [ag.at 0 0 (by omega), ax.i 0 11 (by omega)]; exact est
end CG
