/-! ===== both told: listeners, readers, acts ===== -/
section CL
variable {m x m' x' : DD} {T : TXT} {n : Nat}
theorem inB_t {v lo hi : Int32} (h : lo ≤ v ∧ v ≤ hi) : inB v lo hi = true := by unfold inB; exact decide_eq_true h
theorem inB_f {v lo hi : Int32} (h : ¬ (lo ≤ v ∧ v ≤ hi)) : inB v lo hi = false := by unfold inB; exact decide_eq_false h
theorem nA_of {K : Nat → Int32} {k : Nat} (h : K 399 = nI k) (hk : k < 2 ^ 31) : nA K = k := by unfold nA; rw [h, nI_clamp hk]
theorem nR_of {K : Nat → Int32} {k : Nat} (h : K 400 = nI k) (hk : k < 2 ^ 31) : nR K = k := by unfold nR; rw [h, nI_clamp hk]
theorem nF_of {K : Nat → Int32} {k : Nat} (h : K 402 = nI k) (hk : k < 2 ^ 31) : nF K = k := by unfold nF; rw [h, nI_clamp hk]
theorem nL_of {K : Nat → Int32} {k : Nat} (h : K 403 = nI k) (hk : k < 2 ^ 31) : nLw K = k := by unfold nLw; rw [h, nI_clamp hk]
theorem p_listen {a1 a2 : Int32} (h : INV T m x n) (hn : n < 2 ^ 20) : w_Face_listen T x a1 a2 (fun r x' => w_M_listen m a1 a2 (fun r' m' => r = r' ∧ INV T m' x' (n + 1))) := by
  obtain ⟨K, L, d, hM, hB, -⟩ := h.b
  have hX := hB.1
  have hI := hX.1.2.2
  have out : (inB a1 0 6 = false ∨ inB a2 0 63 = false) → w_Face_listen_j20 T (fun r x' => w_M_listen m a1 a2 (fun r' m' => r = r' ∧ INV T m' x' (n + 1))) x := by
    intro e
    unfold w_Face_listen_j20
    refine rff hM hB (Or.inl rfl) (w_M_listen m a1 a2) (fun post hp => ?_)
    unfold w_M_listen w_M_listen_j20
    refine s_lies (br0 (fun _ => hp) (fun e1 => s_lies (br1 (fun e2 => ?_) (fun _ => hp))))
    rw [e1, e2] at e
    rcases e with z | z <;> exact absurd z (by decide)
  unfold w_Face_listen
  refine ⟨fun q => out (Or.inl (inB_f (by grind))), fun q => ⟨fun q2 => out (Or.inl (inB_f (by grind))), fun q2 => ⟨fun q3 => out (Or.inr (inB_f (by grind))), fun q3 => ⟨fun q4 => ?_, fun q4 => out (Or.inr (inB_f (by grind)))⟩⟩⟩⟩
  have e1 : inB a1 0 6 = true := inB_t (by grind)
  have e2 : inB a2 0 63 = true := inB_t (by grind)
  obtain ⟨w, hw, ew⟩ := inB_z (hi := 6) e1 (by decide)
  obtain ⟨v, hv, ev⟩ := inB_z (hi := 63) e2 (by decide)
  subst ew; subst ev
  have hin7 := vp_in_nI (n := w) (N := 7) (by omega) (by decide)
  rw [nI_clamp (by omega), hX.1.1.li (by omega)]
  refine ⟨hin7, fun v8 e8 => ⟨hin7, fun σ10 e10 => ?_⟩⟩
  subst e8; subst e10
  refine s_granted ?_
  unfold w_M_listen
  refine s_lies (br0 (fun z => absurd (e1.symm.trans z) (by decide)) (fun _ => s_lies (br1 (fun _ => ?_) (fun z => absurd (e2.symm.trans z) (by decide)))))
  have ei : (104 : Int32) + nI w = nI (104 + w) := by rw [show (104 : Int32) = nI 104 from rfl, nI_add]
  have hin := vp_in_nI (n := 104 + w) (N := 6012) (by omega) (by decide)
  rw [ei, nI_clamp (by omega), hM.1.1 (104 + w) (by unfold dyn; omega)]
  refine ⟨hin, fun v10 e10 => ⟨hin, fun σ12 e12 => s_good ⟨e10.symm, ?_⟩⟩⟩
  subst e12
  have KE : ∀ p, ¬ p = 104 + w → upK K (104 + w) (nI v) p = K p := fun p hp => upK_ne hp
  have ax : AgX (fun o p => o = 207 ∧ p = w) (fun _ => False) x (sI x 207 w (nI v)) := AgX.put ⟨rfl, rfl⟩
  have eA : nA (upK K (104 + w) (nI v)) = nA K := nA_cg (KE 399 (by omega))
  have eR : nR (upK K (104 + w) (nI v)) = nR K := nR_cg (KE 400 (by omega))
  obtain ⟨g, hg1, hg2⟩ := hB.2.2.2.2.2.2.2.2.2.2
  have hp := pts_of hX.1.1 hI
  refine INB.gch (K' := upK K (104 + w) (nI v)) (P := fun o p => o = 4 ∧ p = 104 + w) hM hB hn (by omega) (by omega) (Ag.put ⟨rfl, rfl⟩) (by omega) (hM.1.1.up _ _) ax (by omega) (fun _ z => z.elim) (hp.ch ax (by omega) KE (by omega) (Or.inr ⟨by omega, by omega, by omega⟩) (Or.inr ⟨by omega, by omega⟩) (Or.inr ⟨by omega, by omega, by omega, by omega⟩) (Or.inl ?_) (Or.inr ⟨by omega, by omega⟩) (Or.inr ⟨by omega, by omega, by omega⟩) (Or.inr ⟨by omega, by omega, by unfold rgT; omega⟩)) (hX.1.2.1.ke hI ax (by omega) (by omega) (by omega) KE (by omega) (by omega) (by have := hI.a; omega) (by have := hI.r; omega) (by unfold rgT; omega)) ⟨g, by omega, by rw [ax.i 50 5 (by omega)]; exact hg2⟩
  intro u hu
  by_cases c : u = w
  · subst c
    rw [upK_eq, gI_same]
    exact ⟨⟨v, by omega, hv, rfl⟩, rfl⟩
  · rw [KE _ (by omega), ax.i _ _ (by omega)]
    exact hp.2.2.2.1 u hu
theorem p_reader {a1 a2 : Int32} (h : INV T m x n) (hn : n < 2 ^ 20) : w_Face_reader T x a1 a2 (fun r x' => w_M_reader m a1 a2 (fun r' m' => r = r' ∧ INV T m' x' (n + 1))) := by
  obtain ⟨K, L, d, hM, hB, -⟩ := h.b
  have hX := hB.1
  have hI := hX.1.2.2
  have hr4 := hI.r
  have ha8 := hI.a
  have out : (inB a1 1 99 = false ∨ inB a2 0 5 = false) → w_Face_reader_j21 T (fun r x' => w_M_reader m a1 a2 (fun r' m' => r = r' ∧ INV T m' x' (n + 1))) x := by
    intro e
    unfold w_Face_reader_j21
    refine rff hM hB (Or.inl rfl) (w_M_reader m a1 a2) (fun post hp => ?_)
    unfold w_M_reader w_M_reader_j17
    refine s_lies (br0 (fun _ => hp) (fun e1 => s_isClass (br1 (fun e2 => ?_) (fun _ => hp))))
    rw [e1, e2] at e
    rcases e with z | z <;> exact absurd z (by decide)
  unfold w_Face_reader
  refine ⟨fun q => out (Or.inl (inB_f (by grind))), fun q => ⟨fun q2 => out (Or.inl (inB_f (by grind))), fun q2 => ⟨fun q3 => out (Or.inr (inB_f (by grind))), fun q3 => ⟨fun q4 => ?_, fun q4 => out (Or.inr (inB_f (by grind)))⟩⟩⟩⟩
  have e1 : inB a1 1 99 = true := inB_t (by grind)
  have e2 : inB a2 0 5 = true := inB_t (by grind)
  obtain ⟨v, hv1, hv, ev⟩ := inB_o (hi := 99) e1 (by decide)
  obtain ⟨c, hc, ec⟩ := inB_z (hi := 5) e2 (by decide)
  subst ec; subst ev
  rw [hX.1.1.nr, hr4.1, show (4 : Int32) = nI 4 from rfl, nI_ltI (by omega) (by decide)]
  refine ⟨fun q5 => ?_, fun q5 => ?_⟩
  · intro v8 e8
    subst e8
    have hin4 := vp_in_nI (n := nR K) (N := 4) (by omega) (by decide)
    rw [nI_clamp (by omega)]
    refine ⟨hin4, fun σ10 e10 => ⟨hin4, fun σ13 e13 σ16 e16 => ?_⟩⟩
    refine s_granted ?_
    unfold w_M_reader
    refine s_lies (br0 (fun z => absurd (e1.symm.trans z) (by decide)) (fun _ => s_isClass (br1 (fun _ => ?_) (fun z => absurd (e2.symm.trans z) (by decide)))))
    intro v9 e9
    rw [hM.1.1 400 (by unfold dyn; omega), hr4.1] at e9
    subst e9
    have ei : (96 : Int32) + (2 * nI (nR K)) = nI (96 + 2 * nR K) := by rw [show (96 : Int32) = nI 96 from rfl, show (2 : Int32) = nI 2 from rfl, pk_mul, nI_add]
    rw [ei, nI_1, nI_clamp (by omega), nI_clamp (by omega)]
    refine ⟨fun _ => ⟨vp_in_nI (by omega) (by decide), fun σ12 e12 => ⟨vp_in_nI (by omega) (by decide), fun σ15 e15 σ18 e18 => s_good ⟨rfl, ?_⟩⟩⟩, fun z => absurd (show nR K = 4 from (nI_eq (by omega) (by decide)).1 z) (by omega)⟩
    subst e10; subst e13; subst e12; subst e15
    have e400 : gI (sI (sI m 4 (96 + 2 * nR K) (nI v)) 4 (96 + 2 * nR K + 1) (nI c)) 4 400 + 1 = nI (nR K + 1) := by
      rw [gI_sI, if_neg (by omega), gI_sI, if_neg (by omega), hM.1.1 400 (by unfold dyn; omega), hr4.1, nI_1]
    rw [e400] at e18
    subst e18
    have e203 : gI (sI (sI x 205 (nR K) (nI v)) 206 (nR K) (nI c)) 200 3 + 1 = nI (nR K + 1) := by
      rw [gI_sI, if_neg (by omega), gI_sI, if_neg (by omega), hX.1.1.nr, hr4.1, nI_1]
    rw [e203] at e16
    subst e16
    have KE : ∀ p, ¬ (p = 96 + 2 * nR K ∨ p = 96 + 2 * nR K + 1 ∨ p = 400) → upK (upK (upK K (96 + 2 * nR K) (nI v)) (96 + 2 * nR K + 1) (nI c)) 400 (nI (nR K + 1)) p = K p := fun p hp => by
      rw [upK_ne (by omega), upK_ne (by omega), upK_ne (by omega)]
    have ax : AgX (fun o p => (o = 205 ∧ p = nR K) ∨ (o = 206 ∧ p = nR K) ∨ (o = 200 ∧ p = 3)) (fun _ => False) x (sI (sI (sI x 205 (nR K) (nI v)) 206 (nR K) (nI c)) 200 3 (nI (nR K + 1))) := ((AgX.put (by omega)).set (by omega)).set (by omega)
    have eA : nA (upK (upK (upK K (96 + 2 * nR K) (nI v)) (96 + 2 * nR K + 1) (nI c)) 400 (nI (nR K + 1))) = nA K := nA_cg (KE 399 (by omega))
    have eR : nR (upK (upK (upK K (96 + 2 * nR K) (nI v)) (96 + 2 * nR K + 1) (nI c)) 400 (nI (nR K + 1))) = nR K + 1 := nR_of (upK_eq _ _ _) (by omega)
    obtain ⟨g, hg1, hg2⟩ := hB.2.2.2.2.2.2.2.2.2.2
    have hp := pts_of hX.1.1 hI
    refine INB.gch (P := fun o p => o = 4 ∧ (p = 96 + 2 * nR K ∨ p = 96 + 2 * nR K + 1 ∨ p = 400)) hM hB hn (by omega) (by omega) (((Ag.put (by omega)).set (by omega)).set (by omega)) (by omega) (((hM.1.1.up _ _).up _ _).up _ _) ax (by omega) (fun _ z => z.elim) (hp.ch ax (by omega) KE (by omega) (Or.inr ⟨by omega, by omega, by omega⟩) (Or.inr ⟨by omega, by omega⟩) (Or.inl ?_) (Or.inr ⟨by omega, by omega⟩) (Or.inr ⟨by omega, by omega⟩) (Or.inr ⟨by omega, by omega, by omega⟩) (Or.inr ⟨by omega, by omega, by unfold rgT; omega⟩)) (hX.1.2.1.ke hI ax (by omega) (by omega) (by omega) KE (by omega) (by omega) (by omega) (by omega) (by unfold rgT; omega)) ⟨g, by omega, by rw [ax.i 50 5 (by omega)]; exact hg2⟩
    refine ⟨?_, ?_, ?_, ?_⟩
    · rw [upK_eq, gI_same]
    · rw [eR, upK_eq]; exact ⟨rfl, by omega⟩
    · intro r hr
      rw [eR] at hr
      by_cases c2 : r = nR K
      · subst c2
        rw [upK_ne (by omega), upK_ne (by omega), upK_eq, upK_ne (by omega), upK_eq]
        exact ⟨⟨v, hv1, hv, rfl⟩, ⟨c, by omega, hc, rfl⟩⟩
      · rw [KE _ (by omega), KE _ (by omega)]
        exact hI.rd (by omega)
    · intro r hr
      rw [eR] at hr
      by_cases c2 : r = nR K
      · subst c2
        rw [upK_ne (by omega), upK_ne (by omega), upK_eq, upK_ne (by omega), upK_eq]
        refine ⟨?_, ?_⟩
        · rw [gI_sI, if_neg (by omega), gI_sI, if_neg (by omega), gI_same]
        · rw [gI_sI, if_neg (by omega), gI_same]
      · rw [KE _ (by omega), KE _ (by omega), ax.i _ _ (by omega), ax.i _ _ (by omega)]
        exact hp.2.2.1.2.2.2 r (by omega)
  · refine rff hM hB (Or.inr (Or.inr (Or.inr (Or.inl rfl)))) (w_M_reader m (nI v) (nI c)) (fun post hp => ?_)
    unfold w_M_reader
    refine s_lies (br0 (fun z => absurd (e1.symm.trans z) (by decide)) (fun _ => s_isClass (br1 (fun _ => ?_) (fun z => absurd (e2.symm.trans z) (by decide)))))
    intro v9 e9
    rw [hM.1.1 400 (by unfold dyn; omega), hr4.1] at e9
    subst e9
    have : nR K = 4 := by omega
    exact ⟨fun z => absurd (by rw [this]; rfl) z, fun _ => hp⟩
end CL
