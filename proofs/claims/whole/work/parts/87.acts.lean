/-! ===== both told: an act more; what is put ===== -/
def adK (K : Nat → Int32) (v0 v1 v2 v3 : Int32) : Nat → Int32 := upK (upK (upK (upK (upK K (4 * nA K) v0) (4 * nA K + 1) v1) (4 * nA K + 2) v2) (4 * nA K + 3) v3) 399 (nI (nA K + 1))
def adM (m : DD) (N : Nat) (v0 v1 v2 v3 : Int32) : DD := sI (sI (sI (sI (sI m 4 (4 * N) v0) 4 (4 * N + 1) v1) 4 (4 * N + 2) v2) 4 (4 * N + 3) v3) 4 399 (nI (N + 1))
def adX (x : DD) (N : Nat) (v0 v1 v2 v3 : Int32) : DD := sI (sI (sI (sI (sI x 202 (4 * N) v0) 202 (4 * N + 1) v1) 202 (4 * N + 2) v2) 202 (4 * N + 3) v3) 200 0 (nI (N + 1))
def adP (N o p : Nat) : Prop := o = 4 ∧ ((4 * N ≤ p ∧ p < 4 * N + 4) ∨ p = 399)
def adQ (N o p : Nat) : Prop := (o = 202 ∧ 4 * N ≤ p ∧ p < 4 * N + 4) ∨ (o = 200 ∧ p = 0)
section CA
variable {m x m' x' : DD} {T : TXT} {n : Nat} {K : Nat → Int32} {L : List RD}
theorem adK_ne {v0 v1 v2 v3 : Int32} {p : Nat} (h : ¬ ((4 * nA K ≤ p ∧ p < 4 * nA K + 4) ∨ p = 399)) : adK K v0 v1 v2 v3 p = K p := by
  unfold adK
  rw [upK_ne (by omega), upK_ne (by omega), upK_ne (by omega), upK_ne (by omega), upK_ne (by omega)]
theorem adK_nA {v0 v1 v2 v3 : Int32} (h : nA K < 8) : nA (adK K v0 v1 v2 v3) = nA K + 1 := nA_of (upK_eq _ _ _) (by omega)
theorem s_adds {v0 v1 v2 v3 : Int32} {post : DD → Prop} (h : gI m 4 399 = nI (nA K)) (h8 : nA K < 8) (k : post (adM m (nA K) v0 v1 v2 v3)) : w_M_adds m v0 v1 v2 v3 post := by
  unfold w_M_adds
  intro w1 e1
  rw [h, show (4 : Int32) = nI 4 from rfl, pk_mul, show (0 : Int32) = nI 0 from rfl, nI_add, Nat.zero_add] at e1
  subst e1
  rw [show nI (4 * nA K) + 0 = nI (4 * nA K) from nI_add _ 0, nI_1, show nI (4 * nA K) + 2 = nI (4 * nA K + 2) from nI_add _ 2, show nI (4 * nA K) + 3 = nI (4 * nA K + 3) from nI_add _ 3, nI_clamp (by omega), nI_clamp (by omega), nI_clamp (by omega), nI_clamp (by omega)]
  refine ⟨vp_in_nI (by omega) (by decide), fun σ3 e3 => ⟨vp_in_nI (by omega) (by decide), fun σ6 e6 => ⟨vp_in_nI (by omega) (by decide), fun σ9 e9 => ⟨vp_in_nI (by omega) (by decide), fun σ12 e12 σ15 e15 => ?_⟩⟩⟩⟩
  subst e3; subst e6; subst e9; subst e12
  have e : gI (sI (sI (sI (sI m 4 (4 * nA K) v0) 4 (4 * nA K + 1) v1) 4 (4 * nA K + 2) v2) 4 (4 * nA K + 3) v3) 4 399 + 1 = nI (nA K + 1) := by
    rw [gI_sI, if_neg (by omega), gI_sI, if_neg (by omega), gI_sI, if_neg (by omega), gI_sI, if_neg (by omega), h, nI_1]
  rw [e] at e15
  subst e15
  exact k
theorem s_addAct {v0 v1 v2 v3 : Int32} {post : Int32 → DD → Prop} (h : gI x 200 0 = nI (nA K)) (h8 : nA K < 8) (k : post (nI (nA K)) (adX x (nA K) v0 v1 v2 v3)) : w_Real_addAct T x v0 v1 v2 v3 post := by
  unfold w_Real_addAct
  intro w1 e1
  rw [h] at e1
  subst e1
  rw [show (nI (nA K) * 4 : Int32) = nI (nA K * 4) from by rw [show (4 : Int32) = nI 4 from rfl, pk_mul], Nat.mul_comm, show nI (4 * nA K) + 0 = nI (4 * nA K) from nI_add _ 0, nI_1, show nI (4 * nA K) + 2 = nI (4 * nA K + 2) from nI_add _ 2, show nI (4 * nA K) + 3 = nI (4 * nA K + 3) from nI_add _ 3, nI_clamp (by omega), nI_clamp (by omega), nI_clamp (by omega), nI_clamp (by omega)]
  refine ⟨vp_in_nI (by omega) (by decide), fun σ3 e3 => ⟨vp_in_nI (by omega) (by decide), fun σ6 e6 => ⟨vp_in_nI (by omega) (by decide), fun σ9 e9 => ⟨vp_in_nI (by omega) (by decide), fun σ12 e12 σ15 e15 => ?_⟩⟩⟩⟩
  subst e3; subst e6; subst e9; subst e12
  have e : gI (sI (sI (sI (sI x 202 (4 * nA K) v0) 202 (4 * nA K + 1) v1) 202 (4 * nA K + 2) v2) 202 (4 * nA K + 3) v3) 200 0 + 1 = nI (nA K + 1) := by
    rw [gI_sI, if_neg (by omega), gI_sI, if_neg (by omega), gI_sI, if_neg (by omega), gI_sI, if_neg (by omega), h, nI_1]
  rw [e] at e15
  subst e15
  exact k
theorem adM_ag (m : DD) (N : Nat) (v0 v1 v2 v3 : Int32) : Ag (adP N) m (adM m N v0 v1 v2 v3) := ((((Ag.put (by unfold adP; omega)).set (by unfold adP; omega)).set (by unfold adP; omega)).set (by unfold adP; omega)).set (by unfold adP; omega)
theorem adX_ag (x : DD) (N : Nat) (v0 v1 v2 v3 : Int32) : AgX (adQ N) (fun _ => False) x (adX x N v0 v1 v2 v3) := ((((AgX.put (by unfold adQ; omega)).set (by unfold adQ; omega)).set (by unfold adQ; omega)).set (by unfold adQ; omega)).set (by unfold adQ; omega)
theorem adM_mk (h : MK m K) (v0 v1 v2 v3 : Int32) : MK (adM m (nA K) v0 v1 v2 v3) (adK K v0 v1 v2 v3) := ((((h.up _ _).up _ _).up _ _).up _ _).up _ _
/-- an act is well made -/
def actOK (K : Nat → Int32) (v0 v1 v2 v3 : Int32) : Prop := rng v0 1 60 ∧ rng v1 1 30 ∧ rng v2 1 63 ∧ (v3 = -1 ∨ ∃ m, m < nA K ∧ v3 = nI m)
theorem ad_pts {v0 v1 v2 v3 : Int32} (hp : PTS x 200 T K) (h8 : nA K < 8) (ok : actOK K v0 v1 v2 v3) : PTS (adX x (nA K) v0 v1 v2 v3) 200 T (adK K v0 v1 v2 v3) := by
  have ax := adX_ag x (nA K) v0 v1 v2 v3
  have KE : ∀ p, ¬ ((4 * nA K ≤ p ∧ p < 4 * nA K + 4) ∨ p = 399) → adK K v0 v1 v2 v3 p = K p := fun p hp => adK_ne hp
  have eA := adK_nA (v0 := v0) (v1 := v1) (v2 := v2) (v3 := v3) h8
  have k0 : adK K v0 v1 v2 v3 (4 * nA K) = v0 := by
    unfold adK; rw [upK_ne (by omega), upK_ne (by omega), upK_ne (by omega), upK_ne (by omega), upK_eq]
  have k1 : adK K v0 v1 v2 v3 (4 * nA K + 1) = v1 := by
    unfold adK; rw [upK_ne (by omega), upK_ne (by omega), upK_ne (by omega), upK_eq]
  have k2 : adK K v0 v1 v2 v3 (4 * nA K + 2) = v2 := by
    unfold adK; rw [upK_ne (by omega), upK_ne (by omega), upK_eq]
  have k3 : adK K v0 v1 v2 v3 (4 * nA K + 3) = v3 := by
    unfold adK; rw [upK_ne (by omega), upK_eq]
  refine hp.ch ax (by unfold adQ; omega) KE (by omega) (Or.inl ?_) (Or.inr ⟨by unfold adQ; omega, by omega⟩) (Or.inr ⟨by unfold adQ; omega, by unfold adQ; omega, by unfold adQ; omega, by omega⟩) (Or.inr ⟨by unfold adQ; omega, by omega⟩) (Or.inr ⟨by unfold adQ; omega, by omega⟩) (Or.inr ⟨by unfold adQ; omega, by unfold adQ; omega, by omega⟩) (Or.inr ⟨by unfold adQ; omega, by unfold adQ; omega, by unfold rgT; omega⟩)
  have e399 : adK K v0 v1 v2 v3 399 = nI (nA K + 1) := upK_eq _ _ _
  refine ⟨?_, ?_, ?_, ?_⟩
  · rw [e399]; unfold adX; rw [gI_same]
  · rw [eA, e399]; exact ⟨rfl, by omega⟩
  · intro a ha
    rw [eA] at ha ⊢
    by_cases c : a = nA K
    · subst c
      rw [k0, k1, k2, k3]
      obtain ⟨o1, o2, o3, o4⟩ := ok
      refine ⟨o1, o2, o3, ?_⟩
      rcases o4 with z | ⟨u, hu, eu⟩
      · exact Or.inl z
      · exact Or.inr ⟨u, by omega, eu⟩
    · rw [KE _ (by omega), KE _ (by omega), KE _ (by omega), KE _ (by omega)]
      obtain ⟨o1, o2, o3, o4⟩ := hp.1.2.2.1 a (by omega)
      refine ⟨o1, o2, o3, ?_⟩
      rcases o4 with z | ⟨u, hu, eu⟩
      · exact Or.inl z
      · exact Or.inr ⟨u, by omega, eu⟩
  · intro a j ha hj
    rw [eA] at ha
    by_cases c : a = nA K
    · subst c
      have hj4 : j = 0 ∨ j = 1 ∨ j = 2 ∨ j = 3 := by omega
      unfold adX
      rcases hj4 with z | z | z | z <;> subst z
      · rw [gI_sI, if_neg (by omega), gI_sI, if_neg (by omega), gI_sI, if_neg (by omega), gI_sI, if_neg (by omega), gI_sI, if_pos (by omega)]; exact k0.symm
      · rw [gI_sI, if_neg (by omega), gI_sI, if_neg (by omega), gI_sI, if_neg (by omega), gI_sI, if_pos (by omega)]; exact k1.symm
      · rw [gI_sI, if_neg (by omega), gI_sI, if_neg (by omega), gI_sI, if_pos (by omega)]; exact k2.symm
      · rw [gI_sI, if_neg (by omega), gI_sI, if_pos (by omega)]; exact k3.symm
    · rw [KE _ (by omega), ax.i _ _ (by unfold adQ; omega)]
      exact hp.1.2.2.2 a j (by omega) hj
theorem ad_cx {v0 v1 v2 v3 : Int32} (hc : CX x K) (hI : KI K) (h8 : nA K < 8) : CX (adX x (nA K) v0 v1 v2 v3) (adK K v0 v1 v2 v3) := by
  have eA := adK_nA (v0 := v0) (v1 := v1) (v2 := v2) (v3 := v3) h8
  have hr := hI.r
  have KE : ∀ p, ¬ ((4 * nA K ≤ p ∧ p < 4 * nA K + 4) ∨ p = 399) → adK K v0 v1 v2 v3 p = K p := fun p hp => adK_ne hp
  have eR : nR (adK K v0 v1 v2 v3) = nR K := nR_cg (KE 400 (by omega))
  exact hc.ke hI (adX_ag x (nA K) v0 v1 v2 v3) (by unfold adQ; omega) (by unfold adQ; omega) (by unfold adQ; omega) KE (by omega) (by omega) (by omega) (by omega) (by unfold rgT; omega)
theorem s_XcanBeAct {v0 v1 v2 : Int32} {post : Int32 → DD → Prop} (k : post (bl (isFt 0 v0 && isFt 1 v1 && isFt 2 v2)) x) : w_Real_canBeAct T x v0 v1 v2 post := by
  unfold w_Real_canBeAct
  refine s_XcanBeTrait (br0 (fun e => ?_) (fun e => s_XcanBeTrait (br0 (fun e2 => ?_) (fun e2 => s_XcanBeTrait (br0 (fun e3 => ?_) (fun e3 => ?_))))))
  · rw [e] at k; exact k
  · rw [e, e2] at k; exact k
  · rw [e, e2, e3] at k; exact k
  · rw [e, e2, e3] at k; exact k
theorem ft_rng {v0 v1 v2 : Int32} (h : (isFt 0 v0 && isFt 1 v1 && isFt 2 v2) = true) : rng v0 1 60 ∧ rng v1 1 30 ∧ rng v2 1 63 := by
  rw [Bool.and_eq_true, Bool.and_eq_true] at h
  obtain ⟨a, ha1, ha2, ea⟩ := inB_o (hi := 60) h.1.1 (by decide)
  obtain ⟨b, hb1, hb2, eb⟩ := inB_o (hi := 30) h.1.2 (by decide)
  obtain ⟨c, hc1, hc2, ec⟩ := inB_o (hi := 63) h.2 (by decide)
  exact ⟨⟨a, ha1, ha2, ea⟩, ⟨b, hb1, hb2, eb⟩, ⟨c, hc1, hc2, ec⟩⟩
theorem p_act {a1 a2 a3 : Int32} (h : INV T m x n) (hn : n < 2 ^ 20) : w_Face_act T x a1 a2 a3 (fun r x' => w_M_act m a1 a2 a3 (fun r' m' => r = r' ∧ INV T m' x' (n + 1))) := by
  obtain ⟨K, L, d, hM, hB, -⟩ := h.b
  have hX := hB.1
  have hI := hX.1.2.2
  have ha8 := hI.a
  have md : ∀ post : Int32 → DD → Prop, ((isFt 0 a1 && isFt 1 a2 && isFt 2 a3) = true → (nA K < 8 → w_M_adds m a1 a2 a3 (-1) (fun σ14 => w_M_good σ14 ((gI σ14 4 399) - 1) (fun r15 σ16 => post r15 σ16))) ∧ (¬ nA K < 8 → w_M_refuses m (-5) post)) → ((isFt 0 a1 && isFt 1 a2 && isFt 2 a3) = false → w_M_refuses m (-1) post) → w_M_act m a1 a2 a3 post := by
    intro post k1 k0
    unfold w_M_act w_M_act_j24
    refine s_isFact (br0 (fun e => ?_) (fun e => s_isFact (br0 (fun e2 => ?_) (fun e2 => s_isFact (br1 (fun e3 => ?_) (fun e3 => ?_))))))
    · exact k0 (by rw [e]; rfl)
    · exact k0 (by rw [e, e2]; rfl)
    · have kk := k1 (by rw [e, e2, e3]; rfl)
      rw [hM.1.1 399 (by unfold dyn; omega), ha8.1, show (8 : Int32) = nI 8 from rfl, nI_eq (by omega) (by decide)]
      exact ⟨fun z => kk.1 (by omega), fun z => kk.2 (by omega)⟩
    · exact k0 (by rw [e, e2, e3]; rfl)
  unfold w_Face_act
  refine s_XcanBeAct (br1 (fun e => ?_) (fun e => ?_))
  · rw [hX.1.1.na, ha8.1, show (8 : Int32) = nI 8 from rfl, nI_ltI (by omega) (by decide)]
    refine ⟨fun q => ?_, fun q => ?_⟩
    · refine s_addAct (hX.1.1.na.trans ha8.1) q (s_granted (md _ (fun _ => ⟨fun _ => ?_, fun z => absurd q z⟩) (fun z => absurd (e.symm.trans z) (by decide))))
      refine s_adds ((hM.1.1 399 (by unfold dyn; omega)).trans ha8.1) q (s_good ⟨?_, ?_⟩)
      · unfold adM; rw [gI_same, nI_pred]
      · obtain ⟨g, hg1, hg2⟩ := hB.2.2.2.2.2.2.2.2.2.2
        have ax := adX_ag x (nA K) a1 a2 a3 (-1)
        have eA := adK_nA (v0 := a1) (v1 := a2) (v2 := a3) (v3 := -1) q
        have eR : nR (adK K a1 a2 a3 (-1)) = nR K := nR_cg (adK_ne (by omega))
        refine INB.gch hM hB hn (by omega) (by omega) (adM_ag m (nA K) a1 a2 a3 (-1)) (by unfold adP; omega) (adM_mk hM.1.1 _ _ _ _) ax (by unfold adQ; omega) (fun _ z => z.elim) (ad_pts (pts_of hX.1.1 hI) q ?_) (ad_cx hX.1.2.1 hI q) ⟨g, by omega, by rw [ax.i 50 5 (by unfold adQ; omega)]; exact hg2⟩
        obtain ⟨r1, r2, r3⟩ := ft_rng e
        exact ⟨r1, r2, r3, Or.inl rfl⟩
    · exact rff hM hB (Or.inr (Or.inr (Or.inr (Or.inl rfl)))) (w_M_act m a1 a2 a3) (fun post hp => md post (fun _ => ⟨fun z => absurd z q, fun _ => hp⟩) (fun z => absurd (e.symm.trans z) (by decide)))
  · exact rff hM hB (Or.inl rfl) (w_M_act m a1 a2 a3) (fun post hp => md post (fun z => absurd (e.symm.trans z) (by decide)) (fun _ => hp))
end CA
