/-! ===== both told: what is put, what gainsays, terms, what is in force, fines ===== -/
section CP
variable {m x m' x' : DD} {T : TXT} {n : Nat} {K : Nat → Int32} {L : List RD}
theorem s_forget {post : DD → Prop} (k : post (sI x 50 5 (gI x 50 5 + 1))) : w_Court_forget T x post := by
  unfold w_Court_forget
  intro σ1 e1
  subst e1
  exact k
def putB (a1 a2 a3 : Int32) : Bool := if a2 = 3 then decide (-1 ≤ a3 ∧ ¬ a3 = a1) else isFt a2 a3
theorem isFt_3 (v : Int32) : isFt 3 v = false := by
  unfold isFt
  rw [if_neg (by decide), if_neg (by decide), if_neg (by decide)]
theorem put_pts {a j : Nat} {v : Int32} (hp : PTS x 200 T K) (ha : a < nA K) (hj : j < 4) (ok : (j = 0 → rng v 1 60) ∧ (j = 1 → rng v 1 30) ∧ (j = 2 → rng v 1 63) ∧ (j = 3 → (v = -1 ∨ ∃ u, u < nA K ∧ v = nI u))) : PTS (sI (sI x 202 (4 * a + j) v) 50 5 (gI (sI x 202 (4 * a + j) v) 50 5 + 1)) 200 T (upK K (4 * a + j) v) := by
  have ax : AgX (fun o p => (o = 202 ∧ p = 4 * a + j) ∨ (o = 50 ∧ p = 5)) (fun _ => False) x (sI (sI x 202 (4 * a + j) v) 50 5 (gI (sI x 202 (4 * a + j) v) 50 5 + 1)) := (AgX.put (by omega)).set (by omega)
  have KE : ∀ p, ¬ p = 4 * a + j → upK K (4 * a + j) v p = K p := fun p hp => upK_ne hp
  have h8 := hp.1.2.1.2
  have eA : nA (upK K (4 * a + j) v) = nA K := nA_cg (KE 399 (by omega))
  refine hp.ch ax (by omega) KE (by omega) (Or.inl ?_) (Or.inr ⟨by omega, by omega⟩) (Or.inr ⟨by omega, by omega, by omega, by omega⟩) (Or.inr ⟨by omega, by omega⟩) (Or.inr ⟨by omega, by omega⟩) (Or.inr ⟨by omega, by omega, by omega⟩) (Or.inr ⟨by omega, by omega, by unfold rgT; omega⟩)
  refine ⟨?_, ?_, ?_, ?_⟩
  · rw [KE _ (by omega), ax.i _ _ (by omega)]; exact hp.1.1
  · rw [eA, KE _ (by omega)]; exact hp.1.2.1
  · intro b hb
    rw [eA] at hb ⊢
    have ob := hp.1.2.2.1 b hb
    by_cases c : b = a
    · subst c
      have hj4 : j = 0 ∨ j = 1 ∨ j = 2 ∨ j = 3 := by omega
      rcases hj4 with z | z | z | z <;> subst z
      · rw [show upK K (4 * b + 0) v (4 * b) = v from upK_eq _ _ _, KE _ (by omega), KE _ (by omega), KE _ (by omega)]
        exact ⟨ok.1 rfl, ob.2⟩
      · rw [upK_eq, KE _ (by omega), KE _ (by omega), KE _ (by omega)]
        exact ⟨ob.1, ok.2.1 rfl, ob.2.2⟩
      · rw [upK_eq, KE _ (by omega), KE _ (by omega), KE _ (by omega)]
        exact ⟨ob.1, ob.2.1, ok.2.2.1 rfl, ob.2.2.2⟩
      · rw [upK_eq, KE _ (by omega), KE _ (by omega), KE _ (by omega)]
        exact ⟨ob.1, ob.2.1, ob.2.2.1, ok.2.2.2 rfl⟩
    · rw [KE _ (by omega), KE _ (by omega), KE _ (by omega), KE _ (by omega)]
      exact ob
  · intro b i hb hi
    rw [eA] at hb
    by_cases c : 4 * b + i = 4 * a + j
    · rw [c, upK_eq, gI_sI, if_neg (by omega), gI_same]
    · rw [KE _ c, ax.i _ _ (by omega)]
      exact hp.1.2.2.2 b i hb hi
theorem p_put {a1 a2 a3 : Int32} (h : INV T m x n) (hn : n < 2 ^ 20) : w_Face_put T x a1 a2 a3 (fun r x' => w_M_put m a1 a2 a3 (fun r' m' => r = r' ∧ INV T m' x' (n + 1))) := by
  obtain ⟨K, L, d, hM, hB, -⟩ := h.b
  have hX := hB.1
  have hI := hX.1.2.2
  have ha8 := hI.a
  have hr4 := hI.r
  obtain ⟨g, hg1, hg2⟩ := hB.2.2.2.2.2.2.2.2.2.2
  have md : ∀ post : Int32 → DD → Prop, (putB a1 a2 a3 = true → w_M_put_j29 post m a1 a2 a3) → (putB a1 a2 a3 = false → w_M_refuses m (-1) post) → w_M_put m a1 a2 a3 post := by
    intro post k1 k0
    unfold w_M_put w_M_put_j23
    refine s_isFact (br1 (fun e => k1 ?_) (fun e => ⟨fun q => k0 ?_, fun q => ⟨fun q2 => k0 ?_, fun q2 => ⟨fun q3 => k1 ?_, fun q3 => k0 ?_⟩⟩⟩))
    · unfold putB
      by_cases c : a2 = 3
      · rw [c, isFt_3] at e; exact absurd e (by decide)
      · rw [if_neg c]; exact e
    · unfold putB; rw [if_neg q]; exact e
    · unfold putB; rw [if_pos q]; exact decide_eq_false (by grind)
    · unfold putB; rw [if_pos q]; exact decide_eq_true (by grind)
    · unfold putB; rw [if_pos q]; exact decide_eq_false (by grind)
  have mo : ∀ post : Int32 → DD → Prop, (actB K a1 = false ∨ (a2 = 3 ∧ ¬ a3 = -1 ∧ actB K a3 = false)) → w_M_refuses m (-2) post → w_M_put_j29 post m a1 a2 a3 := by
    intro post c k
    unfold w_M_put_j29 w_M_put_j55
    refine s_isAct hM.1.1 hM.2.1 (br0 (fun _ => k) (fun e => ?_))
    rcases c with c | ⟨c1, c2, c3⟩
    · exact absurd (e.symm.trans c) (by decide)
    · refine ⟨fun z => absurd c1 z, fun _ => ⟨fun z => absurd z c2, fun _ => s_isAct hM.1.1 hM.2.1 (br1 (fun e2 => absurd (e2.symm.trans c3) (by decide)) (fun _ => k))⟩⟩
  have mi : ∀ post : Int32 → DD → Prop, actB K a1 = true → (a2 = 3 → ¬ a3 = -1 → actB K a3 = true) → w_M_put_j62 post m a1 a2 a3 → w_M_put_j29 post m a1 a2 a3 := by
    intro post c1 c2 k
    unfold w_M_put_j29
    refine s_isAct hM.1.1 hM.2.1 (br0 (fun e => absurd (c1.symm.trans e) (by decide)) (fun e => ⟨fun _ => k, fun q => ⟨fun _ => k, fun q2 => s_isAct hM.1.1 hM.2.1 (br1 (fun _ => k) (fun e2 => absurd ((c2 q q2).symm.trans e2) (by decide)))⟩⟩))
  have fin : putB a1 a2 a3 = true → actB K a1 = true → (a2 = 3 → ¬ a3 = -1 → actB K a3 = true) → w_Face_put_j82 T (fun r x' => w_M_put m a1 a2 a3 (fun r' m' => r = r' ∧ INV T m' x' (n + 1))) x a1 a2 a3 := by
    intro c0 c1 c2
    obtain ⟨a, ha, ea⟩ := actB_e hI c1
    have hj : ∃ j, j < 4 ∧ a2 = nI j ∧ ((j = 0 → rng a3 1 60) ∧ (j = 1 → rng a3 1 30) ∧ (j = 2 → rng a3 1 63) ∧ (j = 3 → (a3 = -1 ∨ ∃ u, u < nA K ∧ a3 = nI u))) := by
      unfold putB at c0
      by_cases z : a2 = 3
      · refine ⟨3, by omega, z, fun q => absurd q (by decide), fun q => absurd q (by decide), fun q => absurd q (by decide), fun _ => ?_⟩
        by_cases z2 : a3 = -1
        · exact Or.inl z2
        · exact Or.inr (actB_e hI (c2 z z2))
      · rw [if_neg z] at c0
        unfold isFt at c0
        by_cases z0 : a2 = 0
        · rw [if_pos z0] at c0
          refine ⟨0, by omega, z0, fun _ => inB_o (hi := 60) c0 (by decide), fun q => absurd q (by decide), fun q => absurd q (by decide), fun q => absurd q (by decide)⟩
        · rw [if_neg z0] at c0
          by_cases z1 : a2 = 1
          · rw [if_pos z1] at c0
            refine ⟨1, by omega, z1, fun q => absurd q (by decide), fun _ => inB_o (hi := 30) c0 (by decide), fun q => absurd q (by decide), fun q => absurd q (by decide)⟩
          · rw [if_neg z1] at c0
            by_cases z2 : a2 = 2
            · rw [if_pos z2] at c0
              refine ⟨2, by omega, z2, fun q => absurd q (by decide), fun q => absurd q (by decide), fun _ => inB_o (hi := 63) c0 (by decide), fun q => absurd q (by decide)⟩
            · rw [if_neg z2] at c0; exact absurd c0 (by decide)
    obtain ⟨j, hj4, ej, ok⟩ := hj
    subst ea; subst ej
    unfold w_Face_put_j82
    refine s_trait j rfl hX.1.1 hI ha hj4 ?_
    have ei : (nI a * 4) + nI j = nI (4 * a + j) := by rw [show (4 : Int32) = nI 4 from rfl, pk_mul, nI_add, Nat.mul_comm]
    rw [ei, nI_clamp (by omega)]
    refine ⟨vp_in_nI (by omega) (by decide), fun σ5 e5 => ?_⟩
    subst e5
    refine s_forget (s_granted (md _ (fun _ => mi _ c1 c2 ?_) (fun z => absurd (c0.symm.trans z) (by decide))))
    unfold w_M_put_j62
    refine s_fact j rfl (by omega) hj4 ?_
    have ei2 : (0 + (4 * nI a)) + nI j = nI (4 * a + j) := by rw [show (4 : Int32) = nI 4 from rfl, pk_mul, show (0 : Int32) = nI 0 from rfl, nI_add, nI_add, Nat.zero_add]
    rw [ei2, nI_clamp (by omega), hM.1.1 (4 * a + j) (dyn_lt (by omega))]
    refine ⟨vp_in_nI (by omega) (by decide), fun σ7 e7 => s_good ⟨rfl, ?_⟩⟩
    subst e7
    have ax : AgX (fun o p => (o = 202 ∧ p = 4 * a + j) ∨ (o = 50 ∧ p = 5)) (fun _ => False) x (sI (sI x 202 (4 * a + j) a3) 50 5 (gI (sI x 202 (4 * a + j) a3) 50 5 + 1)) := (AgX.put (by omega)).set (by omega)
    have KE : ∀ p, ¬ p = 4 * a + j → upK K (4 * a + j) a3 p = K p := fun p hp => upK_ne hp
    have eA : nA (upK K (4 * a + j) a3) = nA K := nA_cg (KE 399 (by omega))
    have eR : nR (upK K (4 * a + j) a3) = nR K := nR_cg (KE 400 (by omega))
    have e5 : gI (sI (sI x 202 (4 * a + j) a3) 50 5 (gI (sI x 202 (4 * a + j) a3) 50 5 + 1)) 50 5 = gI x 50 5 + 1 := by
      rw [gI_same, gI_sI, if_neg (by omega)]
    refine INB.gch (P := fun o p => o = 4 ∧ p = 4 * a + j) hM hB hn (by omega) (by omega) (Ag.put (by omega)) (by omega) (hM.1.1.up _ _) ax (by omega) (fun _ z => z.elim) (put_pts (pts_of hX.1.1 hI) ha hj4 ok) (hX.1.2.1.fg hg2 (by omega) e5 (fun k => ax.i _ _ (by omega))) ⟨g + 1, by omega, ?_⟩
    rw [e5, hg2, nI_1]
  have r1 : putB a1 a2 a3 = false → w_Face_refused T x (-1) (fun r x' => w_M_put m a1 a2 a3 (fun r' m' => r = r' ∧ INV T m' x' (n + 1))) := fun e => rff hM hB (Or.inl rfl) (w_M_put m a1 a2 a3) (fun post hp => md post (fun z => absurd (e.symm.trans z) (by decide)) (fun _ => hp))
  have r2 : putB a1 a2 a3 = true → (actB K a1 = false ∨ (a2 = 3 ∧ ¬ a3 = -1 ∧ actB K a3 = false)) → w_Face_put_j75 T (fun r x' => w_M_put m a1 a2 a3 (fun r' m' => r = r' ∧ INV T m' x' (n + 1))) x := fun e c => rff hM hB (Or.inr (Or.inl rfl)) (w_M_put m a1 a2 a3) (fun post hp => md post (fun _ => mo post c hp) (fun z => absurd (e.symm.trans z) (by decide)))
  have j18 : w_Face_put_j18 T (fun r x' => w_M_put m a1 a2 a3 (fun r' m' => r = r' ∧ INV T m' x' (n + 1))) x a1 a2 a3 (bl (putB a1 a2 a3)) := by
    unfold w_Face_put_j18 w_Face_put_j45
    have j46 : putB a1 a2 a3 = true → ∀ z : Bool, (z = true ↔ a2 = 3 ∧ ¬ a3 = -1) → w_Face_put_j46 T (fun r x' => w_M_put m a1 a2 a3 (fun r' m' => r = r' ∧ INV T m' x' (n + 1))) x a1 a2 a3 (bl z) := by
      intro c0 z hz
      unfold w_Face_put_j46
      refine s_XisAct hX.1.1 hI (br0 (fun e => r2 c0 (Or.inl e)) (fun e => br0 (fun ez => fin c0 e (fun q1 q2 => ?_)) (fun ez => ?_)))
      · exact absurd (ez.symm.trans (hz.2 ⟨q1, q2⟩)) (by decide)
      · have := hz.1 ez
        exact s_XisAct hX.1.1 hI (br1 (fun e2 => fin c0 e (fun _ _ => e2)) (fun e2 => r2 c0 (Or.inr ⟨this.1, this.2, e2⟩)))
    refine br1 (fun e => ⟨fun q => ?_, fun q => ⟨fun q2 => ?_, fun q2 => ?_⟩⟩) (fun e => r1 e)
    · exact j46 e false ⟨fun z => absurd z (by decide), fun z => absurd z.1 q⟩
    · exact j46 e false ⟨fun z => absurd z (by decide), fun z => absurd q2 z.2⟩
    · exact j46 e true ⟨fun _ => ⟨q, q2⟩, fun _ => rfl⟩
  unfold w_Face_put
  refine ⟨fun q => s_XcanBeTrait ?_, fun q => ?_⟩
  · have e : isFt a2 a3 = putB a1 a2 a3 := by unfold putB; rw [if_neg q]
    rw [e]; exact j18
  · have e : putB a1 a2 a3 = decide (-1 ≤ a3 ∧ ¬ a3 = a1) := by unfold putB; rw [if_pos q]
    unfold w_Real_canBeNeed
    refine ⟨fun q2 => ?_, fun q2 => ⟨fun q3 => ?_, fun q3 => ?_⟩⟩
    · rw [decide_eq_false (by grind)] at e; rw [e] at j18; exact j18
    · rw [decide_eq_false (by grind)] at e; rw [e] at j18; exact j18
    · rw [decide_eq_true (by grind)] at e; rw [e] at j18; exact j18
end CP
