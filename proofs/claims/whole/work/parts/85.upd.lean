/-! ===== a change of the realm ===== -/
def upK (K : Nat → Int32) (p : Nat) (v : Int32) : Nat → Int32 := fun q => if q = p then v else K q
def rgT (p : Nat) : Prop := (405 ≤ p ∧ p < 411) ∨ (412 ≤ p ∧ p < 2812) ∨ (3212 ≤ p ∧ p < 5612)
section UP
variable {m x m' x' : DD} {T : TXT} {n G : Nat} {K K' : Nat → Int32} {L : List RD} {d : Nat} {P P2 : Nat → Nat → Prop} {Q : Nat → Prop} {S : Nat → Prop}
theorem upK_eq (K : Nat → Int32) (p : Nat) (v : Int32) : upK K p v p = v := by unfold upK; rw [if_pos rfl]
theorem upK_ne {p q : Nat} {v : Int32} (h : ¬ q = p) : upK K p v q = K q := by unfold upK; rw [if_neg h]
theorem MK.up (h : MK m K) (p : Nat) (v : Int32) : MK (sI m 4 p v) (upK K p v) := by
  intro q hq
  rw [gI_sI]
  unfold upK
  by_cases c : q = p
  · rw [if_pos ⟨rfl, c⟩, if_pos c]
  · rw [if_neg (fun z => c z.2), if_neg c]; exact h q hq
theorem MLg.fr (h : MLg m L) (hh : ∀ p, (111 ≤ p ∧ p < 363) ∨ p = 401 → gI m' 4 p = gI m 4 p) : MLg m' L := by
  have h84 := h.2.1
  refine ⟨(hh 401 (by omega)).trans h.1, h84, fun i y hy => ?_⟩
  have hi : i < L.length := by rw [List.getElem?_eq_some_iff] at hy; exact hy.1
  rw [hh _ (by omega), hh _ (by omega), hh _ (by omega)]
  exact h.2.2 i y hy
theorem LI.mo (h : LI K L) (hA : nA K ≤ nA K') (hR : nR K ≤ nR K') : LI K' L := fun y hy => by have := h y hy; omega
theorem LwE.of (KE : ∀ p, ¬ S p → K' p = K p) (hS : ∀ p, rgT p → ¬ S p) {f : Nat} (hf : f < 6) : LwE K K' f := by
  refine ⟨KE _ (hS _ (by unfold rgT; omega)), fun k hk => ⟨KE _ (hS _ (by unfold rgT; omega)), KE _ (hS _ (by unfold rgT; omega))⟩⟩
theorem PTS.ch (h : PTS x 200 T K) (ax : AgX P Q x x') (hlo : ∀ o k, P o k → o < 300) (KE : ∀ p, ¬ S p → K' p = K p) (hA' : nA K ≤ nA K')
    (dA : PtA x' 200 K' ∨ (¬ P 200 0 ∧ (∀ k, ¬ P 202 k) ∧ ∀ p, p < 32 ∨ p = 399 → ¬ S p))
    (dG : PtG x' 200 K' ∨ ((∀ k, ¬ P 203 k) ∧ ∀ p, 32 ≤ p → p < 96 → ¬ S p))
    (dR : PtR x' 200 K' ∨ (¬ P 200 3 ∧ (∀ k, ¬ P 205 k) ∧ (∀ k, ¬ P 206 k) ∧ ∀ p, (96 ≤ p ∧ p < 104) ∨ p = 400 → ¬ S p))
    (dW : PtW x' 200 K' ∨ ((∀ k, ¬ P 207 k) ∧ ∀ p, 104 ≤ p → p < 111 → ¬ S p))
    (dT : PtT x' 200 K' ∨ ((∀ k, 1 ≤ k → k < 4 → ¬ P 208 k) ∧ ∀ p, 396 ≤ p → p < 399 → ¬ S p))
    (dF : PtF x' 200 K' ∨ (¬ P 200 12 ∧ (∀ o k, 214 ≤ o → o ≤ 217 → ¬ P o k) ∧ ∀ p, (363 ≤ p ∧ p < 395) ∨ p = 402 → ¬ S p))
    (dL : PtL x' 200 T K' ∨ (¬ P 200 17 ∧ ¬ P 200 19 ∧ ∀ p, p = 403 ∨ p = 404 ∨ rgT p → ¬ S p)) : PTS x' 200 T K' := by
  obtain ⟨pA, pG, pR, pW, pT, pF, pL⟩ := h
  have l6 := pL.2.2.1.2
  refine ⟨?_, ?_, ?_, ?_, ?_, ?_, ?_⟩
  · rcases dA with z | ⟨z1, z2, z3⟩
    · exact z
    · exact pA.cg (ax.i _ _ z1) (fun k _ => ax.i _ _ (z2 k)) (fun p hp => KE p (z3 p hp))
  · rcases dG with z | ⟨z2, z3⟩
    · exact z
    · exact pG.cg (fun k _ => ax.i _ _ (z2 k)) (fun p hp hp2 => KE p (z3 p hp hp2))
  · rcases dR with z | ⟨z1, z2, z3, z4⟩
    · exact z
    · exact pR.cg (ax.i _ _ z1) (fun k _ => ax.i _ _ (z2 k)) (fun k _ => ax.i _ _ (z3 k)) (fun p hp => KE p (z4 p hp))
  · rcases dW with z | ⟨z2, z3⟩
    · exact z
    · exact pW.cg (fun k _ => ax.i _ _ (z2 k)) (fun p hp hp2 => KE p (z3 p hp hp2))
  · rcases dT with z | ⟨z2, z3⟩
    · exact z
    · exact pT.cg (fun k h1 h2 => ax.i _ _ (z2 k h1 h2)) (fun p hp hp2 => KE p (z3 p hp hp2))
  · rcases dF with z | ⟨z1, z2, z3⟩
    · exact z
    · exact pF.cg (ax.i _ _ z1) (fun k _ => ⟨ax.i _ _ (z2 _ k (by omega) (by omega)), ax.i _ _ (z2 _ k (by omega) (by omega)), ax.i _ _ (z2 _ k (by omega) (by omega)), ax.i _ _ (z2 _ k (by omega) (by omega))⟩) (fun p hp => KE p (z3 p hp)) hA'
  · rcases dL with z | ⟨z1, z2, z3⟩
    · exact z
    · refine pL.cg (ax.i _ _ z1) (ax.i _ _ z2) (fun k _ => ax.r _ _) ?_ (KE _ (z3 _ (by omega))) (KE _ (z3 _ (by omega))) (fun f hf => LwE.of KE (fun p hp => z3 p (Or.inr (Or.inr hp))) (by omega))
      intro t cl ht ok
      have nx : ∀ o k, 300 ≤ o → ¬ P o k := fun o k q z => by have := hlo o k z; omega
      exact ok.ag ax (fun k => nx _ k (by omega)) (fun k => nx _ k (by omega)) (fun k => nx _ k (by omega))
theorem CX.ke (h : CX x K) (hI : KI K) (ax : AgX P Q x x') (h5 : ¬ P 50 5) (h54 : ∀ k, ¬ P 54 k) (h55 : ∀ k, ¬ P 55 k) (KE : ∀ p, ¬ S p → K' p = K p) (hA : nA K ≤ nA K') (hR : nR K ≤ nR K') (s1 : ∀ a j, a < nA K → j < 3 → ¬ S (4 * a + j)) (s2 : ∀ r, r < nR K → ¬ S (96 + 2 * r + 1)) (s3 : ∀ p, p = 404 ∨ p = 398 ∨ rgT p → ¬ S p) : CX x' K' := by
  have l6 := hI.l
  refine h.cg (ax.i _ _ h5) (fun k => ax.i _ _ (h54 k)) (fun k => ax.i _ _ (h55 k)) hA hR ?_
  intro a r w ha hr hw
  exact pack_cg hI (KE _ (s3 _ (by omega))) (KE _ (s3 _ (by omega))) (fun j hj => KE _ (s1 a j ha hj)) (KE _ (s2 r hr)) (fun f hf => LwE.of KE (fun p hp => s3 p (Or.inr (Or.inr hp))) (by omega))
/-- the realm is another one: granted -/
theorem INB.gch (hM : MS m K L) (h : INB T m x n (n + 1) K L d) (hn : n < 2 ^ 20) (hA : nA K ≤ nA K') (hR : nR K ≤ nR K') (ag : Ag P m m') (hP : ∀ o p, P o p → o = 4 ∧ ¬ ((111 ≤ p ∧ p < 363) ∨ p = 395 ∨ p = 401)) (hK' : MK m' K') (ax : AgX P2 Q x x') (hP2 : ∀ o p, P2 o p → (o = 50 ∧ p = 5) ∨ (200 ≤ o ∧ o < 230 ∧ ¬ (o = 200 ∧ p = 8) ∧ ¬ (210 ≤ o ∧ o ≤ 212) ∧ ¬ (o = 208 ∧ p = 0))) (hQ : ∀ o, Q o → scrL o) (hp : PTS x' 200 T K') (hc : CX x' K') (hg : ∃ g, g ≤ n + 2 ∧ gI x' 50 5 = nI g) : INV T (gdM m') (sI x' 0 11 0) (n + 1) := by
  obtain ⟨hR', hI'⟩ := of_pts hp
  have hX := h.1
  have hL' := hX.2.2.1.mo hA hR
  have q4 : ∀ o p, ¬ o = 4 → ¬ P o p := fun o p c z => c (hP o p z).1
  refine INB.good (K := K') (L := L) (d := d) ⟨hK', hM.1.2.1.ag ag (q4 _ _ (by omega)) (q4 _ _ (by omega)), hI', hM.2.2.1.fr (fun p hp => ag.at 4 p (fun z => (hP _ _ z).2 (by omega))), hL'⟩ (h.ch (fun o p _ c => ag.at o p (q4 o p c)) (ax.mono (fun o p z => by have := hP2 o p z; unfold chX; omega) hQ) ⟨⟨hR', hc, hI'⟩, ?_, hL', hX.2.2.2⟩ ?_ ?_ h.2.2.2.1 h.2.2.2.2.1 h.2.2.2.2.2.1 hg) hn
  · have h84 := hX.2.1.2.1
    have e8 : gI x' 200 8 = gI x 200 8 := ax.i _ _ (fun z => by have := hP2 _ _ z; omega)
    have e10 : ∀ i, gI x' 210 i = gI x 210 i := fun i => ax.i _ _ (fun z => by have := hP2 _ _ z; omega)
    have e11 : ∀ i, gI x' 211 i = gI x 211 i := fun i => ax.i _ _ (fun z => by have := hP2 _ _ z; omega)
    have e12 : ∀ i, gI x' 212 i = gI x 212 i := fun i => ax.i _ _ (fun z => by have := hP2 _ _ z; omega)
    refine ⟨e8.trans hX.2.1.1, h84, fun i y hy => ?_⟩
    have := hX.2.1.x hy
    exact ⟨(e10 i).trans this.1, (e11 i).trans this.2.1, (e12 i).trans this.2.2⟩
  · rw [ag.at 4 395 (fun z => (hP _ _ z).2 (by omega))]; exact h.2.1
  · rw [ax.i 208 0 (fun z => by have := hP2 _ _ z; omega)]; exact h.2.2.1
/-- refused by both -/
theorem rff {k : Int32} (hM : MS m K L) (h : INB T m x n (n + 1) K L d) (hk : isRef k) (f : (Int32 → DD → Prop) → Prop) (hf : ∀ post : Int32 → DD → Prop, w_M_refuses m k post → f post) : w_Face_refused T x k (fun r x' => f (fun r' m' => r = r' ∧ INV T m' x' (n + 1))) := by
  refine s_refused hk (hf _ (s_refuses hk ⟨rfl, h.ref hM hk⟩))
end UP
