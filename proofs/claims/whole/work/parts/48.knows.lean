/-! ===== the model's kept row: what stands still within a call; its answers by law ===== -/
def dyn (p : Nat) : Prop := (111 ≤ p ∧ p < 363) ∨ p = 395 ∨ p = 401 ∨ p = 411 ∨ (2812 ≤ p ∧ p < 3212) ∨ 5612 ≤ p
def MK (σ : DD) (K : Nat → Int32) : Prop := ∀ p, ¬ dyn p → gI σ 4 p = K p
def nA (K : Nat → Int32) : Nat := (K 399).toNatClampNeg
def nR (K : Nat → Int32) : Nat := (K 400).toNatClampNeg
def nF (K : Nat → Int32) : Nat := (K 402).toNatClampNeg
def nLw (K : Nat → Int32) : Nat := (K 403).toNatClampNeg
def rng (x : Int32) (lo hi : Nat) : Prop := ∃ n : Nat, lo ≤ n ∧ n ≤ hi ∧ x = nI n
/-- the kept row is well made -/
def KI (K : Nat → Int32) : Prop :=
  (K 399 = nI (nA K) ∧ nA K ≤ 8) ∧ (K 400 = nI (nR K) ∧ nR K ≤ 4) ∧ (K 402 = nI (nF K) ∧ nF K ≤ 8) ∧ (K 403 = nI (nLw K) ∧ nLw K ≤ 6)
  ∧ (∀ a, a < nA K → rng (K (4 * a)) 1 60 ∧ rng (K (4 * a + 1)) 1 30 ∧ rng (K (4 * a + 2)) 1 63 ∧ (K (4 * a + 3) = -1 ∨ ∃ m, m < nA K ∧ K (4 * a + 3) = nI m))
  ∧ (∀ a b, a < 8 → b < 8 → (K (32 + 8 * a + b) = 0 ∨ K (32 + 8 * a + b) = 1) ∧ K (32 + 8 * a + b) = K (32 + 8 * b + a) ∧ K (32 + 8 * a + a) = 0)
  ∧ (∀ r, r < nR K → rng (K (96 + 2 * r)) 1 99 ∧ rng (K (96 + 2 * r + 1)) 0 5)
  ∧ (∀ w, w < 7 → rng (K (104 + w)) 0 63)
  ∧ (rng (K 396) 0 10 ∧ rng (K 397) 1 60 ∧ rng (K 398) 0 9)
  ∧ (∀ i, i < nF K → rng (K (363 + 4 * i)) 0 999 ∧ rng (K (363 + 4 * i + 1)) 0 5 ∧ (∃ m, m < nA K ∧ K (363 + 4 * i + 2) = nI m) ∧ (K (363 + 4 * i + 3) = 0 ∨ K (363 + 4 * i + 3) = 1))
  ∧ (K 404 = -1 ∨ ∃ f, f < nLw K ∧ K 404 = nI f) ∧ ∀ f, f < nLw K → LawOK K f
section KN
variable {σ τ : DD} {K : Nat → Int32}
theorem KI.a (h : KI K) : K 399 = nI (nA K) ∧ nA K ≤ 8 := h.1
theorem KI.r (h : KI K) : K 400 = nI (nR K) ∧ nR K ≤ 4 := h.2.1
theorem KI.f (h : KI K) : K 402 = nI (nF K) ∧ nF K ≤ 8 := h.2.2.1
theorem KI.l (h : KI K) : K 403 = nI (nLw K) ∧ nLw K ≤ 6 := h.2.2.2.1
theorem KI.act (h : KI K) {a : Nat} (ha : a < nA K) : rng (K (4 * a)) 1 60 ∧ rng (K (4 * a + 1)) 1 30 ∧ rng (K (4 * a + 2)) 1 63 ∧ (K (4 * a + 3) = -1 ∨ ∃ m, m < nA K ∧ K (4 * a + 3) = nI m) := h.2.2.2.2.1 a ha
theorem KI.gs (h : KI K) {a b : Nat} (ha : a < 8) (hb : b < 8) : (K (32 + 8 * a + b) = 0 ∨ K (32 + 8 * a + b) = 1) ∧ K (32 + 8 * a + b) = K (32 + 8 * b + a) ∧ K (32 + 8 * a + a) = 0 := h.2.2.2.2.2.1 a b ha hb
theorem KI.rd (h : KI K) {r : Nat} (hr : r < nR K) : rng (K (96 + 2 * r)) 1 99 ∧ rng (K (96 + 2 * r + 1)) 0 5 := h.2.2.2.2.2.2.1 r hr
theorem KI.ls (h : KI K) {w : Nat} (hw : w < 7) : rng (K (104 + w)) 0 63 := h.2.2.2.2.2.2.2.1 w hw
theorem KI.tm (h : KI K) : rng (K 396) 0 10 ∧ rng (K 397) 1 60 ∧ rng (K 398) 0 9 := h.2.2.2.2.2.2.2.2.1
theorem KI.fn (h : KI K) {i : Nat} (hi : i < nF K) : rng (K (363 + 4 * i)) 0 999 ∧ rng (K (363 + 4 * i + 1)) 0 5 ∧ (∃ m, m < nA K ∧ K (363 + 4 * i + 2) = nI m) ∧ (K (363 + 4 * i + 3) = 0 ∨ K (363 + 4 * i + 3) = 1) := h.2.2.2.2.2.2.2.2.2.1 i hi
theorem KI.fo (h : KI K) : K 404 = -1 ∨ ∃ f, f < nLw K ∧ K 404 = nI f := h.2.2.2.2.2.2.2.2.2.2.1
theorem KI.lw (h : KI K) {f : Nat} (hf : f < nLw K) : LawOK K f := h.2.2.2.2.2.2.2.2.2.2.2 f hf
theorem MK.ag {P : Nat → Nat → Prop} (h : MK σ K) (a : Ag P σ τ) (hp : ∀ k, ¬ P 4 k) : MK τ K := fun p q => (a.at 4 p (hp p)).trans (h p q)
theorem s_fact {a : Nat} {x : Int32} {post : Int32 → DD → Prop} (j : Nat) (hx : x = nI j) (ha : a < 8) (hj : j < 4) (k : post (gI σ 4 (4 * a + j)) σ) : w_M_fact σ (nI a) x post := by
  unfold w_M_fact
  have e : (0 + (4 * nI a)) + x = nI (4 * a + j) := by
    rw [hx, show (4 : Int32) = nI 4 from rfl, pk_mul, show (0 : Int32) = nI 0 from rfl, nI_add, nI_add]; congr 1; omega
  rw [e, nI_clamp (by omega)]
  exact ⟨vp_in_nI (by omega) (by decide), k⟩
theorem dyn_lt {p : Nat} (h : p < 111) : ¬ dyn p := by unfold dyn; omega
theorem jrem7 {d : Nat} (hd : d < 2 ^ 31) : jrem (nI d) 7 = nI (d % 7) := by
  unfold jrem
  rw [show (7 : Int32) = nI 7 from rfl, pk_rem hd (by decide) (by decide)]
theorem nI_m1 {n : Nat} (h : n < 2 ^ 31) : ¬ nI n = -1 := by
  intro e
  have := congrArg Int32.toInt e
  rw [nI_toInt h] at this
  have h2 : (-1 : Int32).toInt = -1 := by decide
  omega
theorem s_tells {h : Int32} {a r d : Nat} {wo : Int32} {post : Int32 → DD → Prop} (hK : MK σ K) (hI : KI K) (ha : a < nA K) (hr : r < nR K) (hd : d < 2 ^ 31) (k : ∀ τ, Ag tlP σ τ → post (ansW K h a r (d % 7) wo) τ) : w_M_tells σ h (nI a) (nI r) (nI d) wo post := by
  have ha8 : a < 8 := by have := hI.a; omega
  have hr4 : r < 4 := by have := hI.r; omega
  unfold w_M_tells
  have h404 : gI σ 4 404 = K 404 := hK 404 (by unfold dyn; omega)
  unfold ansW at k
  refine ⟨fun q => ?_, fun q => ?_⟩
  rotate_left
  · rw [h404] at q
    rw [if_pos q] at k
    exact k σ (Ag.refl σ)
  · rw [h404] at q
    rw [if_neg q] at k
    obtain ⟨f, hf, ef⟩ := hI.fo.resolve_left q
    have hf6 : f < 6 := by have := hI.l; omega
    obtain ⟨n400, nE, ⟨cl, hcl⟩, -⟩ := hI.lw hf
    simp only [forall_eq]
    refine s_fact 0 rfl ha8 (by omega) (s_fact 1 rfl ha8 (by omega) (s_fact 2 rfl ha8 (by omega) (s_ones ⟨?_, ?_⟩)))
    · rw [show (96 : Int32) = nI 96 from rfl, show (2 : Int32) = nI 2 from rfl, pk_mul, nI_add, nI_1]
      exact vp_in_nI (by omega) (by decide)
    · have e1 : (96 + (2 * nI r)) + 1 = nI (96 + 2 * r + 1) := by
        rw [show (96 : Int32) = nI 96 from rfl, show (2 : Int32) = nI 2 from rfl, pk_mul, nI_add, nI_1]
      rw [e1, nI_clamp (by omega), jrem7 hd]
      have kp : ∀ p, ¬ dyn p → ∀ (x0 x1 x2 x3 x4 x5 x6 x7 : Int32), gI (sI (sI (sI (sI (sI (sI (sI (sI σ 26 0 x0) 26 1 x1) 26 2 x2) 26 3 x3) 26 4 x4) 26 5 x5) 26 6 x6) 26 7 x7) 4 p = K p := by
        intro p hp x0 x1 x2 x3 x4 x5 x6 x7
        simp only [gI_sI]
        simpa using hK p hp
      have f0 := hK (4 * a) (dyn_lt (by omega))
      have f1 := hK (4 * a + 1) (dyn_lt (by omega))
      have f2 := hK (4 * a + 2) (dyn_lt (by omega))
      have f5 := hK (96 + 2 * r + 1) (dyn_lt (by omega))
      have f398 := hK 398 (by unfold dyn; omega)
      have fN := hK (405 + f) (by unfold dyn; omega)
      have e400 : (400 : Int32) * nI f = nI (400 * f) := by rw [show (400 : Int32) = nI 400 from rfl, pk_mul]
      have e405 : (405 : Int32) + nI f = nI (405 + f) := by rw [show (405 : Int32) = nI 405 from rfl, nI_add]
      simp only [gI_sI]
      simp only [Nat.reduceEqDiff, false_and, if_false, h404, ef, e405, e400, f0, f1, f2, f5, f398, nI_clamp (show 405 + f < 2 ^ 31 by omega), fN, nE, nI_add, and_self, and_true, and_false, if_true]
      refine ⟨vp_in_nI (by omega) (by decide), ?_⟩
      rw [ef, nI_clamp (by omega)] at k
      have hcl' : clsOf K f = cl := by unfold clsOf; rw [hcl]
      rw [hcl'] at k
      rw [pAll_go] at hcl
      refine tells_L (B := 400 * f) (N := nT K f) (c := cO K f) (v := vO K f) (e := envL K a r (d % 7)) ?_ (Nat.zero_le _) (Nat.zero_le _) hcl ?_ ?_
      · refine ⟨?_, n400, by omega, ?_, ?_, ?_, ?_, ?_, by simp⟩
        · simp only [gI_sI]; simp
        · intro j hj
          have := hK (412 + (400 * f + j)) (by unfold dyn; omega)
          simp only [gI_sI]; simp [cO, hj, this]
        · intro j hj
          have := hK (3212 + (400 * f + j)) (by unfold dyn; omega)
          simp only [gI_sI]; simp [vO, hj, this]
        · intro j hj; unfold cO; rw [if_neg (by omega)]
        · simp only [gI_sI]; simp [fw]
        · intro j hj
          simp only [Bool.false_eq_true, if_false] at hj
          unfold envL
          have : j = 0 ∨ j = 1 ∨ j = 2 ∨ j = 3 ∨ j = 4 ∨ j = 5 ∨ j = 6 ∨ j = 7 := by omega
          simp only [gI_sI]
          rcases this with h | h | h | h | h | h | h | h <;> subst h <;> simp [f0, f1, f2, f5, f398]
      · simp only [gI_sI]; simp
      · intro τ ag
        refine k τ (Ag.trans ?_ (ag.mono (fun o k => evP_tl)))
        have p26 : ∀ j, tlP 26 j := fun j => Or.inl rfl
        exact (((((((((((Ag.refl σ).set (p26 _)).set (p26 _)).set (p26 _)).set (p26 _)).set (p26 _)).set (p26 _)).set (p26 _)).set (p26 _)).set (Or.inr ⟨rfl, by omega⟩)).set (Or.inr ⟨rfl, by omega⟩)).set (Or.inr ⟨rfl, by omega⟩)
end KN
