/-! ===== an image is kept, by both ===== -/
def prK (k b : Nat) : Prop := (k = 0 ∧ b = 230) ∨ (k = 1 ∧ b = 260)
def wz_image (T : TXT) (x : DD) (a1 : Int32) (post : Int32 → DD → Prop) : Prop :=
  ((a1 < 0 ∨ ¬ a1 < 2) → w_Face_refused T x (-1) post) ∧ ∀ k b, prK k b → a1 = nI k → (gR x 2 k = none ∨ gR x 2 k = some b) ∧ ∀ x1, (∀ a c, ¬ (b ≤ a ∧ a ≤ b + 20) → gI x1 a c = gI x a c) → (∀ a c, ¬ (b ≤ a ∧ a ≤ b + 20) → ¬ (a = 2 ∧ c = k) → gR x1 a c = gR x a c) → gR x1 2 k = some b → w_Real_become T b 200 x1 (fun σ => w_Face_granted T σ 0 post)
def IMx (a1 : Int32) (x x' : DD) : Prop := (∀ k b, prK k b → a1 = nI k → (∀ c, ¬ c = k → gR x' 2 c = gR x 2 c) ∧ gR x' 2 k = some b) ∧ ((a1 < 0 ∨ ¬ a1 < 2) → ∀ c, gR x' 2 c = gR x 2 c)
theorem p_image {m x : DD} {T : TXT} {n : Nat} {a1 : Int32} (h : INV T m x n) (hn : n < 2 ^ 20) : wz_image T x a1 (fun r x' => w_M_image m a1 (fun r' m' => r = r' ∧ INV T m' x' (n + 1) ∧ IMx a1 x x')) := by
  obtain ⟨K, L, d, hM, hB, -⟩ := h.b
  refine ⟨fun z => ?_, fun k b hk ea => ⟨?_, fun x1 h1 h2 h3 => ?_⟩⟩
  · have z' : ¬ (0 ≤ a1 ∧ a1 ≤ 1) := fun w => by
      rcases z with z | z
      · have := w.1; grind
      · have := w.2; grind
    refine s_refused (Or.inl rfl) ?_
    unfold w_M_image
    refine s_lies ?_
    rw [show inB a1 0 1 = false from decide_eq_false z']
    refine ⟨fun w => absurd rfl w, fun _ => s_refuses (Or.inl rfl) ⟨rfl, hB.ref hM (Or.inl rfl), ?_⟩⟩
    refine ⟨fun k b hk ea => ?_, fun _ _ => rfl⟩
    exfalso
    unfold prK at hk
    subst ea
    have k2 : k < 2 := by omega
    rw [show (0 : Int32) = nI 0 from rfl, show (2 : Int32) = nI 2 from rfl, nI_ltI (by omega) (by decide), nI_ltI (by omega) (by decide)] at z
    omega
  · have i0 := hB.2.2.2.2.2.2.2.1
    have i1 := hB.2.2.2.2.2.2.2.2.1
    rcases hk with ⟨rfl, rfl⟩ | ⟨rfl, rfl⟩
    · rcases i0 with q | q
      · exact Or.inl q.2
      · exact Or.inr q.2.1
    · rcases i1 with q | q
      · exact Or.inl q.2
      · exact Or.inr q.2.1
  · subst ea
    have kk : ∀ k' b', prK k' b' → nI k = nI k' → k' = k ∧ b' = b := by
      intro k' b' hk' e
      unfold prK at hk hk'
      have := (nI_eq (by omega) (by omega)).1 e
      omega
    have nr : ¬ (nI k < 0 ∨ ¬ nI k < 2) := by
      unfold prK at hk
      rw [show (0 : Int32) = nI 0 from rfl, show (2 : Int32) = nI 2 from rfl, nI_ltI (by omega) (by decide), nI_ltI (by omega) (by decide)]
      omega
    have e : (fun (r : Int32) (x' : DD) => w_M_image m (nI k) (fun r' m' => r = r' ∧ INV T m' x' (n + 1) ∧ IMx (nI k) x x')) = (fun r x' => w_M_image m (nI k) (fun r' m' => r = r' ∧ INV T m' x' (n + 1) ∧ (∀ c, ¬ c = k → gR x' 2 c = gR x 2 c) ∧ gR x' 2 k = some b)) := by
      funext r x'
      congr 1
      funext r' m'
      refine propext ⟨fun q => ⟨q.1, q.2.1, q.2.2.1 k b hk rfl⟩, fun q => ⟨q.1, q.2.1, fun k' b' hk' ea => ?_, fun z => absurd z nr⟩⟩
      obtain ⟨rfl, rfl⟩ := kk k' b' hk' ea
      exact q.2.2
    rw [e]
    exact p_imageC h hn hk h1 h2 h3
