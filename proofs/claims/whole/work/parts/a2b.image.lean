/-! ===== an image is kept, by both ===== -/
def prK (k b : Nat) : Prop := (k = 0 ∧ b = 230) ∨ (k = 1 ∧ b = 260)
def wz_image (T : TXT) (x : DD) (a1 : Int32) (post : Int32 → DD → Prop) : Prop :=
  ((a1 < 0 ∨ ¬ a1 < 2) → w_Face_refused T x (-1) post) ∧ ∀ k b, prK k b → a1 = nI k → (gR x 2 k = none ∨ gR x 2 k = some b) ∧ ∀ x1, (∀ a c, ¬ (b ≤ a ∧ a ≤ b + 20) → gI x1 a c = gI x a c) → (∀ a c, ¬ (b ≤ a ∧ a ≤ b + 20) → ¬ (a = 2 ∧ c = k) → gR x1 a c = gR x a c) → gR x1 2 k = some b → w_Real_become T b 200 x1 (fun σ => w_Face_granted T σ 0 post)
theorem p_image {m x : DD} {T : TXT} {n : Nat} {a1 : Int32} (h : INV T m x n) (hn : n < 2 ^ 20) : wz_image T x a1 (fun r x' => w_M_image m a1 (fun r' m' => r = r' ∧ INV T m' x' (n + 1))) := by
  obtain ⟨K, L, d, hM, hB, -⟩ := h.b
  refine ⟨fun z => ?_, fun k b hk ea => ⟨?_, fun x1 h1 h2 h3 => ?_⟩⟩
  · have z' : ¬ (0 ≤ a1 ∧ a1 ≤ 1) := fun w => by
      rcases z with z | z
      · have := w.1; grind
      · have := w.2; grind
    refine s_refused (Or.inl rfl) ?_
    unfold w_M_image
    refine s_lies ?_
    rw [show inB a1 0 1 = false from decide_eq_false z']
    exact ⟨fun w => absurd rfl w, fun _ => s_refuses (Or.inl rfl) ⟨rfl, hB.ref hM (Or.inl rfl)⟩⟩
  · have i0 := hB.2.2.2.2.2.2.2.1
    have i1 := hB.2.2.2.2.2.2.2.2.1
    rcases hk with ⟨rfl, rfl⟩ | ⟨rfl, rfl⟩
    · rcases i0 with q | q
      · exact Or.inl q.2
      · exact Or.inr q.2.1
    · rcases i1 with q | q
      · exact Or.inl q.2
      · exact Or.inr q.2.1
  · subst ea
    exact p_imageC h hn hk h1 h2 h3
