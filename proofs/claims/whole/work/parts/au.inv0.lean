/-! ===== at the start both stand for the same ===== -/
theorem K0_z {k : Nat} (h1 : ¬ k = 404) (h2 : ¬ k = 397) (h3 : ¬ k = 396) (h4 : ¬ (104 ≤ k ∧ k ≤ 110)) : K0 k = 0 := by
  unfold K0; rw [if_neg h1, if_neg h2, if_neg h3, if_neg h4]
theorem K0_w {w : Nat} (h : w < 7) : K0 (104 + w) = nI 63 := by
  unfold K0; rw [if_neg (by omega), if_neg (by omega), if_neg (by omega), if_pos (by omega)]; rfl
theorem nA0 : nA K0 = 0 := by decide +kernel
theorem nR0 : nR K0 = 0 := by decide +kernel
theorem nF0 : nF K0 = 0 := by decide +kernel
theorem nLw0 : nLw K0 = 0 := by decide +kernel
theorem KI0 : KI K0 := by
  refine ⟨⟨?_, by rw [nA0]; omega⟩, ⟨?_, by rw [nR0]; omega⟩, ⟨?_, by rw [nF0]; omega⟩, ⟨?_, by rw [nLw0]; omega⟩, ?_, ?_, ?_, ?_, ⟨⟨3, by omega, by omega, rfl⟩, ⟨20, by omega, by omega, rfl⟩, ⟨0, by omega, by omega, rfl⟩⟩, ?_, Or.inl rfl, ?_⟩
  · rw [nA0]; rfl
  · rw [nR0]; rfl
  · rw [nF0]; rfl
  · rw [nLw0]; rfl
  · intro a ha; rw [nA0] at ha; omega
  · intro a b ha hb
    have z : ∀ k, k < 104 → K0 k = 0 := fun k hk => K0_z (by omega) (by omega) (by omega) (by omega)
    exact ⟨Or.inl (z _ (by omega)), by rw [z _ (by omega), z _ (by omega)], z _ (by omega)⟩
  · intro r hr; rw [nR0] at hr; omega
  · intro w hw; exact ⟨63, by omega, by omega, K0_w hw⟩
  · intro i hi; rw [nF0] at hi; omega
  · intro f hf; rw [nLw0] at hf; omega
def T0 : TXT := fun _ => none
theorem m0_I {o k : Nat} : gI m0D o k = MI0 o k := rfl
theorem x0_I {o k : Nat} : gI x0D o k = XI0 o k := rfl
theorem MS_0 : MS m0D K0 [] := by
  refine ⟨⟨fun p _ => rfl, ⟨0, rfl, by decide, Or.inl rfl⟩, fun h => ?_⟩, KI0, ⟨rfl, Nat.zero_le _, fun i x h => (by cases h)⟩, fun x h => (by cases h)⟩
  exact absurd h (by decide +kernel)
theorem XS_0 : XS x0D T0 K0 [] := by
  refine ⟨⟨⟨rfl, rfl, rfl, rfl, rfl, ?_, ?_, ?_, ?_, ⟨rfl, rfl, rfl⟩, ?_, ?_⟩, ⟨1, by decide, by decide, rfl, ?_⟩, KI0⟩, ⟨rfl, Nat.zero_le _, fun i x h => (by cases h)⟩, fun x h => (by cases h), List.Pairwise.nil⟩
  · intro a j ha; rw [nA0] at ha; omega
  · intro a ha
    show (0 : Int32) = _
    have : ∀ a, a < 8 → (0 : Int32) = bits (gsy K0 a) 8 := by decide +kernel
    exact this a ha
  · intro r hr; rw [nR0] at hr; omega
  · intro w hw
    rw [K0_w hw]
    show (if w < 7 then (63 : Int32) else 0) = nI 63
    rw [if_pos hw]; rfl
  · intro i hi; rw [nF0] at hi; omega
  · intro f hf; rw [nLw0] at hf; omega
  · intro a r w _ _ _
    exact ⟨0, by omega, rfl, fun z => by omega⟩
theorem INV_0 : INV T0 m0D x0D 0 := by
  refine ⟨K0, [], 0, MS_0, XS_0, rfl, rfl, by omega, fun y h => (by cases h), Nat.zero_le _, ⟨⟨rfl, rfl, rfl, rfl⟩, ⟨rfl, rfl, rfl, rfl, rfl⟩, ⟨0, by omega, rfl, rfl, fun i h => by omega⟩, ⟨0, by omega, rfl, rfl, fun a h => by omega⟩, fun r _ => rfl, fun i hi => ?_⟩, Or.inl ⟨rfl, rfl⟩, Or.inl ⟨rfl, rfl⟩, ⟨0, by omega, rfl⟩, 1, by omega, rfl⟩
  show (if i < 129 then nI (wL.getD i 0) else 0) = _
  rw [if_pos hi]
