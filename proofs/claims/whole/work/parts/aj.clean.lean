/-! ===== references to what is not there are named anew; then nothing refers to a free number ===== -/
/-- all that lives lies below M; objects refer to what lives -/
def Bdw (w : WO) (M : Nat) : Prop := (∀ o, wLy w o ≠ none → o < M) ∧ ∀ o ci rf N, wLy w o = some (lO ci rf N) → ∀ k, k < N → ∀ j, rf k = some j → wLy w j ≠ none
def isNo (y : Option LY) : Bool := match y with
  | none => true
  | some _ => false
def clX (w : WO) (M : Nat) (x : DD) : DD := (x.1, x.2.1, fun q k => (x.2.2 q k).map (fun j => bif isNo (wLy w j) then j + M else j))
def clW (w : WO) (M : Nat) : WO := (w.1, w.2.1, (fun j => if M ≤ j then wAd w (j - M) else wAd w j), w.2.2.2.1, w.2.2.2.2)
section CLN
variable {w : WO} {M : Nat} {x : DD} {H : Heap}
theorem isNo_t {y : Option LY} (h : y = none) : isNo y = true := by rw [h]; rfl
theorem isNo_f {y : Option LY} (h : y ≠ none) : isNo y = false := by
  cases y with
  | none => exact absurd rfl h
  | some _ => rfl
theorem clW_a {j : Nat} (h : j < M) : wAd (clW w M) j = wAd w j := by
  show (if M ≤ j then _ else _) = _
  rw [if_neg (by omega)]
theorem clX_r {q k : Nat} : gR (clX w M x) q k = (gR x q k).map (fun j => bif isNo (wLy w j) then j + M else j) := rfl
theorem clX_ad (hB : Bdw w M) {q k : Nat} : (gR (clX w M x) q k).map (wAd (clW w M)) = (gR x q k).map (wAd w) := by
  rw [clX_r]
  cases h : gR x q k with
  | none => rfl
  | some j =>
    show some (wAd (clW w M) (bif isNo (wLy w j) then j + M else j)) = some (wAd w j)
    by_cases c : wLy w j = none
    · rw [isNo_t c]
      show some (if M ≤ j + M then wAd w (j + M - M) else _) = _
      rw [if_pos (by omega), Nat.add_sub_cancel]
    · rw [isNo_f c]
      show some (wAd (clW w M) j) = _
      rw [clW_a (hB.1 j c)]
theorem clX_wd (hB : Bdw w M) (h : Wd w x H) : Wd (clW w M) (clX w M x) H := by
  refine h.to (fun q y' hq => ?_)
  have hq' : wLy w q = some y' := hq
  have hlt : q < M := hB.1 q (by rw [hq']; exact fun z => (by cases z))
  refine ⟨clW_a hlt, y', hq', fun k => ?_⟩
  rcases y' with ⟨ci, rf, N⟩ | ⟨t, n⟩ | n | ⟨t, n⟩ | ⟨ci, fs⟩
  · have e : (List.range N).map (fun k => fldV (clW w M) (clX w M x) q (rf k) k) = (List.range N).map (fun k => fldV w x q (rf k) k) := by
      apply List.map_congr_left
      intro k hk
      cases e : rf k with
      | none => rfl
      | some j =>
        show Value.ref (wAd (clW w M) j) = Value.ref (wAd w j)
        rw [clW_a (hB.1 j (hB.2 q ci rf N hq' k (List.mem_range.1 hk) j e))]
    show va_at w.1 cls12 (wAd w q, .inr (ci, (List.range N).map (fun k => fldV (clW w M) (clX w M x) q (rf k) k))) H
    rw [e]; exact k
  · exact k
  · exact k
  · show H[wAd w q]? = some (vp_cell (wCa w t) (n, .inr (.inr (.inr (.inr (fun k => (gR (clX w M x) q k).map (wAd (clW w M))))))))
    rw [show (fun k => (gR (clX w M x) q k).map (wAd (clW w M))) = (fun k => (gR x q k).map (wAd w)) from funext (fun k => clX_ad hB)]
    exact k
  · exact k
theorem clX_nr (hB : Bdw w M) {o : Nat} (ho : wLy w o = none) (hM : o < M) : NR (clW w M) (clX w M x) o := by
  intro q y hq
  have hq' : wLy w q = some y := hq
  rcases y with ⟨ci, rf, N⟩ | ⟨t, n⟩ | n | ⟨t, n⟩ | ⟨ci, fs⟩
  · intro k hk e
    exact hB.2 q ci rf N hq' k hk o e ho
  · trivial
  · trivial
  · intro k hk e
    rw [clX_r] at e
    cases h : gR x q k with
    | none => rw [h] at e; cases e
    | some j =>
      rw [h] at e
      have e' : (bif isNo (wLy w j) then j + M else j) = o := Option.some.inj e
      by_cases c : wLy w j = none
      · rw [isNo_t c] at e'
        have : j + M = o := e'
        omega
      · rw [isNo_f c] at e'
        have : j = o := e'
        rw [this] at c
        exact c ho
  · trivial
theorem clX_k {q k : Nat} (h : gR x q k = none ∨ ∃ j, gR x q k = some j ∧ wLy w j ≠ none) : gR (clX w M x) q k = gR x q k := by
  rw [clX_r]
  rcases h with h | ⟨j, h, hj⟩
  · rw [h]; rfl
  · rw [h]
    show some (bif isNo (wLy w j) then j + M else j) = some j
    rw [isNo_f hj]; rfl
theorem clX_n {q k : Nat} : gR (clX w M x) q k = none ↔ gR x q k = none := by
  rw [clX_r]
  cases gR x q k with
  | none => exact ⟨fun _ => rfl, fun _ => rfl⟩
  | some j => exact ⟨fun z => (by cases z), fun z => (by cases z)⟩
theorem RXs.cl {b : Nat} {T : TXT} {K : Nat → Int32} (h : RXs x b T K) (hT : ∀ t v, T t = some v → wLy w t ≠ none) : RXs (clX w M x) b T K := by
  obtain ⟨r1, r2, r3, r4, r5, r6, r7, r8, r9, r10, r11, r12⟩ := h
  refine ⟨r1, r2, r3, r4, r5, r6, r7, r8, r9, r10, r11, fun f h1 => ?_⟩
  obtain ⟨t, q1, q2, q3⟩ := r12 f h1
  refine ⟨t, q1, ?_, q3⟩
  obtain ⟨m1, m2, g, -⟩ := q3
  rw [clX_k (Or.inr ⟨t, q2, hT t _ g⟩)]; exact q2
theorem INV.cl {T : TXT} {m : DD} {n : Nat} (h : INV T m x n) (hT : ∀ t v, T t = some v → wLy w t ≠ none) (h2 : ∀ k b, prK k b → gR x 2 k = some b → wLy w b ≠ none) : INV T m (clX w M x) n := by
  obtain ⟨K, L, d, a1, a2, a3, a4, a5, a6, a7, a8, i0, i1, a9, a10⟩ := h
  have im : ∀ k b, prK k b → IMG m x T k b → IMG m (clX w M x) T k b := by
    intro k b hk hi
    rcases hi with ⟨q1, q2⟩ | ⟨q1, q2, K', L', d', w1, w2, w3, w4, w5, w6, w7, w8, w9, w10, w11, w12, w13⟩
    · exact Or.inl ⟨q1, clX_n.2 q2⟩
    · exact Or.inr ⟨q1, by rw [clX_k (Or.inr ⟨b, q2, h2 k b hk q2⟩)]; exact q2, K', L', d', w1, w2, w3, w4, w5, w6, w7, w8, w9, w10, w11.cl hT, w12, w13⟩
  exact ⟨K, L, d, a1, ⟨⟨a2.1.1.cl hT, a2.1.2⟩, a2.2⟩, a3, a4, a5, a6, a7, a8, im 0 230 (Or.inl ⟨rfl, rfl⟩) i0, im 1 260 (Or.inr ⟨rfl, rfl⟩) i1, a9, a10⟩
end CLN
