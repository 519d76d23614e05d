/-! ===== a text is made, beyond all the others ===== -/
def Fr (T : TXT) (t : Nat) : Prop := 300 ≤ t ∧ ∀ q v, T q = some v → q + 5 ≤ t
section MK2
variable {m x σ τ : DD} {T : TXT} {n G b t n1 n2 : Nat} {o : Bool} {cl : List CLS} {K : Nat → Int32} {L : List RD} {d : Nat}
theorem Fr.no (h : Fr T t) : T t = none := by
  cases hT : T t with
  | none => rfl
  | some v => have := h.2 t v hT; omega
theorem TxtOK.mk {q : Nat} (h : TxtOK σ T q o cl) (hF : Fr T t) : TxtOK (mkT σ t) T q o cl := by
  obtain ⟨m1, m2, hq, r⟩ := h
  have := hF.2 q _ hq
  refine ⟨m1, m2, hq, ?_⟩
  rw [mkT_i (by omega), show gI (mkT σ t) (q + 4) = gI σ (q + 4) from funext (fun k => mkT_i (by omega)), show gI (mkT σ t) (q + 3) = gI σ (q + 3) from funext (fun k => mkT_i (by omega))]
  exact r
theorem mkT_lo {a c : Nat} (hF : Fr T t) (h : a < 300) : gI (mkT σ t) a c = gI σ a c := mkT_i (by have := hF.1; omega)
theorem RXs.mk (h : RXs σ b T K) (hb : b ≤ 270) (hF : Fr T t) : RXs (mkT σ t) b T K := by
  obtain ⟨r1, r2, r3, r4, r5, r6, r7, r8, r9, r10, r11, r12⟩ := h
  refine ⟨?_, ?_, ?_, ?_, ?_, fun a j h1 h2 => ?_, fun a h1 => ?_, fun r h1 => ?_, fun w h1 => ?_, ?_, fun i h1 => ?_, fun f h1 => ?_⟩
  · rw [mkT_lo hF (by omega)]; exact r1
  · rw [mkT_lo hF (by omega)]; exact r2
  · rw [mkT_lo hF (by omega)]; exact r3
  · rw [mkT_lo hF (by omega)]; exact r4
  · rw [mkT_lo hF (by omega)]; exact r5
  · rw [mkT_lo hF (by omega)]; exact r6 a j h1 h2
  · rw [mkT_lo hF (by omega)]; exact r7 a h1
  · rw [mkT_lo hF (by omega), mkT_lo hF (by omega)]; exact r8 r h1
  · rw [mkT_lo hF (by omega)]; exact r9 w h1
  · rw [mkT_lo hF (by omega), mkT_lo hF (by omega), mkT_lo hF (by omega)]; exact r10
  · rw [mkT_lo hF (by omega), mkT_lo hF (by omega), mkT_lo hF (by omega), mkT_lo hF (by omega)]; exact r11 i h1
  · obtain ⟨q, q1, q2, q3⟩ := r12 f h1
    exact ⟨q, q1, q2, q3.mk hF⟩
theorem RXd.mk (h : RXd σ b L) (hb : b ≤ 270) (hF : Fr T t) : RXd (mkT σ t) b L := by
  refine ⟨?_, h.2.1, fun i y hy => ?_⟩
  · rw [mkT_lo hF (by omega)]; exact h.1
  · rw [mkT_lo hF (by omega), mkT_lo hF (by omega), mkT_lo hF (by omega)]; exact h.2.2 i y hy
theorem XS.mk (h : XS σ T K L) (hF : Fr T t) : XS (mkT σ t) T K L := by
  refine ⟨⟨h.1.1.mk (by omega) hF, ?_, h.1.2.2⟩, h.2.1.mk (by omega) hF, h.2.2⟩
  obtain ⟨n', c1, c2, c3, c4⟩ := h.1.2.1
  refine ⟨n', c1, c2, by rw [mkT_lo hF (by omega)]; exact c3, fun a r w z1 z2 z3 => ?_⟩
  rw [mkT_lo hF (by omega), mkT_lo hF (by omega)]; exact c4 a r w z1 z2 z3
theorem IMG.mk {k : Nat} (h : IMG m x T k b) (hb : b ≤ 270) (hF : Fr T t) : IMG m (mkT x t) T k b := by
  rcases h with h | ⟨h1, h2, K, L, d, q1, q2, q3, q4, q5, q6, q7, q8, q9, q10, q11, q12, q13⟩
  · exact Or.inl h
  · exact Or.inr ⟨h1, h2, K, L, d, q1, q2, q3, q4, q5, q6, q7, q8, q9, q10, q11.mk hb hF, q12.mk hb hF, by rw [mkT_lo hF (by omega)]; exact q13⟩
theorem INB.mk (h : INB T m x n G K L d) (hF : Fr T t) : INB T m (mkT x t) n G K L d := by
  obtain ⟨h1, h2, h3, h4, h5, h6, h7, h8, h9, h10, h11⟩ := h
  refine ⟨h1.mk hF, h2, by rw [mkT_lo hF (by omega)]; exact h3, h4, h5, h6, h7.fr (fun _ _ _ => rfl) (fun o p w => mkT_lo hF (by unfold xr2 at w; omega)), h8.mk (by omega) hF, h9.mk (by omega) hF, h10, ?_⟩
  rw [mkT_lo hF (by omega)]; exact h11
/-- the class's law, orders, image: where they make something the numbers of what is made are free -/
def wz_law (T : TXT) (x : DD) (post : TXT → Int32 → DD → Prop) : Prop :=
  (6 ≤ gI x 200 17 → w_Face_refused T (sI x 20 1 0) (-5) (post T)) ∧ (¬ 6 ≤ gI x 200 17 → cp_all T x 1 (fun σ => w_Face_refused T (sI σ 20 1 0) (-6) (post T)) (fun σ => σ.2.2 = x.2.2 ∧ ∃ s c, s ≤ 400 ∧ c ≤ 12 ∧ gI σ 30 4 = nI s ∧ gI σ 30 5 = nI c ∧ ∀ t, Fr T t → ∀ σ1, σ1 = sI (mkT σ t) 20 1 0 → vp_in (gI σ1 200 17) 6 ∧ ∀ σ2, σ2 = sR σ1 219 (gI σ1 200 17).toNatClampNeg (some t) → ∀ σ3, σ3 = sI σ2 200 17 (gI σ2 200 17 + 1) → w_Face_granted (adT T t s (6 * c)) σ3 (gI σ1 200 17) (post (adT T t s (6 * c)))))
def wz_orders (T : TXT) (x : DD) (post : TXT → Int32 → DD → Prop) : Prop :=
  cp_all T x 0 (fun σ => w_Face_refused T (sI (sI σ 20 1 0) 60 6 (-1)) (-6) (post T)) (fun σ => σ.2.2 = x.2.2 ∧ ∃ s c, s ≤ 400 ∧ c ≤ 12 ∧ gI σ 30 4 = nI s ∧ gI σ 30 5 = nI c ∧ ∀ t, Fr T t → ∀ σ2, σ2 = sI (sI (mkT σ t) 20 1 0) 60 6 (-1) → w_Ord_runWholly (adT T t s (6 * c)) t s (6 * c) σ2 (fun r σ3 => (0 ≤ r → w_Face_granted (adT T t s (6 * c)) σ3 r (post (adT T t s (6 * c)))) ∧ (¬ 0 ≤ r → w_Face_refused (adT T t s (6 * c)) σ3 r (post (adT T t s (6 * c))))))
/-- the tape's bytes, its tokens -/
theorem tape_b (h : RSX m x) : ∃ (b : Nat → Nat) (sz N : Nat), sz ≤ 400 ∧ TB x b sz ∧ (∀ j, j < sz → b j < 256 ∧ gI m 12 j = i2b (nI (b j))) ∧ gI m 0 13 = nI sz ∧ N ≤ sz ∧ (∀ i, i < N → tP b sz i < sz) ∧ (∀ i, N ≤ i → tP b sz i = sz) ∧ ∀ i, i < 129 → gI m 8 i = nI (wL.getD i 0) := by
  obtain ⟨-, -, ⟨sz, t1, t2, t3, t4⟩, -, -, w0⟩ := h
  obtain ⟨b, hb⟩ : ∃ b : Nat → Nat, ∀ j, j < sz → b j < 256 ∧ gI x 21 j = nI (b j) ∧ gI m 12 j = i2b (nI (b j)) := by
    refine ⟨fun j => if hj : j < sz then (t4 j hj).choose else 0, fun j hj => ?_⟩
    simp only [dif_pos hj]
    exact (t4 j hj).choose_spec
  obtain ⟨N, n1, n2, n3⟩ := tN_ex b sz
  exact ⟨b, sz, N, t1, ⟨t1, t2, fun j hj => ⟨(hb j hj).1, (hb j hj).2.1⟩⟩, fun j hj => ⟨(hb j hj).1, (hb j hj).2.2⟩, t3, n1, n2, n3, w0⟩
/-- the tape is read, by both -/
def rd2 (o p : Nat) : Prop := rdA o p ∨ (o = 0 ∧ p = 44)
def cp2 (o p : Nat) : Prop := cpQ o p ∨ (o = 20 ∧ p = 1) ∨ (o = 60 ∧ p = 6)
theorem INB.rd {m' x' : DD} (hM : MS m K L) (h : INB T m x n G K L d) (am : Ag rd2 m m') (ax : AgX cp2 noL x x') (h13 : gI m' 0 13 = 0) (h20 : gI x' 20 1 = 0) (h8 : gI x' 30 8 = gI m' 0 14) (h6 : gI x' 60 6 = gI m' 0 44) : MS m' K L ∧ INB T m' x' n G K L d := by
  have hRS := h.2.2.2.2.2.2.1
  obtain ⟨g, hg1, hg2⟩ := h.2.2.2.2.2.2.2.2.2.2
  have hX' : XS x' T K L := h.1.lo ax (fun o k w => by unfold cp2 cpQ at w; omega)
  refine ⟨hM.lo am (fun o p w => by unfold rd2 rdA spP at w; omega), h.gen (P := rd2) (fun o p z => am.at o p z) ⟨fun p => by unfold rd2 rdA spP; omega, by unfold rd2 rdA spP; omega⟩ ax (fun o p w => by unfold cp2 cpQ; omega) hX' ?_ ?_ h.2.2.2.1 h.2.2.2.2.1 h.2.2.2.2.2.1 ?_ ⟨g, hg1, ?_⟩⟩
  · rw [am.at _ _ (by unfold rd2 rdA spP; omega)]; exact h.2.1
  · rw [ax.i _ _ (by unfold cp2 cpQ; omega)]; exact h.2.2.1
  · exact hRS.gen (P := rd2) (Q := cp2) (fun o p z => am.at o p z) (fun o p z => ax.i o p z) (Or.inr (by unfold rd2 rdA spP cp2 cpQ; omega)) (Or.inl h8) (Or.inl h6) ⟨fun p => by unfold rd2 rdA spP; omega, fun p => by unfold cp2 cpQ; omega⟩ (Or.inl ⟨0, by omega, h20, h13, by omega⟩) (Or.inr ⟨by unfold rd2 rdA spP; omega, fun p => by unfold rd2 rdA spP; omega, by unfold cp2 cpQ; omega, fun p => by unfold cp2 cpQ; omega⟩) (fun p => by unfold rd2 rdA spP; omega)
  · rw [ax.i _ _ (by unfold cp2 cpQ; omega)]; exact hg2
end MK2
