/-! ===== both at once ===== -/
def wL : List Nat := [108, 97, 115, 116, 115, 32, 116, 97, 107, 101, 115, 32, 98, 97, 114, 115, 32, 105, 102, 32, 111, 114, 32, 97, 110, 100, 32, 110, 111, 116, 32, 97, 99, 116, 32, 108, 101, 110, 103, 116, 104, 32, 116, 101, 114, 109, 32, 98, 105, 110, 100, 115, 32, 114, 101, 97, 100, 101, 114, 32, 99, 108, 97, 115, 115, 32, 119, 101, 101, 107, 100, 97, 121, 32, 109, 111, 111, 100, 32, 100, 97, 121, 32, 104, 101, 108, 100, 32, 100, 111, 110, 101, 32, 108, 97, 115, 116, 32, 115, 105, 110, 99, 101, 32, 118, 111, 105, 99, 101, 32, 114, 101, 97, 100, 32, 98, 121, 32, 119, 97, 105, 116, 32, 116, 105, 109, 101, 115, 32]
/-- status, mud, fault, where it stopped; how often refused; the tape; what was drawn; nothing spent; the words -/
def RST (m x : DD) : Prop :=
  (gI x 0 11 = gI m 0 0 ∧ gI x 0 12 = gI m 0 6 ∧ gI x 30 8 = gI m 0 14 ∧ gI x 60 6 = gI m 0 44)
  ∧ (gI x 11 0 = gI m 3 1 ∧ gI x 11 1 = gI m 3 2 ∧ gI x 11 2 = gI m 3 3 ∧ gI x 11 3 = gI m 3 5 ∧ gI x 11 4 = gI m 3 6)
  ∧ (∃ sz, sz ≤ 400 ∧ gI x 20 1 = nI sz ∧ gI m 0 13 = nI sz ∧ ∀ i, i < sz → ∃ b, b < 256 ∧ gI x 21 i = nI b ∧ gI m 12 i = i2b (nI b))
  ∧ (∃ dm, dm ≤ 8 ∧ gI x 110 2 = nI dm ∧ gI m 0 55 = nI dm ∧ ∀ a, a < dm → gI x 114 a = gI m 54 a ∧ gI x 115 a = gI m 55 a)
  ∧ (∀ r, r < 4 → gI m 40 r = 0) ∧ ∀ i, i < 129 → gI m 8 i = nI (wL.getD i 0)
/-- an image: none, or the same of both -/
def IMG (m x : DD) (T : TXT) (k b : Nat) : Prop := (gI m 6 k = 0 ∧ gR x 2 k = none) ∨ (gI m 6 k = 1 ∧ gR x 2 k = some b ∧ ∃ (K : Nat → Int32) (L : List RD) (d : Nat), KI K ∧ LI K L ∧ Srt L ∧ (∀ y, y ∈ L → y.2.2 ≤ d) ∧ d ≤ 999 ∧ L.length ≤ 24 ∧ (∀ p, ¬ dyn p → gI m 5 (6012 * k + p) = K p) ∧ gI m 5 (6012 * k + 395) = nI d ∧ gI m 5 (6012 * k + 401) = nI L.length ∧ (∀ i y, L[i]? = some y → gI m 5 (6012 * k + (111 + 3 * i)) = nI y.1 ∧ gI m 5 (6012 * k + (111 + 3 * i + 1)) = nI y.2.1 ∧ gI m 5 (6012 * k + (111 + 3 * i + 2)) = nI y.2.2) ∧ RXs x b T K ∧ RXd x b L ∧ gI x (b + 8) 0 = nI d)
/-- .. behind so many calls -/
def INV (T : TXT) (m x : DD) (n : Nat) : Prop := ∃ (K : Nat → Int32) (L : List RD) (d : Nat), MS m K L ∧ XS x T K L ∧ gI m 4 395 = nI d ∧ gI x 208 0 = nI d ∧ d ≤ 999 ∧ (∀ y, y ∈ L → y.2.2 ≤ d) ∧ L.length ≤ 24 ∧ RST m x ∧ IMG m x T 0 230 ∧ IMG m x T 1 260 ∧ (∃ v, v ≤ n ∧ gI m 0 1 = nI v) ∧ ∃ g, g ≤ n + 1 ∧ gI x 50 5 = nI g
section IV
variable {m x m' x' : DD} {T : TXT} {n : Nat}
theorem RST.q (h : RST m x) (pm : PM m m') (ax : AgX scrX scrL x x') : RST m' x' := by
  obtain ⟨⟨h1, h2, h3, h4⟩, ⟨r1, r2, r3, r4, r5⟩, ⟨sz, t1, t2, t3, t4⟩, ⟨dm, d1, d2, d3, d4⟩, s0, w0⟩ := h
  have M : ∀ o p, pers o p → gI m' o p = gI m o p := pm
  have X : ∀ o p, ¬ scrX o p → gI x' o p = gI x o p := fun o p h => ax.i o p h
  refine ⟨⟨?_, ?_, ?_, ?_⟩, ⟨?_, ?_, ?_, ?_, ?_⟩, ⟨sz, t1, ?_, ?_, ?_⟩, ⟨dm, d1, ?_, ?_, ?_⟩, ?_, ?_⟩
  · rw [X 0 11 (by unfold scrX; omega), M 0 0 (by unfold pers; omega)]; exact h1
  · rw [X 0 12 (by unfold scrX; omega), M 0 6 (by unfold pers; omega)]; exact h2
  · rw [X 30 8 (by unfold scrX; omega), M 0 14 (by unfold pers; omega)]; exact h3
  · rw [X 60 6 (by unfold scrX; omega), M 0 44 (by unfold pers; omega)]; exact h4
  · rw [X 11 0 (by unfold scrX; omega), M 3 1 (by unfold pers; omega)]; exact r1
  · rw [X 11 1 (by unfold scrX; omega), M 3 2 (by unfold pers; omega)]; exact r2
  · rw [X 11 2 (by unfold scrX; omega), M 3 3 (by unfold pers; omega)]; exact r3
  · rw [X 11 3 (by unfold scrX; omega), M 3 5 (by unfold pers; omega)]; exact r4
  · rw [X 11 4 (by unfold scrX; omega), M 3 6 (by unfold pers; omega)]; exact r5
  · rw [X 20 1 (by unfold scrX; omega)]; exact t2
  · rw [M 0 13 (by unfold pers; omega)]; exact t3
  · intro i hi; rw [X 21 i (by unfold scrX; omega), M 12 i (by unfold pers; omega)]; exact t4 i hi
  · rw [X 110 2 (by unfold scrX; omega)]; exact d2
  · rw [M 0 55 (by unfold pers; omega)]; exact d3
  · intro a ha; rw [X 114 a (by unfold scrX; omega), X 115 a (by unfold scrX; omega), M 54 a (by unfold pers; omega), M 55 a (by unfold pers; omega)]; exact d4 a ha
  · intro r hr; rw [M 40 r (by unfold pers; omega)]; exact s0 r hr
  · intro i hi; rw [M 8 i (by unfold pers; omega)]; exact w0 i hi
theorem IMG.q {k b : Nat} (h : IMG m x T k b) (hb : b = 230 ∨ b = 260) (h5 : ∀ p, gI m' 5 p = gI m 5 p) (h6 : ∀ p, gI m' 6 p = gI m 6 p) {P : Nat → Nat → Prop} {Q : Nat → Prop} (ax : AgX P Q x x') (hp : ∀ o p, 230 ≤ o → ¬ P o p) : IMG m' x' T k b := by
  rcases h with ⟨x1, x2⟩ | ⟨x1, x2, K, L, d, y1, y2, y3, y4, y5, y6, y7, y8, y9, y10, y11, y12, y13⟩
  · left; exact ⟨by rw [h6]; exact x1, by rw [ax.r]; exact x2⟩
  · right
    refine ⟨by rw [h6]; exact x1, by rw [ax.r]; exact x2, K, L, d, y1, y2, y3, y4, y5, y6, ?_, ?_, ?_, ?_, ?_, ?_, ?_⟩
    · intro p hp'; rw [h5]; exact y7 p hp'
    · rw [h5]; exact y8
    · rw [h5]; exact y9
    · intro i y hy; rw [h5, h5, h5]; exact y10 i y hy
    · exact y11.ag ax (fun o k h => hp o k (by omega)) (by omega)
    · exact y12.ag ax (fun o k h => hp o k (by omega))
    · rw [ax.i _ _ (hp _ _ (by omega))]; exact y13
/-- a question leaves all as it was -/
theorem INV.q {K : Nat → Int32} {L : List RD} {d : Nat} (hX' : XS x' T K L) (hM' : MS m' K L) (pm : PM m m') (ax : AgX scrX scrL x x') (hm : gI m 4 395 = nI d) (hx : gI x 208 0 = nI d) (hd : d ≤ 999) (hLd : ∀ y, y ∈ L → y.2.2 ≤ d) (hL : L.length ≤ 24) (hr : RST m x) (i0 : IMG m x T 0 230) (i1 : IMG m x T 1 260) (hv : ∃ v, v ≤ n ∧ gI m 0 1 = nI v) (hg : ∃ g, g ≤ n + 1 ∧ gI x 50 5 = nI g) : INV T m' x' n := by
  have h5 : ∀ p, gI m' 5 p = gI m 5 p := fun p => pm 5 p (by unfold pers; omega)
  have h6 : ∀ p, gI m' 6 p = gI m 6 p := fun p => pm 6 p (by unfold pers; omega)
  refine ⟨K, L, d, hM', hX', ?_, ?_, hd, hLd, hL, hr.q pm ax, i0.q (Or.inl rfl) h5 h6 ax (by intro o p h; unfold scrX; omega), i1.q (Or.inr rfl) h5 h6 ax (by intro o p h; unfold scrX; omega), ?_, ?_⟩
  · rw [pm 4 395 (by unfold pers; omega)]; exact hm
  · rw [ax.i 208 0 (by unfold scrX; omega)]; exact hx
  · obtain ⟨v, h1, h2⟩ := hv; exact ⟨v, h1, by rw [pm 0 1 (by unfold pers; omega)]; exact h2⟩
  · obtain ⟨g, h1, h2⟩ := hg; exact ⟨g, h1, by rw [ax.i 50 5 (by unfold scrX; omega)]; exact h2⟩
theorem p_mornings {a1 a2 a3 a4 a5 : Int32} (h : INV T m x n) : w_Face_mornings T x a1 a2 a3 a4 a5 (fun r x' => w_M_mornings m a1 a2 a3 a4 a5 (fun r' m' => r = r' ∧ INV T m' x' n)) := by
  obtain ⟨K, L, d, hM, hX, h1, h2, h3, h4, h5, h6, h7, h8, h9, h10⟩ := h
  refine s_Xmornings hX h2 h3 h4 ?_
  intro x' ax hX'
  refine s_Mmornings hM h1 h3 h4 h5 ?_
  intro m' pm hM'
  exact ⟨rfl, INV.q hX' hM' pm ax h1 h2 h3 h4 h5 h6 h7 h8 h9 h10⟩
theorem p_game {a1 a2 a3 a4 a5 a6 : Int32} (h : INV T m x n) : w_Face_game T x a1 a2 a3 a4 a5 a6 (fun r x' => w_M_game m a1 a2 a3 a4 a5 a6 (fun r' m' => r = r' ∧ INV T m' x' n)) := by
  obtain ⟨K, L, d, hM, hX, h1, h2, h3, h4, h5, h6, h7, h8, h9, h10⟩ := h
  refine s_Xgame hX h2 h3 h4 ?_
  intro x' ax hX'
  refine s_Mgame hM h1 h3 h4 h5 ?_
  intro m' pm hM'
  exact ⟨rfl, INV.q hX' hM' pm ax h1 h2 h3 h4 h5 h6 h7 h8 h9 h10⟩
theorem p_throats {a1 a2 : Int32} (h : INV T m x n) : w_Face_throats T x a1 a2 (fun r x' => w_M_throats m a1 a2 (fun r' m' => r = r' ∧ INV T m' x' n)) := by
  obtain ⟨K, L, d, hM, hX, h1, h2, h3, h4, h5, h6, h7, h8, h9, h10⟩ := h
  refine s_Xthroats hX h2 h3 ?_
  intro x' ax hX'
  refine s_Mthroats hM h1 h3 h6.2.2.2.2.1 ?_
  intro m' pm hM'
  exact ⟨rfl, INV.q hX' hM' pm ax h1 h2 h3 h4 h5 h6 h7 h8 h9 h10⟩
theorem p_days {a1 a2 : Int32} (h : INV T m x n) : w_Face_days T x a1 a2 (fun r x' => w_M_days m a1 a2 (fun r' m' => r = r' ∧ INV T m' x' n)) := by
  obtain ⟨K, L, d, hM, hX, h1, h2, h3, h4, h5, h6, h7, h8, h9, h10⟩ := h
  refine s_Xdays hX ?_
  intro x' ax hX'
  refine s_Mdays hM ?_
  intro m' pm hM'
  exact ⟨rfl, INV.q hX' hM' pm ax h1 h2 h3 h4 h5 h6 h7 h8 h9 h10⟩
theorem p_dead (h : INV T m x n) : w_Face_dead T x (fun r x' => w_M_dead m (fun r' m' => r = r' ∧ INV T m' x' n)) := by
  obtain ⟨K, L, d, hM, hX, h1, h2, h3, h4, h5, h6, h7, h8, h9, h10⟩ := h
  refine s_Xdead hX h2 h3 ?_
  intro r hr x' ax hX'
  refine s_Mdead hM h1 h3 ?_
  intro r' hr' m' pm hM'
  exact ⟨isDead_uniq hr hr', INV.q hX' hM' pm ax h1 h2 h3 h4 h5 h6 h7 h8 h9 h10⟩
theorem p_likely {a1 a2 a3 : Int32} (h : INV T m x n) : w_Face_likely T x a1 a2 a3 (fun r x' => w_M_likely m a1 a2 a3 (fun r' m' => r = r' ∧ INV T m' x' n)) := by
  obtain ⟨K, L, d, hM, hX, h1, h2, h3, h4, h5, h6, h7, h8, h9, h10⟩ := h
  refine s_Xlikely hX h2 h3 ?_
  intro x' ax hX'
  refine s_Mlikely hM h1 h3 ?_
  intro m' pm hM'
  exact ⟨rfl, INV.q hX' hM' pm ax h1 h2 h3 h4 h5 h6 h7 h8 h9 h10⟩
theorem p_judge (h : INV T m x n) : w_Face_judge T x (fun r x' => w_M_judge m (fun r' m' => r = r' ∧ INV T m' x' n)) := by
  obtain ⟨K, L, d, hM, hX, h1, h2, h3, h4, h5, h6, h7, h8, h9, h10⟩ := h
  refine s_Xjudge hX ?_
  intro x' ax hX'
  refine s_Mjudge hM ?_
  intro m' pm hM'
  exact ⟨rfl, INV.q hX' hM' pm ax h1 h2 h3 h4 h5 h6 h7 h8 h9 h10⟩
theorem p_unwritten {a1 : Int32} (h : INV T m x n) : w_Face_unwritten T x a1 (fun r x' => w_M_unwritten m a1 (fun r' m' => r = r' ∧ INV T m' x' n)) := by
  obtain ⟨K, L, d, hM, hX, h1, h2, h3, h4, h5, h6, h7, h8, h9, h10⟩ := h
  refine s_Xunwritten hX h2 h3 ?_
  intro r hr x' ax hX'
  refine s_Munwritten hM h1 h3 h5 ?_
  intro r' hr' m' pm hM'
  exact ⟨isUn_uniq hr hr', INV.q hX' hM' pm ax h1 h2 h3 h4 h5 h6 h7 h8 h9 h10⟩
/-- what only tells -/
theorem p_mud (h : INV T m x n) : w_Face_mud T x (fun r x' => w_M_mud m (fun r' m' => r = r' ∧ INV T m' x' n)) := by
  have hr := h
  obtain ⟨K, L, d, -, -, -, -, -, -, -, h6, -⟩ := hr
  exact ⟨h6.1.2.1, h⟩
theorem p_fault (h : INV T m x n) : w_Face_fault T x (fun r x' => w_M_fault m (fun r' m' => r = r' ∧ INV T m' x' n)) := by
  have hr := h
  obtain ⟨K, L, d, -, -, -, -, -, -, -, h6, -⟩ := hr
  exact ⟨h6.1.2.2.1, h⟩
theorem p_stopped (h : INV T m x n) : w_Face_stopped T x (fun r x' => w_M_stopped m (fun r' m' => r = r' ∧ INV T m' x' n)) := by
  have hr := h
  obtain ⟨K, L, d, -, -, -, -, -, -, -, h6, -⟩ := hr
  exact ⟨h6.1.2.2.2, h⟩
theorem p_status (h : INV T m x n) : w_Face_status T x (fun r x' => w_M_status m (fun r' m' => r = r' ∧ INV T m' x' n)) := by
  have hr := h
  obtain ⟨K, L, d, -, -, -, -, -, -, -, h6, -⟩ := hr
  exact ⟨h6.1.1, h⟩
end IV
