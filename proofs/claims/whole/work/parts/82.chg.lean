/-! ===== what a call changes; granted, refused ===== -/
def MS0 (σ : DD) (K : Nat → Int32) (L : List RD) : Prop := MK σ K ∧ KB σ ∧ KI K ∧ MLg σ L ∧ LI K L
def RSX (m x : DD) : Prop :=
  (gI x 0 12 = gI m 0 6 ∧ gI x 30 8 = gI m 0 14 ∧ gI x 60 6 = gI m 0 44)
  ∧ (gI x 11 0 = gI m 3 1 ∧ gI x 11 1 = gI m 3 2 ∧ gI x 11 2 = gI m 3 3 ∧ gI x 11 3 = gI m 3 5 ∧ gI x 11 4 = gI m 3 6)
  ∧ (∃ sz, sz ≤ 400 ∧ gI x 20 1 = nI sz ∧ gI m 0 13 = nI sz ∧ ∀ i, i < sz → ∃ b, b < 256 ∧ gI x 21 i = nI b ∧ gI m 12 i = i2b (nI b))
  ∧ (∃ dm, dm ≤ 8 ∧ gI x 110 2 = nI dm ∧ gI m 0 55 = nI dm ∧ ∀ a, a < dm → gI x 114 a = gI m 54 a ∧ gI x 115 a = gI m 55 a)
  ∧ (∀ r, r < 4 → gI m 40 r = 0) ∧ ∀ i, i < 129 → gI m 8 i = nI (wL.getD i 0)
theorem RST.x {m x : DD} (h : RST m x) : RSX m x := ⟨⟨h.1.2.1, h.1.2.2.1, h.1.2.2.2⟩, h.2⟩
theorem RSX.s {m x : DD} (h : RSX m x) (e : gI x 0 11 = gI m 0 0) : RST m x := ⟨⟨e, h.1.1, h.1.2.1, h.1.2.2⟩, h.2⟩
def pr2 (o p : Nat) : Prop := o = 3 ∨ o = 40 ∨ o = 8 ∨ o = 12 ∨ o = 54 ∨ o = 55 ∨ (o = 0 ∧ (p = 6 ∨ p = 13 ∨ p = 14 ∨ p = 44 ∨ p = 55))
def xr2 (o p : Nat) : Prop := (o = 0 ∧ p = 12) ∨ (o = 30 ∧ p = 8) ∨ (o = 60 ∧ p = 6) ∨ o = 11 ∨ (o = 20 ∧ p = 1) ∨ o = 21 ∨ (o = 110 ∧ p = 2) ∨ o = 114 ∨ o = 115
def INB (T : TXT) (m x : DD) (n G : Nat) (K : Nat → Int32) (L : List RD) (d : Nat) : Prop := XS x T K L ∧ gI m 4 395 = nI d ∧ gI x 208 0 = nI d ∧ d ≤ 999 ∧ (∀ y, y ∈ L → y.2.2 ≤ d) ∧ L.length ≤ 24 ∧ RSX m x ∧ IMG m x T 0 230 ∧ IMG m x T 1 260 ∧ (∃ v, v ≤ n ∧ gI m 0 1 = nI v) ∧ ∃ g, g ≤ G ∧ gI x 50 5 = nI g
def isRef (k : Int32) : Prop := k = -1 ∨ k = -2 ∨ k = -3 ∨ k = -5 ∨ k = -6
def gdM (m : DD) : DD := sI (sI m 0 0 0) 0 1 (gI (sI m 0 0 0) 0 1 + 1)
def rfM (m : DD) (k : Int32) : DD := sI (sI m 0 0 k) 3 (-k).toNatClampNeg (gI (sI m 0 0 k) 3 (-k).toNatClampNeg + 1)
def plc (k : Int32) : Int32 := if k ≤ -5 then (-k) - 2 else (-k) - 1
def rfX (x : DD) (k : Int32) : DD := sI (sI x 0 11 k) 11 (plc k).toNatClampNeg (gI (sI x 0 11 k) 11 (plc k).toNatClampNeg + 1)
def chX (o p : Nat) : Prop := scrX o p ∨ (o = 50 ∧ p = 5) ∨ (200 ≤ o ∧ o < 230)
section CH
variable {m x m' x' : DD} {T : TXT} {n G : Nat} {K : Nat → Int32} {L : List RD} {d : Nat}
theorem RSX.fr (h : RSX m x) (hm : ∀ o p, pr2 o p → gI m' o p = gI m o p) (hx : ∀ o p, xr2 o p → gI x' o p = gI x o p) : RSX m' x' := by
  obtain ⟨⟨h2, h3, h4⟩, ⟨r1, r2, r3, r4, r5⟩, ⟨sz, t1, t2, t3, t4⟩, ⟨dm, d1, d2, d3, d4⟩, s0, w0⟩ := h
  refine ⟨⟨?_, ?_, ?_⟩, ⟨?_, ?_, ?_, ?_, ?_⟩, ⟨sz, t1, ?_, ?_, ?_⟩, ⟨dm, d1, ?_, ?_, ?_⟩, ?_, ?_⟩
  · rw [hx 0 12 (by unfold xr2; omega), hm 0 6 (by unfold pr2; omega)]; exact h2
  · rw [hx 30 8 (by unfold xr2; omega), hm 0 14 (by unfold pr2; omega)]; exact h3
  · rw [hx 60 6 (by unfold xr2; omega), hm 0 44 (by unfold pr2; omega)]; exact h4
  · rw [hx 11 0 (by unfold xr2; omega), hm 3 1 (by unfold pr2; omega)]; exact r1
  · rw [hx 11 1 (by unfold xr2; omega), hm 3 2 (by unfold pr2; omega)]; exact r2
  · rw [hx 11 2 (by unfold xr2; omega), hm 3 3 (by unfold pr2; omega)]; exact r3
  · rw [hx 11 3 (by unfold xr2; omega), hm 3 5 (by unfold pr2; omega)]; exact r4
  · rw [hx 11 4 (by unfold xr2; omega), hm 3 6 (by unfold pr2; omega)]; exact r5
  · rw [hx 20 1 (by unfold xr2; omega)]; exact t2
  · rw [hm 0 13 (by unfold pr2; omega)]; exact t3
  · intro i hi; rw [hx 21 i (by unfold xr2; omega), hm 12 i (by unfold pr2; omega)]; exact t4 i hi
  · rw [hx 110 2 (by unfold xr2; omega)]; exact d2
  · rw [hm 0 55 (by unfold pr2; omega)]; exact d3
  · intro a ha; rw [hx 114 a (by unfold xr2; omega), hx 115 a (by unfold xr2; omega), hm 54 a (by unfold pr2; omega), hm 55 a (by unfold pr2; omega)]; exact d4 a ha
  · intro r hr; rw [hm 40 r (by unfold pr2; omega)]; exact s0 r hr
  · intro i hi; rw [hm 8 i (by unfold pr2; omega)]; exact w0 i hi
theorem XS.lo (h : XS x T K L) {P : Nat → Nat → Prop} {Q : Nat → Prop} (a : AgX P Q x x') (hp : ∀ o k, P o k → o < 200 ∧ ¬ (o = 50 ∧ k = 5) ∧ ¬ o = 54 ∧ ¬ o = 55) : XS x' T K L := by
  refine ⟨h.1.ag2 a ?_ ?_ ?_ ?_, h.2.1.ag a ?_, h.2.2⟩
  · intro o k z; have := hp o k z; unfold logP; omega
  · intro z; have := hp _ _ z; omega
  · intro k z; have := hp _ _ z; omega
  · intro k z; have := hp _ _ z; omega
  · intro o k z w; have := hp o k w; omega
theorem MS.lo (h : MS m K L) {P : Nat → Nat → Prop} (a : Ag P m m') (hp : ∀ o p, P o p → ¬ o = 4 ∧ ¬ o = 29 ∧ ¬ (o = 0 ∧ (p = 1 ∨ p = 29))) : MS m' K L := by
  have h4 : ∀ p, ¬ P 4 p := fun p z => (hp _ _ z).1 rfl
  refine ⟨⟨h.1.1.ag a h4, h.1.2.ag a (fun p z => (hp _ _ z).2.1 rfl) ?_ ?_⟩, h.2.1, h.2.2.1.ag a h4, h.2.2.2⟩
  · intro z; have := hp _ _ z; omega
  · intro z; have := hp _ _ z; omega
theorem MS.z (h : MS m K L) : MS0 m K L := ⟨h.1.1, h.1.2.1, h.2⟩
theorem INV.b (h : INV T m x n) : ∃ K L d, MS m K L ∧ INB T m x n (n + 1) K L d ∧ gI x 0 11 = gI m 0 0 := by
  obtain ⟨K, L, d, hM, hX, h1, h2, h3, h4, h5, h6, h7, h8, h9, h10⟩ := h
  exact ⟨K, L, d, hM, ⟨hX, h1, h2, h3, h4, h5, h6.x, h7, h8, h9, h10⟩, h6.1.1⟩
theorem INB.inv (hM : MS m K L) (h : INB T m x n (n + 1) K L d) (e : gI x 0 11 = gI m 0 0) : INV T m x n := by
  obtain ⟨hX, h1, h2, h3, h4, h5, h6, h7, h8, h9, h10⟩ := h
  exact ⟨K, L, d, hM, hX, h1, h2, h3, h4, h5, h6.s e, h7, h8, h9, h10⟩
theorem INV.mono (h : INV T m x n) : INV T m x (n + 1) := by
  obtain ⟨K, L, d, hM, hX, h1, h2, h3, h4, h5, h6, h7, h8, ⟨v, g1, g2⟩, ⟨g, f1, f2⟩⟩ := h
  exact ⟨K, L, d, hM, hX, h1, h2, h3, h4, h5, h6, h7, h8, ⟨v, by omega, g2⟩, ⟨g, by omega, f2⟩⟩
theorem INB.mono (h : INB T m x n G K L d) {n' G' : Nat} (hn : n ≤ n') (hG : G ≤ G') : INB T m x n' G' K L d := by
  obtain ⟨hX, h1, h2, h3, h4, h5, h6, h7, h8, ⟨v, g1, g2⟩, ⟨g, f1, f2⟩⟩ := h
  exact ⟨hX, h1, h2, h3, h4, h5, h6, h7, h8, ⟨v, by omega, g2⟩, ⟨g, by omega, f2⟩⟩
theorem INB.fr (h : INB T m x n G K L d) (pm : PM m m') (ax : AgX scrX scrL x x') (hX' : XS x' T K L) : INB T m' x' n G K L d := by
  obtain ⟨hX, h1, h2, h3, h4, h5, h6, h7, h8, ⟨v, g1, g2⟩, ⟨g, f1, f2⟩⟩ := h
  have h5' : ∀ p, gI m' 5 p = gI m 5 p := fun p => pm 5 p (by unfold pers; omega)
  have h6' : ∀ p, gI m' 6 p = gI m 6 p := fun p => pm 6 p (by unfold pers; omega)
  refine ⟨hX', ?_, ?_, h3, h4, h5, h6.fr ?_ ?_, h7.q (Or.inl rfl) h5' h6' ax (by intro o p h; unfold scrX; omega), h8.q (Or.inr rfl) h5' h6' ax (by intro o p h; unfold scrX; omega), ⟨v, g1, ?_⟩, ⟨g, f1, ?_⟩⟩
  · rw [pm 4 395 (by unfold pers; omega)]; exact h1
  · rw [ax.i 208 0 (by unfold scrX; omega)]; exact h2
  · intro o p z; exact pm o p (by unfold pr2 at z; unfold pers; omega)
  · intro o p z; exact ax.i o p (by unfold xr2 at z; unfold scrX; omega)
  · rw [pm 0 1 (by unfold pers; omega)]; exact g2
  · rw [ax.i 50 5 (by unfold scrX; omega)]; exact f2
/-- the realm has changed -/
theorem INB.ch {K' : Nat → Int32} {L' : List RD} {d' G' : Nat} (h : INB T m x n G K L d) (pm : ∀ o p, pers o p → ¬ o = 4 → gI m' o p = gI m o p) (ax : AgX chX scrL x x') (hX' : XS x' T K' L') (h1 : gI m' 4 395 = nI d') (h2 : gI x' 208 0 = nI d') (h3 : d' ≤ 999) (h4 : ∀ y, y ∈ L' → y.2.2 ≤ d') (h5 : L'.length ≤ 24) (hg : ∃ g, g ≤ G' ∧ gI x' 50 5 = nI g) : INB T m' x' n G' K' L' d' := by
  obtain ⟨-, -, -, -, -, -, h6, h7, h8, ⟨v, g1, g2⟩, -⟩ := h
  have h5' : ∀ p, gI m' 5 p = gI m 5 p := fun p => pm 5 p (by unfold pers; omega) (by omega)
  have h6' : ∀ p, gI m' 6 p = gI m 6 p := fun p => pm 6 p (by unfold pers; omega) (by omega)
  refine ⟨hX', h1, h2, h3, h4, h5, h6.fr ?_ ?_, h7.q (Or.inl rfl) h5' h6' ax (by intro o p h; unfold chX scrX; omega), h8.q (Or.inr rfl) h5' h6' ax (by intro o p h; unfold chX scrX; omega), ⟨v, g1, ?_⟩, hg⟩
  · intro o p z; exact pm o p (by unfold pr2 at z; unfold pers; omega) (by unfold pr2 at z; omega)
  · intro o p z; exact ax.i o p (by unfold xr2 at z; unfold chX scrX; omega)
  · rw [pm 0 1 (by unfold pers; omega) (by omega)]; exact g2
/-- places that only the status and such are at -/
theorem INB.lo (h : INB T m x n G K L d) {P : Nat → Nat → Prop} {P2 : Nat → Nat → Prop} {Q : Nat → Prop} (am : Ag P m m') (hm : ∀ o p, P o p → ¬ o = 4 ∧ ¬ o = 5 ∧ ¬ o = 6 ∧ ¬ (o = 0 ∧ p = 1)) (ax : AgX P2 Q x x') (hx : ∀ o p, P2 o p → o < 200 ∧ ¬ (o = 50 ∧ p = 5) ∧ ¬ o = 54 ∧ ¬ o = 55) (hr : RSX m' x') : INB T m' x' n G K L d := by
  obtain ⟨hX, h1, h2, h3, h4, h5, h6, h7, h8, ⟨v, g1, g2⟩, ⟨g, f1, f2⟩⟩ := h
  have h5' : ∀ p, gI m' 5 p = gI m 5 p := fun p => am.at 5 p (fun z => (hm _ _ z).2.1 rfl)
  have h6' : ∀ p, gI m' 6 p = gI m 6 p := fun p => am.at 6 p (fun z => (hm _ _ z).2.2.1 rfl)
  have hx2 : ∀ o p, 200 ≤ o → ¬ P2 o p := fun o p q z => by have := hx o p z; omega
  refine ⟨hX.lo ax hx, ?_, ?_, h3, h4, h5, hr, h7.q (Or.inl rfl) h5' h6' ax (fun o p q => hx2 o p (by omega)), h8.q (Or.inr rfl) h5' h6' ax (fun o p q => hx2 o p (by omega)), ⟨v, g1, ?_⟩, ⟨g, f1, ?_⟩⟩
  · rw [am.at 4 395 (fun z => (hm _ _ z).1 rfl)]; exact h1
  · rw [ax.i 208 0 (hx2 _ _ (by omega))]; exact h2
  · rw [am.at 0 1 (fun z => (hm _ _ z).2.2.2 ⟨rfl, rfl⟩)]; exact g2
  · rw [ax.i 50 5 (fun z => (hx _ _ z).2.1 ⟨rfl, rfl⟩)]; exact f2
theorem MS0.good (h : MS0 m K L) {v : Nat} (hv : gI m 0 1 = nI v) (hn : v < 2 ^ 29) : MS (gdM m) K L ∧ gI (gdM m) 0 1 = nI (v + 1) := by
  obtain ⟨h1, ⟨w, e1, e2, e3⟩, h3, h4, h5⟩ := h
  have ev : w = v := by
    rw [hv] at e1; exact ((nI_eq (by omega) (by omega)).1 e1).symm
  subst ev
  have ag : Ag (fun o p => o = 0 ∧ (p = 0 ∨ p = 1)) m (gdM m) := (Ag.put (by omega)).set (by omega)
  have eV : gI (gdM m) 0 1 = nI (w + 1) := by
    unfold gdM
    rw [gI_same, gI_sI, if_neg (by omega), e1, nI_1]
  have e29 : gI (gdM m) 0 29 = gI m 0 29 := ag.at 0 29 (by omega)
  refine ⟨⟨⟨h1.ag ag (by omega), ⟨⟨w + 1, eV, by omega, ?_⟩, ?_⟩⟩, h3, h4.ag ag (by omega), h5⟩, eV⟩
  · rw [e29]
    rcases e3 with q | ⟨u, q1, q2⟩
    · exact Or.inl q
    · exact Or.inr ⟨u, by omega, q2⟩
  · intro q
    exfalso
    rw [e29, eV] at q
    rcases e3 with r | ⟨u, q1, q2⟩
    · rw [r] at q; exact nI_m1 (by omega) q.symm
    · rw [q2, nI_eq (by omega) (by omega)] at q; omega
/-- both grant it -/
theorem INB.good (hM : MS0 m K L) (h : INB T m x n (n + 2) K L d) (hn : n < 2 ^ 20) : INV T (gdM m) (sI x 0 11 0) (n + 1) := by
  obtain ⟨v, v1, v2⟩ := h.2.2.2.2.2.2.2.2.2.1
  obtain ⟨hM', eV⟩ := hM.good v2 (by omega)
  have ag : Ag (fun o p => o = 0 ∧ (p = 0 ∨ p = 1)) m (gdM m) := (Ag.put (by omega)).set (by omega)
  have ax : AgX (fun o p => o = 0 ∧ p = 11) (fun _ => False) x (sI x 0 11 0) := AgX.put (by omega)
  obtain ⟨hX, h1, h2, h3, h4, h5, h6, h7, h8, -, ⟨g, f1, f2⟩⟩ := h
  have h5' : ∀ p, gI (gdM m) 5 p = gI m 5 p := fun p => ag.at 5 p (by omega)
  have h6' : ∀ p, gI (gdM m) 6 p = gI m 6 p := fun p => ag.at 6 p (by omega)
  refine INB.inv hM' ⟨hX.lo ax (by omega), ?_, ?_, h3, h4, h5, h6.fr ?_ ?_, h7.q (Or.inl rfl) h5' h6' ax (by omega), h8.q (Or.inr rfl) h5' h6' ax (by omega), ⟨v + 1, by omega, eV⟩, ⟨g, by omega, ?_⟩⟩ ?_
  · rw [ag.at 4 395 (by omega)]; exact h1
  · rw [ax.i 208 0 (by omega)]; exact h2
  · intro o p z; exact ag.at o p (by unfold pr2 at z; omega)
  · intro o p z; exact ax.i o p (by unfold xr2 at z; omega)
  · rw [ax.i 50 5 (by omega)]; exact f2
  · rw [gI_same]; unfold gdM; rw [gI_sI, if_neg (by omega), gI_same]
theorem s_good {v : Int32} {post : Int32 → DD → Prop} (k : post v (gdM m)) : w_M_good m v post := by
  unfold w_M_good
  intro σ1 e1 σ3 e3
  subst e1; subst e3
  exact k
theorem s_granted {v : Int32} {post : Int32 → DD → Prop} (k : post v (sI x 0 11 0)) : w_Face_granted T x v post := by
  unfold w_Face_granted
  intro σ1 e1
  subst e1
  exact k
theorem s_refuses {k : Int32} {post : Int32 → DD → Prop} (hk : isRef k) (kk : post k (rfM m k)) : w_M_refuses m k post := by
  unfold w_M_refuses
  intro σ1 e1
  have hin : vp_in (-k) 7 := by
    rcases hk with h | h | h | h | h <;> subst h
    · exact vp_in_nI (n := 1) (by decide) (by decide)
    · exact vp_in_nI (n := 2) (by decide) (by decide)
    · exact vp_in_nI (n := 3) (by decide) (by decide)
    · exact vp_in_nI (n := 5) (by decide) (by decide)
    · exact vp_in_nI (n := 6) (by decide) (by decide)
  refine ⟨hin, hin, fun σ4 e4 => ?_⟩
  subst e1; subst e4
  exact kk
theorem s_refused {k : Int32} {post : Int32 → DD → Prop} (hk : isRef k) (kk : post k (rfX x k)) : w_Face_refused T x k post := by
  unfold w_Face_refused w_Face_refused_j22
  intro σ7 e7
  subst e7
  have hp : ¬ plc k < 0 ∧ ¬ 5 ≤ plc k ∧ vp_in (plc k) 5 := by
    rcases hk with h | h | h | h | h <;> subst h
    · exact ⟨by decide, by decide, vp_in_nI (n := 0) (by decide) (by decide)⟩
    · exact ⟨by decide, by decide, vp_in_nI (n := 1) (by decide) (by decide)⟩
    · exact ⟨by decide, by decide, vp_in_nI (n := 2) (by decide) (by decide)⟩
    · exact ⟨by decide, by decide, vp_in_nI (n := 3) (by decide) (by decide)⟩
    · exact ⟨by decide, by decide, vp_in_nI (n := 4) (by decide) (by decide)⟩
  refine ⟨fun q => ?_, fun q => ?_⟩
  · have e : plc k = (-k) - 2 := by unfold plc; rw [if_pos q]
    rw [← e]
    exact ⟨fun z => absurd z hp.1, fun _ => ⟨fun z => absurd z hp.2.1, fun _ => ⟨hp.2.2, hp.2.2, fun σ4 e4 => by subst e4; exact kk⟩⟩⟩
  · have e : plc k = (-k) - 1 := by unfold plc; rw [if_neg q]
    rw [← e]
    exact ⟨fun z => absurd z hp.1, fun _ => ⟨fun z => absurd z hp.2.1, fun _ => ⟨hp.2.2, hp.2.2, fun σ4 e4 => by subst e4; exact kk⟩⟩⟩
/-- both refuse it -/
theorem INB.ref (hM : MS m K L) (h : INB T m x n (n + 1) K L d) {k : Int32} (hk : isRef k) : INV T (rfM m k) (rfX x k) (n + 1) := by
  refine INV.mono ?_
  have ag : Ag (fun o p => (o = 0 ∧ p = 0) ∨ o = 3) m (rfM m k) := (Ag.put (by omega)).set (by omega)
  have ax : AgX (fun o p => (o = 0 ∧ p = 11) ∨ o = 11) (fun _ => False) x (rfX x k) := (AgX.put (by omega)).set (by omega)
  refine INB.inv (hM.lo ag (by omega)) (h.lo ag (by omega) ax (by omega) ?_) ?_
  · obtain ⟨q1, ⟨r1, r2, r3, r4, r5⟩, q3, q4, q5, q6⟩ := h.2.2.2.2.2.2.1
    have tm : ∀ o p, pr2 o p → ¬ o = 3 → gI (rfM m k) o p = gI m o p := fun o p z w => ag.at o p (by unfold pr2 at z; omega)
    have tx : ∀ o p, xr2 o p → ¬ o = 11 → gI (rfX x k) o p = gI x o p := fun o p z w => ax.i o p (by unfold xr2 at z; omega)
    have h3 : gI (rfX x k) 11 0 = gI (rfM m k) 3 1 ∧ gI (rfX x k) 11 1 = gI (rfM m k) 3 2 ∧ gI (rfX x k) 11 2 = gI (rfM m k) 3 3 ∧ gI (rfX x k) 11 3 = gI (rfM m k) 3 5 ∧ gI (rfX x k) 11 4 = gI (rfM m k) 3 6 := by
      unfold rfX rfM
      have e1 : (plc (-1)).toNatClampNeg = 0 := by decide
      have e2 : (plc (-2)).toNatClampNeg = 1 := by decide
      have e3 : (plc (-3)).toNatClampNeg = 2 := by decide
      have e4 : (plc (-5)).toNatClampNeg = 3 := by decide
      have e5 : (plc (-6)).toNatClampNeg = 4 := by decide
      have g1 : (- (-1 : Int32)).toNatClampNeg = 1 := by decide
      have g2 : (- (-2 : Int32)).toNatClampNeg = 2 := by decide
      have g3 : (- (-3 : Int32)).toNatClampNeg = 3 := by decide
      have g4 : (- (-5 : Int32)).toNatClampNeg = 5 := by decide
      have g5 : (- (-6 : Int32)).toNatClampNeg = 6 := by decide
      rcases hk with h | h | h | h | h <;> subst h <;> simp only [e1, e2, e3, e4, e5, g1, g2, g3, g4, g5, gI_sI] <;> simp [r1, r2, r3, r4, r5]
    refine ⟨?_, h3, ?_, ?_, ?_, ?_⟩
    · rw [tx 0 12 (by unfold xr2; omega) (by omega), tx 30 8 (by unfold xr2; omega) (by omega), tx 60 6 (by unfold xr2; omega) (by omega), tm 0 6 (by unfold pr2; omega) (by omega), tm 0 14 (by unfold pr2; omega) (by omega), tm 0 44 (by unfold pr2; omega) (by omega)]; exact q1
    · obtain ⟨sz, t1, t2, t3, t4⟩ := q3
      refine ⟨sz, t1, ?_, ?_, fun i hi => ?_⟩
      · rw [tx 20 1 (by unfold xr2; omega) (by omega)]; exact t2
      · rw [tm 0 13 (by unfold pr2; omega) (by omega)]; exact t3
      · rw [tx 21 i (by unfold xr2; omega) (by omega), tm 12 i (by unfold pr2; omega) (by omega)]; exact t4 i hi
    · obtain ⟨dm, d1, d2, d3, d4⟩ := q4
      refine ⟨dm, d1, ?_, ?_, fun a ha => ?_⟩
      · rw [tx 110 2 (by unfold xr2; omega) (by omega)]; exact d2
      · rw [tm 0 55 (by unfold pr2; omega) (by omega)]; exact d3
      · rw [tx 114 a (by unfold xr2; omega) (by omega), tx 115 a (by unfold xr2; omega) (by omega), tm 54 a (by unfold pr2; omega) (by omega), tm 55 a (by unfold pr2; omega) (by omega)]; exact d4 a ha
    · intro r hr; rw [tm 40 r (by unfold pr2; omega) (by omega)]; exact q5 r hr
    · intro i hi; rw [tm 8 i (by unfold pr2; omega) (by omega)]; exact q6 i hi
  · unfold rfX rfM
    rw [gI_sI, if_neg (by omega), gI_same, gI_sI, if_neg (by omega), gI_same]
end CH
