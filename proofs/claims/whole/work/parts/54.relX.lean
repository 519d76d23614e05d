/-! ===== the class stands for the same ===== -/
def AgX (P : Nat → Nat → Prop) (Q : Nat → Prop) (σ τ : DD) : Prop := (∀ o k, ¬ P o k → gI τ o k = gI σ o k) ∧ (∀ o k, ¬ Q o → gL τ o k = gL σ o k) ∧ τ.2.2 = σ.2.2
theorem AgX.refl {P : Nat → Nat → Prop} {Q : Nat → Prop} (σ : DD) : AgX P Q σ σ := ⟨fun _ _ _ => rfl, fun _ _ _ => rfl, rfl⟩
theorem AgX.trans {P : Nat → Nat → Prop} {Q : Nat → Prop} {σ τ υ : DD} (h : AgX P Q σ τ) (g : AgX P Q τ υ) : AgX P Q σ υ := ⟨fun o k q => (g.1 o k q).trans (h.1 o k q), fun o k q => (g.2.1 o k q).trans (h.2.1 o k q), g.2.2.trans h.2.2⟩
theorem AgX.set {P : Nat → Nat → Prop} {Q : Nat → Prop} {σ τ : DD} {o k : Nat} {v : Int32} (h : AgX P Q σ τ) (p : P o k) : AgX P Q σ (sI τ o k v) := ⟨fun a b q => by
  rw [gI_sI, if_neg (fun e => q (by rw [e.1, e.2]; exact p))]; exact h.1 a b q, h.2⟩
theorem AgX.put {P : Nat → Nat → Prop} {Q : Nat → Prop} {σ : DD} {o k : Nat} {v : Int32} (p : P o k) : AgX P Q σ (sI σ o k v) := (AgX.refl σ).set p
theorem AgX.i {P : Nat → Nat → Prop} {Q : Nat → Prop} {σ τ : DD} (h : AgX P Q σ τ) (o k : Nat) (q : ¬ P o k) : gI τ o k = gI σ o k := h.1 o k q
theorem AgX.r {P : Nat → Nat → Prop} {Q : Nat → Prop} {σ τ : DD} (h : AgX P Q σ τ) (o k : Nat) : gR τ o k = gR σ o k := by unfold gR; rw [h.2.2]
theorem AgX.row {P : Nat → Nat → Prop} {Q : Nat → Prop} {σ τ : DD} (h : AgX P Q σ τ) (o : Nat) (q : ∀ k, ¬ P o k) : gI τ o = gI σ o := funext (fun k => h.1 o k (q k))
theorem AgX.mono {P P' : Nat → Nat → Prop} {Q Q' : Nat → Prop} {σ τ : DD} (h : AgX P Q σ τ) (p : ∀ o k, P o k → P' o k) (q : ∀ o, Q o → Q' o) : AgX P' Q' σ τ := ⟨fun o k z => h.1 o k (fun w => z (p o k w)), fun o k z => h.2.1 o k (fun w => z (q o w)), h.2.2⟩
theorem AgS.x {P : Nat → Nat → Prop} {Q : Nat → Prop} {q d : Nat} {σ τ : DD} (h : AgS q d σ τ) (hq : Q q) : AgX P Q σ τ := ⟨fun o k _ => h.i o k, fun o k z => h.2.2 o k (fun w => z (by rw [w.1]; exact hq)), h.2.1⟩
def kX (h : Int32) : Int32 := if h = 22 then 0 else if h = 24 then 1 else h - 1
/-- a text of the class says these clauses -/
def TxtOK (σ : DD) (T : TXT) (t : Nat) (o : Bool) (cl : List CLS) : Prop := ∃ m1 m2, T t = some (m1, m2) ∧ m1 ≤ 400 ∧ m2 = 6 * cl.length ∧ cl.length ≤ 12 ∧ gI σ t 0 = nI cl.length ∧ ∀ c x, cl[c]? = some x → ∃ p0 p1 p2 p3, gI σ (t + 4) (6 * c) = nI p0 ∧ gI σ (t + 4) (6 * c + 1) = nI p1 ∧ gI σ (t + 4) (6 * c + 2) = nI p2 ∧ gI σ (t + 4) (6 * c + 3) = nI p3 ∧ p0 ≤ p1 ∧ p1 ≤ p2 ∧ p2 ≤ p3 ∧ p3 ≤ m1 ∧ gI σ (t + 4) (6 * c + 4) = kX x.1 ∧ gI σ (t + 4) (6 * c + 5) = x.2.2.2.1 ∧ Sec (gI σ (t + 3)) p0 p1 (if o then 16 else 8) x.2.1 ∧ Sec (gI σ (t + 3)) p1 p2 (if o then 16 else 8) x.2.2.1 ∧ Sec (gI σ (t + 3)) p2 p3 (if o then 16 else 8) (tD x.2.2.2.2)
theorem TxtOK.ag {P : Nat → Nat → Prop} {Q : Nat → Prop} {σ τ : DD} {T : TXT} {t : Nat} {o : Bool} {cl : List CLS} (h : TxtOK σ T t o cl) (a : AgX P Q σ τ) (h0 : ∀ k, ¬ P t k) (h3 : ∀ k, ¬ P (t + 3) k) (h4 : ∀ k, ¬ P (t + 4) k) : TxtOK τ T t o cl := by
  unfold TxtOK
  rw [a.row t h0, a.row (t + 3) h3, a.row (t + 4) h4]
  exact h
/-- the realm at base b, what stands still -/
def RXs (σ : DD) (b : Nat) (T : TXT) (K : Nat → Int32) : Prop :=
  gI σ b 0 = K 399 ∧ gI σ b 3 = K 400 ∧ gI σ b 12 = K 402 ∧ gI σ b 17 = K 403 ∧ gI σ b 19 = K 404
  ∧ (∀ a j, a < nA K → j < 4 → gI σ (b + 2) (4 * a + j) = K (4 * a + j))
  ∧ (∀ a, a < 8 → gI σ (b + 3) a = bits (gsy K a) 8)
  ∧ (∀ r, r < nR K → gI σ (b + 5) r = K (96 + 2 * r) ∧ gI σ (b + 6) r = K (96 + 2 * r + 1))
  ∧ (∀ w, w < 7 → gI σ (b + 7) w = K (104 + w))
  ∧ (gI σ (b + 8) 1 = K 396 ∧ gI σ (b + 8) 2 = K 397 ∧ gI σ (b + 8) 3 = K 398)
  ∧ (∀ i, i < nF K → gI σ (b + 14) i = K (363 + 4 * i) ∧ gI σ (b + 15) i = K (363 + 4 * i + 1) ∧ gI σ (b + 16) i = K (363 + 4 * i + 2) ∧ gI σ (b + 17) i = K (363 + 4 * i + 3))
  ∧ ∀ f, f < nLw K → ∃ t, 300 ≤ t ∧ gR σ (b + 19) f = some t ∧ TxtOK σ T t false (clsOf K f)
/-- .. what goes on -/
def RXd (σ : DD) (b : Nat) (L : List RD) : Prop := gI σ b 8 = nI L.length ∧ L.length ≤ 84 ∧ ∀ i x, L[i]? = some x → gI σ (b + 10) i = nI x.1 ∧ gI σ (b + 11) i = nI x.2.1 ∧ gI σ (b + 12) i = nI x.2.2
def pack (K : Nat → Int32) (a r w : Nat) : Int32 := ans K 1 a r w ||| jshl (ans K 2 a r w) 7 ||| jshl (bl (barN K a r w)) 14
def cx (a r w : Nat) : Nat := 28 * a + 7 * r + w
/-- the court's answers -/
def CX (σ : DD) (K : Nat → Int32) : Prop := ∃ n, 1 ≤ n ∧ n < 2 ^ 30 ∧ gI σ 50 5 = nI n ∧ ∀ a r w, a < 8 → r < 4 → w < 7 → ∃ m, m ≤ n ∧ gI σ 55 (cx a r w) = nI m ∧ (m = n → a < nA K ∧ r < nR K ∧ gI σ 54 (cx a r w) = pack K a r w)
def xq (o _k : Nat) : Prop := o = 52 ∨ o = 54 ∨ o = 55
def xl (o : Nat) : Prop := o = 53
def XQ (σ : DD) (T : TXT) (K : Nat → Int32) : Prop := RXs σ 200 T K ∧ CX σ K ∧ KI K
section RX
variable {σ τ : DD} {T : TXT} {K : Nat → Int32} {L : List RD}
theorem RXs.ag {P : Nat → Nat → Prop} {Q : Nat → Prop} {b : Nat} (h : RXs σ b T K) (a : AgX P Q σ τ) (hb : ∀ o k, b ≤ o → ¬ P o k) (hb3 : b ≤ 300) : RXs τ b T K := by
  unfold RXs at h ⊢
  simp only [a.row b (fun k => hb _ k (by omega)), a.row (b + 2) (fun k => hb _ k (by omega)), a.row (b + 3) (fun k => hb _ k (by omega)), a.row (b + 5) (fun k => hb _ k (by omega)), a.row (b + 6) (fun k => hb _ k (by omega)), a.row (b + 7) (fun k => hb _ k (by omega)), a.row (b + 8) (fun k => hb _ k (by omega)), a.row (b + 14) (fun k => hb _ k (by omega)), a.row (b + 15) (fun k => hb _ k (by omega)), a.row (b + 16) (fun k => hb _ k (by omega)), a.row (b + 17) (fun k => hb _ k (by omega)), a.r]
  obtain ⟨h1, h2, h3, h4, h5, h6, h7, h8, h9, h10, h11, h12⟩ := h
  refine ⟨h1, h2, h3, h4, h5, h6, h7, h8, h9, h10, h11, ?_⟩
  intro f hf
  obtain ⟨t, ht, hr, hx⟩ := h12 f hf
  exact ⟨t, ht, hr, hx.ag a (fun k => hb _ k (by omega)) (fun k => hb _ k (by omega)) (fun k => hb _ k (by omega))⟩
theorem RXd.ag {P : Nat → Nat → Prop} {Q : Nat → Prop} {b : Nat} (h : RXd σ b L) (a : AgX P Q σ τ) (hb : ∀ o k, b ≤ o → ¬ P o k) : RXd τ b L := by
  unfold RXd at h ⊢
  simp only [a.row b (fun k => hb _ k (by omega)), a.row (b + 10) (fun k => hb _ k (by omega)), a.row (b + 11) (fun k => hb _ k (by omega)), a.row (b + 12) (fun k => hb _ k (by omega))]
  exact h
theorem xq200 {b : Nat} (hb : 200 ≤ b) : ∀ o k, b ≤ o → ¬ xq o k := by intro o k h; unfold xq; omega
/-- three numbers in one -/
theorem pack_n {x y : Nat} {z : Bool} (hx : x ≤ 99) (hy : y ≤ 99) : nI x ||| jshl (nI y) 7 ||| jshl (bl z) 14 = nI (16384 * (if z then 1 else 0) + (128 * y + x)) := by
  have e7 : jshl (nI y) 7 = nI (128 * y) := by
    have := jshl_n (n := y) (k := 7) (by decide) (by omega)
    rw [show (7 : Int32) = nI 7 from rfl, this]; congr 1; omega
  have e14 : jshl (bl z) 14 = nI (16384 * (if z then 1 else 0)) := by cases z <;> decide
  rw [e7, e14, nI_or, nI_or]
  congr 1
  have h1 : 128 * y + x = 128 * y ||| x := Nat.two_pow_add_eq_or_of_lt (i := 7) (by omega) y
  have h2 : 16384 * (if z then 1 else 0) + (128 * y + x) = 16384 * (if z then 1 else 0) ||| (128 * y + x) := Nat.two_pow_add_eq_or_of_lt (i := 14) (by omega) _
  rw [h2, h1, Nat.or_comm x, Nat.or_comm]
theorem pack_d {x y : Nat} {z : Bool} (hx : x ≤ 99) (hy : y ≤ 99) {p : Int32} (hp : p = nI x ||| jshl (nI y) 7 ||| jshl (bl z) 14) : p &&& 127 = nI x ∧ jshr p 7 &&& 127 = nI y ∧ (jshr p 14 = 0 ↔ z = false) := by
  rw [pack_n hx hy] at hp
  subst hp
  have e7 : jshr (nI (16384 * (if z then 1 else 0) + (128 * y + x))) 7 = nI ((16384 * (if z then 1 else 0) + (128 * y + x)) / 2 ^ 7) := by
    rw [show (7 : Int32) = nI 7 from rfl]; exact jshr_n (by decide) (by split <;> omega)
  have e14 : jshr (nI (16384 * (if z then 1 else 0) + (128 * y + x))) 14 = nI ((16384 * (if z then 1 else 0) + (128 * y + x)) / 2 ^ 14) := by
    rw [show (14 : Int32) = nI 14 from rfl]; exact jshr_n (by decide) (by split <;> omega)
  rw [e7, e14]
  refine ⟨?_, ?_, ?_⟩
  · rw [pk_andN (by split <;> omega) 7 (by decide)]; congr 1; split <;> omega
  · rw [pk_andN (by split <;> omega) 7 (by decide)]; congr 1; split <;> omega
  · have : (16384 * (if z then 1 else 0) + (128 * y + x)) / 2 ^ 14 = (if z then 1 else 0) := by split <;> omega
    rw [this]; cases z <;> decide
theorem pack_e (hI : KI K) {a r w : Nat} (ha : a < nA K) : pack K a r w &&& 127 = nI (lasN K a r w) ∧ jshr (pack K a r w) 7 &&& 127 = nI (takN K a r w) ∧ (jshr (pack K a r w) 14 = 0 ↔ barN K a r w = false) := by
  have h1 := lasN_e hI (r := r) (w := w) ha
  have h2 := takN_e hI (r := r) (w := w) ha
  refine pack_d h1.2 h2.2 ?_
  unfold pack
  rw [h1.1, h2.1]
end RX
