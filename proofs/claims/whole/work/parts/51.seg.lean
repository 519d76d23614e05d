/-! ===== the class's steps: a stretch of them says what a sum or a test says ===== -/
theorem Loop.step {α : Type} {F : (α → Prop) → α → Prop} {x y : α} (h : ∀ K : α → Prop, K y → F K x) (hy : Loop F y) : Loop F x := by
  obtain ⟨n, hn⟩ := hy; exact ⟨n + 1, h _ hn⟩
theorem Loop.stop {α : Type} {F : (α → Prop) → α → Prop} {x : α} (h : ∀ K : α → Prop, F K x) : Loop F x := ⟨1, h _⟩
/-- only longs of this row, from this place on, may be others -/
def AgS (q dep : Nat) (σ τ : DD) : Prop := τ.1 = σ.1 ∧ τ.2.2 = σ.2.2 ∧ ∀ o k, ¬ (o = q ∧ dep ≤ k) → gL τ o k = gL σ o k
theorem AgS.refl {q dep : Nat} (σ : DD) : AgS q dep σ σ := ⟨rfl, rfl, fun _ _ _ => rfl⟩
theorem AgS.trans {q d1 d2 : Nat} {σ τ υ : DD} (h : AgS q d1 σ τ) (g : AgS q d2 τ υ) (hd : d1 ≤ d2) : AgS q d1 σ υ := ⟨g.1.trans h.1, g.2.1.trans h.2.1, fun o k z => (g.2.2 o k (fun y => z ⟨y.1, by omega⟩)).trans (h.2.2 o k z)⟩
theorem AgS.put {q dep k : Nat} {σ : DD} {x : Int64} (hk : dep ≤ k) : AgS q dep σ (sL σ q k x) := ⟨rfl, rfl, fun o j z => by rw [gL_sL, if_neg (fun y => z ⟨y.1, by omega⟩)]⟩
theorem AgS.i {q dep : Nat} {σ τ : DD} (h : AgS q dep σ τ) (o k : Nat) : gI τ o k = gI σ o k := by unfold gI; rw [h.1]
/-- the loop of valueOf -/
abbrev VL (T : TXT) (o m1 m2 a3 n3 a4 : Nat) (to : Nat) (post : Int64 → DD → Prop) : DD × Int32 × Int32 → Prop := Loop (fun K x => w_Text_valueOf_b31 T o m1 m2 a3 n3 a4 50 (nI to) (fun σ a6 a7 => K (σ, a6, a7)) post x.1 x.2.1 x.2.2)
def VC (cd : Nat → Int32) (a b W : Nat) (o m1 a3 n3 to : Nat) (σ : DD) (e : Nat → Int64) : Prop := b ≤ to ∧ to ≤ m1 ∧ m1 ≤ 400 ∧ (∀ k, a ≤ k → k < b → gI σ (o + 3) k = cd k) ∧ W ≤ n3 ∧ n3 ≤ 16 ∧ ∀ j, j < W → i2l (gI σ a3 j) = e j
def Seg (cd : Nat → Int32) (a b n W : Nat) (D : DS) : Prop := a ≤ b ∧ ∀ (T : TXT) (o m1 m2 a3 n3 a4 to : Nat) (σ : DD) (e : Nat → Int64) (dep : Nat) (post : Int64 → DD → Prop), VC cd a b W o m1 a3 n3 to σ e → dep + n ≤ 50 → (D e = none → ∀ τ, AgS a4 dep σ τ → post (-4000000000) τ) → (∀ x τ, D e = some x → AgS a4 dep σ τ → gL τ a4 dep = x → VL T o m1 m2 a3 n3 a4 to post (τ, nI (dep + 1), nI b)) → VL T o m1 m2 a3 n3 a4 to post (σ, nI dep, nI a)
theorem VC.sub {cd : Nat → Int32} {a b a' b' W o m1 a3 n3 to : Nat} {σ : DD} {e : Nat → Int64} (h : VC cd a b W o m1 a3 n3 to σ e) (ha : a ≤ a') (hb : b' ≤ b) : VC cd a' b' W o m1 a3 n3 to σ e := ⟨by have := h.1; omega, h.2.1, h.2.2.1, fun k h1 h2 => h.2.2.2.1 k (by omega) (by omega), h.2.2.2.2⟩
theorem VC.ag {cd : Nat → Int32} {a b W o m1 a3 n3 to q d : Nat} {σ τ : DD} {e : Nat → Int64} (h : VC cd a b W o m1 a3 n3 to σ e) (g : AgS q d σ τ) : VC cd a b W o m1 a3 n3 to τ e := ⟨h.1, h.2.1, h.2.2.1, fun k h1 h2 => by rw [g.i]; exact h.2.2.2.1 k h1 h2, h.2.2.2.2.1, h.2.2.2.2.2.1, fun j hj => by rw [g.i]; exact h.2.2.2.2.2.2 j hj⟩
/-- what a number's or a word's step does -/
def v_push (T : TXT) (o m1 m2 a3 n3 a4 n4 : Nat) (K : DD → Int32 → Int32 → Prop) (post : Int64 → DD → Prop) (σ : DD) (a5 a6 a7 a8 a9 : Int32) : Prop := (¬ a8 = 0 → vp_in a9 n3 ∧ w_Text_valueOf_j175 T o m1 m2 a3 n3 a4 n4 K post σ a5 a6 a7 a6 (i2l (gI σ a3 a9.toNatClampNeg))) ∧ (a8 = 0 → w_Text_valueOf_j175 T o m1 m2 a3 n3 a4 n4 K post σ a5 a6 a7 a6 (i2l a9))
/-- what a step asks for is there -/
def v_has (dep n3 : Nat) (s p : Int32) : Prop := dep ≤ 50 ∧ ((s = 0 ∧ dep < 50) ∨ (s = 1 ∧ dep < 50 ∧ ∃ j, j < n3 ∧ p = nI j) ∨ (¬ s = 0 ∧ ¬ s = 1 ∧ ¬ 4 < s ∧ 1 ≤ dep) ∨ (4 < s ∧ 2 ≤ dep))
/-- one step, read -/
theorem v_at {cd : Nat → Int32} {a b W o m1 m2 a3 n3 a4 to dep : Nat} {T : TXT} {σ : DD} {e : Nat → Int64} {post : Int64 → DD → Prop} {K : DD → Int32 → Int32 → Prop} (h : VC cd a b W o m1 a3 n3 to σ e) (hab : a < b) (hq : v_has dep n3 (cd a &&& 15) (jshr (cd a) 4)) (k : ∀ s p, s = cd a &&& 15 → p = jshr (cd a) 4 → (s = 0 → v_push T o m1 m2 a3 n3 a4 50 K post σ (nI to) (nI dep) (nI a) s p) ∧ (¬ s = 0 → (¬ s = 1 → (¬ s = 2 → (s = 3 → w_Text_valueOf_j219 T o m1 m2 a3 n3 a4 50 K post σ (nI to) (nI dep) (nI a) s p) ∧ (¬ s = 3 → (¬ s = 4 → vp_in ((nI dep + (-1)) - 1) 50 ∧ ∀ v53, v53 = (gL σ a4 ((nI dep + (-1)) - 1).toNatClampNeg) → vp_in (nI dep + (-1)) 50 ∧ ∀ v56, v56 = (gL σ a4 (nI dep + (-1)).toNatClampNeg) → (¬ (lg_cmp v56 0) = 0 → w_Text_valueOf_j313 T o m1 m2 a3 n3 a4 50 K post σ (nI to) (nI dep + (-1)) (nI a) s v53 v56) ∧ ((lg_cmp v56 0) = 0 → (s = 8 → post (-4000000000) σ) ∧ (¬ s = 8 → (¬ s = 9 → w_Text_valueOf_j313 T o m1 m2 a3 n3 a4 50 K post σ (nI to) (nI dep + (-1)) (nI a) s v53 v56) ∧ (s = 9 → post (-4000000000) σ)))) ∧ (s = 4 → w_Text_valueOf_j219 T o m1 m2 a3 n3 a4 50 K post σ (nI to) (nI dep) (nI a) s p))) ∧ (s = 2 → vp_in (nI dep - 1) 50 ∧ vp_in (nI dep - 1) 50 ∧ ∀ σ62, σ62 = sL σ a4 ((nI dep - 1).toNatClampNeg) (1 - (gL σ a4 (nI dep - 1).toNatClampNeg)) → K σ62 (nI dep) (nI a + 1))) ∧ (s = 1 → v_push T o m1 m2 a3 n3 a4 50 K post σ (nI to) (nI dep) (nI a) s p))) : w_Text_valueOf_b31 T o m1 m2 a3 n3 a4 50 (nI to) K post σ (nI dep) (nI a) := by
  obtain ⟨h1, h2, h3, h4, -, hn16, -⟩ := h
  unfold w_Text_valueOf_b31
  rw [nI_leI (by omega) (by omega), nI_clamp (by omega), h4 a (Nat.le_refl _) hab]
  refine ⟨fun q => by omega, fun _ => ⟨vp_in_nI (by omega) (by omega), ?_⟩⟩
  intro s es
  refine ⟨vp_in_nI (by omega) (by omega), ?_⟩
  intro p ep
  obtain ⟨k0, k1⟩ := k s p es ep
  rw [← es, ← ep] at hq
  obtain ⟨hd, hq⟩ := hq
  have core : ∀ q : Int32, ¬ nI dep < q → (q = 0 → dep < 50) → (q = 0 → s = 0 ∨ s = 1) → (¬ q = 0 → ¬ s = 0 ∧ ¬ s = 1) → (s = 1 → ¬ Int32.ofNat n3 ≤ p) → w_Text_valueOf_j87 T o m1 m2 a3 n3 a4 50 K post σ (nI to) (nI dep) (nI a) s p q := by
    intro q g1 g3 g4 g5 g6
    have j125 : ∀ t0 : Int32, ¬ t0 < nI dep → w_Text_valueOf_j125 T o m1 m2 a3 n3 a4 50 K post σ (nI to) (nI dep) (nI a) s p q 1 t0 := by
      intro t0 ht
      unfold w_Text_valueOf_j125
      refine ⟨fun z => absurd z g1, fun _ => ⟨fun z => absurd z ht, fun _ => ⟨fun _ => ⟨fun z => (k1 (g5 z).1).1 (g5 z).2, fun z => ?_⟩, fun z => absurd z (by decide)⟩⟩⟩
      rcases g4 z with w | w
      · exact k0 w
      · exact (k1 (by rw [w]; decide)).2 w
    have j102 : w_Text_valueOf_j102 T o m1 m2 a3 n3 a4 50 K post σ (nI to) (nI dep) (nI a) s p q := by
      unfold w_Text_valueOf_j102 w_Text_valueOf_j107
      refine ⟨fun _ => j125 _ ?_, fun z => j125 _ ?_⟩
      · rw [show (Int32.ofNat 50) = nI 50 from rfl, nI_ltI (by decide) (by omega)]; omega
      · have := g3 z
        rw [show (Int32.ofNat 50) - 1 = nI 49 from rfl, nI_ltI (by decide) (by omega)]; omega
    unfold w_Text_valueOf_j87
    exact ⟨fun _ => j102, fun z => ⟨fun w => absurd w (g6 z), fun _ => j102⟩⟩
  rcases hq with ⟨q1, q2⟩ | ⟨q1, q2, j, q3, q4⟩ | ⟨q1, q2, q3, q4⟩ | ⟨q1, q2⟩
  · have c := core 0 (nI_pos (by omega)) (fun _ => q2) (fun _ => Or.inl q1) (fun z => absurd rfl z) (fun z => by rw [q1] at z; exact absurd z (by decide))
    exact ⟨fun _ => c, fun z => absurd q1 z⟩
  · have c := core 0 (nI_pos (by omega)) (fun _ => q2) (fun _ => Or.inr q1) (fun z => absurd rfl z) (fun _ => by rw [q4, show Int32.ofNat n3 = nI n3 from rfl, nI_leI (by omega) (by omega)]; omega)
    exact ⟨fun z => absurd q1 (by rw [z]; decide), fun _ => ⟨fun z => absurd q1 z, fun _ => c⟩⟩
  · have c := core 1 (by rw [show (1 : Int32) = nI 1 from rfl, nI_ltI (by omega) (by decide)]; omega) (fun z => absurd z (by decide)) (fun z => absurd z (by decide)) (fun _ => ⟨q1, q2⟩) (fun z => absurd z q2)
    exact ⟨fun z => absurd z q1, fun _ => ⟨fun _ => ⟨fun z => absurd z q3, fun _ => c⟩, fun z => absurd z q2⟩⟩
  · have n0 : ¬ s = 0 := fun z => by rw [z] at q1; exact absurd q1 (by decide)
    have n1 : ¬ s = 1 := fun z => by rw [z] at q1; exact absurd q1 (by decide)
    have c := core 2 (by rw [show (2 : Int32) = nI 2 from rfl, nI_ltI (by omega) (by decide)]; omega) (fun z => absurd z (by decide)) (fun z => absurd z (by decide)) (fun _ => ⟨n0, n1⟩) (fun z => absurd z n1)
    exact ⟨fun z => absurd z n0, fun _ => ⟨fun _ => ⟨fun _ => c, fun z => absurd q1 z⟩, fun z => absurd z n1⟩⟩
section SEG
variable {cd : Nat → Int32} {W : Nat}
theorem seg_leaf {a : Nat} {D : DS} (h : (cd a &&& 15 = 0 ∧ ∀ e, D e = some (i2l (jshr (cd a) 4))) ∨ (cd a &&& 15 = 1 ∧ ∃ j, j < W ∧ jshr (cd a) 4 = nI j ∧ ∀ e, D e = some (e j))) : Seg cd a (a + 1) 1 W D := by
  refine ⟨by omega, ?_⟩
  intro T o m1 m2 a3 n3 a4 to σ e dep post hv hd k0 k1
  have fin : ∀ x, D e = some x → VL T o m1 m2 a3 n3 a4 to post (sL σ a4 dep x, nI (dep + 1), nI (a + 1)) := fun x hx => k1 x _ hx (AgS.put (Nat.le_refl _)) (by rw [gL_sL, if_pos ⟨rfl, rfl⟩])
  rcases h with ⟨hs, hD⟩ | ⟨hs, j, hj, hp, hD⟩
  · refine Loop.step (y := (sL σ a4 dep (i2l (jshr (cd a) 4)), nI (dep + 1), nI (a + 1))) ?_ (fin _ (hD e))
    intro K hK
    refine v_at hv (by omega) ⟨by omega, Or.inl ⟨hs, by omega⟩⟩ ?_
    intro s p es ep
    rw [hs] at es
    subst es
    refine ⟨fun _ => ⟨fun z => absurd rfl z, fun _ => ?_⟩, fun z => absurd rfl z⟩
    unfold w_Text_valueOf_j175
    rw [nI_clamp (by omega), nI_1, nI_1, ep]
    exact ⟨vp_in_nI (by omega) (by decide), fun σ1 e1 => by rw [e1]; exact hK⟩
  · refine Loop.step (y := (sL σ a4 dep (e j), nI (dep + 1), nI (a + 1))) ?_ (fin _ (hD e))
    intro K hK
    refine v_at hv (by omega) ⟨by omega, Or.inr (Or.inl ⟨hs, by omega, j, by have := hv.2.2.2.2.1; omega, hp⟩)⟩ ?_
    intro s p es ep
    rw [hs] at es
    subst es
    obtain ⟨h1, h2, h3, h4, h5, h6, h7⟩ := hv
    refine ⟨fun z => absurd z (by decide), fun _ => ⟨fun z => absurd rfl z, fun _ => ⟨fun _ => ?_, fun z => absurd z (by decide)⟩⟩⟩
    unfold w_Text_valueOf_j175
    rw [ep, hp]
    show vp_in (nI j) n3 ∧ vp_in (nI dep) 50 ∧ ∀ σ1, σ1 = sL σ a4 (nI dep).toNatClampNeg (i2l (gI σ a3 (nI j).toNatClampNeg)) → K (σ1, nI dep + 1, nI a + 1)
    rw [nI_clamp (n := j) (by omega), h7 j hj, nI_clamp (n := dep) (by omega), nI_1, nI_1]
    exact ⟨vp_in_nI (by omega) (by omega), vp_in_nI (by omega) (by decide), fun σ1 e1 => by rw [e1]; exact hK⟩
/-- what a step with two numbers makes of them -/
def fX (s : Int32) (x y : Int64) : Option Int64 := if (s = 8 ∨ s = 9) ∧ y = 0 then none else bnd (if s = 5 then x + y else if s = 6 then x - y else if s = 7 then x * y else if s = 8 then x / y else if s = 9 then jlrem x y else if s = 10 then (if x < y then 1 else 0) else if s = 11 then (if y < x then 1 else 0) else (if x = y then 1 else 0))
theorem seg_bin {a b c n1 n2 : Nat} {A C : DS} {s : Int32} (hA : Seg cd a b n1 W A) (hC : Seg cd b c n2 W C) (hn : 1 ≤ n1) (hn2 : 1 ≤ n2) (hs : cd c &&& 15 = s) (h5 : s = 5 ∨ s = 6 ∨ s = 7 ∨ s = 8 ∨ s = 9 ∨ s = 10 ∨ s = 11 ∨ s = 12) : Seg cd a (c + 1) (n1 + n2) W (bin (fX s) A C) := by
  have ab := hA.1
  have bc := hC.1
  refine ⟨by omega, ?_⟩
  intro T o m1 m2 a3 n3 a4 to σ e dep post hv hd k0 k1
  have hm := hv.2.2.1
  have hto := hv.2.1
  have hcto := hv.1
  refine hA.2 T o m1 m2 a3 n3 a4 to σ e dep post (hv.sub (by omega) (by omega)) (by omega) ?_ ?_
  · intro hn τ ag
    exact k0 (by unfold bin; rw [hn]; rfl) τ ag
  · intro x τ hx ag gx
    refine hC.2 T o m1 m2 a3 n3 a4 to τ e (dep + 1) post ((hv.sub (by omega) (by omega)).ag ag) (by omega) ?_ ?_
    · intro hn τ2 ag2
      exact k0 (by unfold bin; rw [hx, hn]; rfl) τ2 (ag.trans ag2 (by omega))
    · intro y τ2 hy ag2 gy
      have agT := ag.trans ag2 (by omega)
      have gx2 : gL τ2 a4 dep = x := by rw [ag2.2.2 a4 dep (by omega)]; exact gx
      have hD : bin (fX s) A C e = fX s x y := by unfold bin; rw [hx, hy]; rfl
      have e1 : nI (dep + 1 + 1) + (-1) = nI (dep + 1) := pk_m1 _
      have e2 : nI (dep + 1) - 1 = nI dep := nI_pred _
      have e3 : (nI (dep + 1 + 1) + (-1)) - 1 = nI dep := by rw [e1, e2]
      have hv2 : VC cd c (c + 1) W o m1 a3 n3 to τ2 e := (hv.sub (by omega) (by omega)).ag agT
      have hhas : v_has (dep + 1 + 1) n3 (cd c &&& 15) (jshr (cd c) 4) := ⟨by omega, Or.inr (Or.inr (Or.inr ⟨by rw [hs]; rcases h5 with w | w | w | w | w | w | w | w <;> rw [w] <;> decide, by omega⟩))⟩
      have in1 : vp_in (nI dep) 50 := vp_in_nI (by omega) (by decide)
      have in2 : vp_in (nI (dep + 1)) 50 := vp_in_nI (by omega) (by decide)
      by_cases hz : (s = 8 ∨ s = 9) ∧ y = 0
      · have hnone : bin (fX s) A C e = none := by rw [hD]; unfold fX; rw [if_pos hz]
        refine Loop.stop (fun K => v_at hv2 (by omega) hhas ?_)
        intro s' p es ep
        rw [hs] at es
        subst es
        refine ⟨fun z => by rcases hz.1 with w | w <;> rw [w] at z <;> exact absurd z (by decide), fun _ => ⟨fun _ => ⟨fun _ => ⟨fun z => by rcases hz.1 with w | w <;> rw [w] at z <;> exact absurd z (by decide), fun _ => ⟨fun _ => ?_, fun z => by rcases hz.1 with w | w <;> rw [w] at z <;> exact absurd z (by decide)⟩⟩, fun z => by rcases hz.1 with w | w <;> rw [w] at z <;> exact absurd z (by decide)⟩, fun z => by rcases hz.1 with w | w <;> rw [w] at z <;> exact absurd z (by decide)⟩⟩
        rw [e3, e1, nI_clamp (by omega), nI_clamp (by omega), gx2, gy]
        refine ⟨in1, fun v53 _ => ⟨in2, fun v56 e56 => ⟨fun z => absurd (lgc_eq.2 (by rw [e56]; exact hz.2)) z, fun _ => ⟨fun _ => k0 hnone τ2 agT, fun z => ⟨fun z2 => absurd hz.1 (by simp [z, z2]), fun _ => k0 hnone τ2 agT⟩⟩⟩⟩⟩
      · have hf : fX s x y = bnd (if s = 5 then x + y else if s = 6 then x - y else if s = 7 then x * y else if s = 8 then x / y else if s = 9 then jlrem x y else if s = 10 then (if x < y then 1 else 0) else if s = 11 then (if y < x then 1 else 0) else (if x = y then 1 else 0)) := by unfold fX; rw [if_neg hz]
        generalize hr : (if s = 5 then x + y else if s = 6 then x - y else if s = 7 then x * y else if s = 8 then x / y else if s = 9 then jlrem x y else if s = 10 then (if x < y then 1 else 0) else if s = 11 then (if y < x then 1 else 0) else (if x = y then 1 else 0)) = r at hf
        have core : ∀ K : DD × Int32 × Int32 → Prop, (bnd r = some r → K (sL τ2 a4 dep r, nI (dep + 1), nI (c + 1))) → w_Text_valueOf_b31 T o m1 m2 a3 n3 a4 50 (nI to) (fun σ a6 a7 => K (σ, a6, a7)) post τ2 (nI (dep + 1 + 1)) (nI c) := by
          intro K hK
          have j365 : w_Text_valueOf_j457 T o m1 m2 a3 n3 a4 50 (fun σ a6 a7 => K (σ, a6, a7)) post τ2 (nI to) (nI (dep + 1)) (nI c) r := by
            unfold w_Text_valueOf_j457
            rw [lgc_gt, e2, nI_clamp (by omega)]
            refine ⟨fun q => k0 (by rw [hD, hf]; unfold bnd; rw [if_pos (Or.inl q)]) τ2 agT, fun q => ⟨fun q2 => ⟨in1, fun σ13 e13 => ?_⟩, fun q2 => k0 (by rw [hD, hf]; unfold bnd; rw [if_pos (Or.inr (lgc_lt.1 (by grind)))]) τ2 agT⟩⟩
            rw [e13, nI_1]
            refine hK ?_
            unfold bnd; rw [if_neg]; rintro (w | w)
            · exact q w
            · rw [← lgc_lt] at w; grind
          refine v_at hv2 (by omega) hhas ?_
          intro s' p es ep
          rw [hs] at es
          subst es
          have no : ∀ m : Int32, (m = 0 ∨ m = 1 ∨ m = 2 ∨ m = 3 ∨ m = 4) → ¬ s' = m := by
            intro m hm z
            rw [z] at h5
            rcases hm with w | w | w | w | w <;> rw [w] at h5 <;> exact absurd h5 (by decide)
          refine ⟨fun z => absurd z (no 0 (by simp)), fun _ => ⟨fun _ => ⟨fun _ => ⟨fun z => absurd z (no 3 (by simp)), fun _ => ⟨fun _ => ?_, fun z => absurd z (no 4 (by simp))⟩⟩, fun z => absurd z (no 2 (by simp))⟩, fun z => absurd z (no 1 (by simp))⟩⟩
          rw [e3, e1, nI_clamp (by omega), nI_clamp (by omega), gx2, gy]
          have j218 : w_Text_valueOf_j313 T o m1 m2 a3 n3 a4 50 (fun σ a6 a7 => K (σ, a6, a7)) post τ2 (nI to) (nI (dep + 1)) (nI c) s' x y := by
            unfold w_Text_valueOf_j313 w_Text_valueOf_j419 w_Text_valueOf_j437 w_Text_valueOf_j455
            refine ⟨fun q v ev => ?_, fun q5 => ⟨fun q v ev => ?_, fun q6 => ⟨fun q v ev => ?_, fun q7 => ⟨fun q => ⟨fun z => hz ⟨Or.inl q, z⟩, fun v ev => ?_⟩, fun q8 => ⟨fun q => ⟨fun z => hz ⟨Or.inr q, z⟩, fun v ev => ?_⟩, fun q9 => ⟨fun q => ⟨fun w => ?_, fun w => ?_⟩, fun q10 => ⟨fun q => ⟨fun w => ?_, fun w => ?_⟩, fun q11 => ⟨fun w => ?_, fun w => ?_⟩⟩⟩⟩⟩⟩⟩⟩
            · rw [ev, show x + y = r from by rw [← hr, if_pos q]]; exact j365
            · rw [ev, show x - y = r from by rw [← hr, if_neg q5, if_pos q]]; exact j365
            · rw [ev, show x * y = r from by rw [← hr, if_neg q5, if_neg q6, if_pos q]]; exact j365
            · rw [ev, show x / y = r from by rw [← hr, if_neg q5, if_neg q6, if_neg q7, if_pos q]]; exact j365
            · rw [ev, show jlrem x y = r from by rw [← hr, if_neg q5, if_neg q6, if_neg q7, if_neg q8, if_pos q]]; exact j365
            · have : ¬ x < y := by rw [← lgc_lt]; grind
              rw [show (0 : Int64) = r from by rw [← hr, if_neg q5, if_neg q6, if_neg q7, if_neg q8, if_neg q9, if_pos q, if_neg this]]; exact j365
            · have : x < y := by rw [← lgc_lt]; grind
              rw [show (1 : Int64) = r from by rw [← hr, if_neg q5, if_neg q6, if_neg q7, if_neg q8, if_neg q9, if_pos q, if_pos this]]; exact j365
            · have : ¬ y < x := by rw [← lgc_gt]; grind
              rw [show (0 : Int64) = r from by rw [← hr, if_neg q5, if_neg q6, if_neg q7, if_neg q8, if_neg q9, if_neg q10, if_pos q, if_neg this]]; exact j365
            · have : y < x := by rw [← lgc_gt]; grind
              rw [show (1 : Int64) = r from by rw [← hr, if_neg q5, if_neg q6, if_neg q7, if_neg q8, if_neg q9, if_neg q10, if_pos q, if_pos this]]; exact j365
            · rw [lgc_eq] at w
              rw [show (0 : Int64) = r from by rw [← hr, if_neg q5, if_neg q6, if_neg q7, if_neg q8, if_neg q9, if_neg q10, if_neg q11, if_neg w]]; exact j365
            · rw [lgc_eq] at w
              rw [show (1 : Int64) = r from by rw [← hr, if_neg q5, if_neg q6, if_neg q7, if_neg q8, if_neg q9, if_neg q10, if_neg q11, if_pos w]]; exact j365
          refine ⟨in1, fun v53 e53 => ⟨in2, fun v56 e56 => ?_⟩⟩
          rw [e53, e56]
          refine ⟨fun _ => j218, fun z => ⟨fun w => absurd ⟨Or.inl w, lgc_eq.1 z⟩ hz, fun _ => ⟨fun _ => j218, fun w => absurd ⟨Or.inr w, lgc_eq.1 z⟩ hz⟩⟩⟩
        by_cases hb : bnd r = some r
        · refine Loop.step (fun K hK => core K (fun _ => hK)) (k1 r _ (by rw [hD, hf, hb]) ?_ (by rw [gL_sL, if_pos ⟨rfl, rfl⟩]))
          exact agT.trans (AgS.put (Nat.le_refl _)) (Nat.le_refl _)
        · exact Loop.stop (fun K => core K (fun h => absurd h hb))
def tD (A : DB) : DS := fun e => (A e).map (fun x => if x then 1 else 0)
theorem seg_not {a b n : Nat} {A : DB} (hn : 1 ≤ n) (hA : Seg cd a b n W (tD A)) (hs : cd b &&& 15 = 2) : Seg cd a (b + 1) n W (tD (notD true A)) := by
  have ab := hA.1
  refine ⟨by omega, ?_⟩
  intro T o m1 m2 a3 n3 a4 to σ e dep post hv hd k0 k1
  have hcto := hv.1
  have hto := hv.2.1
  have hm := hv.2.2.1
  refine hA.2 T o m1 m2 a3 n3 a4 to σ e dep post (hv.sub (by omega) (by omega)) (by omega) ?_ ?_
  · intro hn τ ag
    refine k0 ?_ τ ag
    unfold tD at hn ⊢; unfold notD
    cases hA : A e with
    | none => rfl
    | some x => rw [hA] at hn; simp at hn
  · intro x τ hx ag gx
    have e2 : nI (dep + 1) - 1 = nI dep := nI_pred _
    have hd50 : dep < 50 := by omega
    refine Loop.step (y := (sL τ a4 dep (1 - x), nI (dep + 1), nI (b + 1))) ?_ (k1 (1 - x) _ ?_ (ag.trans (AgS.put (Nat.le_refl _)) (Nat.le_refl _)) (by rw [gL_sL, if_pos ⟨rfl, rfl⟩]))
    · intro K hK
      have hv2 : VC cd b (b + 1) W o m1 a3 n3 to τ e := (hv.sub (by omega) (by omega)).ag ag
      refine v_at hv2 (by omega) ⟨by omega, Or.inr (Or.inr (Or.inl ⟨by rw [hs]; decide, by rw [hs]; decide, by rw [hs]; decide, by omega⟩))⟩ ?_
      intro s' p es ep
      rw [hs] at es
      subst es
      refine ⟨fun z => absurd z (by decide), fun _ => ⟨fun _ => ⟨fun z => absurd rfl z, fun _ => ?_⟩, fun z => absurd z (by decide)⟩⟩
      rw [e2, nI_clamp (by omega), gx, nI_1]
      exact ⟨vp_in_nI (by omega) (by decide), vp_in_nI (by omega) (by decide), fun σ62 e62 => by rw [e62]; exact hK⟩
    · unfold tD at hx ⊢; unfold notD
      cases hA : A e with
      | none => rw [hA] at hx; simp at hx
      | some y =>
        rw [hA] at hx
        simp only [Option.map_some, Option.some.injEq] at hx ⊢
        rw [← hx]
        cases y <;> decide
theorem seg_jmp {a b c n1 n2 : Nat} {A C R : DB} {t : Bool} {s : Int32} (hA : Seg cd a b n1 W (tD A)) (hC : Seg cd (b + 1) c n2 W (tD C)) (hn : 1 ≤ n1) (hs : cd b &&& 15 = s) (hp : jshr (cd b) 4 = nI c) (hst : (s = 4 ∧ t = true) ∨ (s = 3 ∧ t = false)) (hR : ∀ e, R e = (A e).bind (fun x => if x = t then some t else C e)) : Seg cd a c (n1 + n2) W (tD R) := by
  have ab := hA.1
  have bc := hC.1
  refine ⟨by omega, ?_⟩
  intro T o m1 m2 a3 n3 a4 to σ e dep post hv hd k0 k1
  have hcto := hv.1
  have hto := hv.2.1
  have hm := hv.2.2.1
  refine hA.2 T o m1 m2 a3 n3 a4 to σ e dep post (hv.sub (by omega) (by omega)) (by omega) ?_ ?_
  · intro hn τ ag
    refine k0 ?_ τ ag
    unfold tD at hn ⊢
    rw [hR]
    cases hA : A e with
    | none => rfl
    | some x => rw [hA] at hn; simp at hn
  · intro x τ hx ag gx
    have hv2 : VC cd b (b + 1) W o m1 a3 n3 to τ e := (hv.sub (by omega) (by omega)).ag ag
    have e2 : nI (dep + 1) - 1 = nI dep := nI_pred _
    have e1 : nI (dep + 1) + (-1) = nI dep := pk_m1 _
    have hin : vp_in (nI dep) 50 := vp_in_nI (by omega) (by decide)
    obtain ⟨y, hy, hxy⟩ : ∃ y, A e = some y ∧ x = (if y then 1 else 0) := by
      unfold tD at hx
      cases hA : A e with
      | none => rw [hA] at hx; simp at hx
      | some y => rw [hA] at hx; simp at hx; exact ⟨y, rfl, hx.symm⟩
    have hc1 : (nI c - 1) + 1 = nI c := by
      cases c with
      | zero => omega
      | succ c => rw [nI_pred, nI_1]
    have core : ∀ K : DD × Int32 × Int32 → Prop, (if y = t then K (τ, nI (dep + 1), nI c) else K (τ, nI dep, nI (b + 1))) → w_Text_valueOf_b31 T o m1 m2 a3 n3 a4 50 (nI to) (fun σ a6 a7 => K (σ, a6, a7)) post τ (nI (dep + 1)) (nI b) := by
      intro K hK
      refine v_at hv2 (by omega) ⟨by omega, Or.inr (Or.inr (Or.inl ⟨?_, ?_, ?_, by omega⟩))⟩ ?_
      · rw [hs]; rcases hst with ⟨w, -⟩ | ⟨w, -⟩ <;> rw [w] <;> decide
      · rw [hs]; rcases hst with ⟨w, -⟩ | ⟨w, -⟩ <;> rw [w] <;> decide
      · rw [hs]; rcases hst with ⟨w, -⟩ | ⟨w, -⟩ <;> rw [w] <;> decide
      intro s' p es ep
      rw [hs] at es
      subst es
      have j154 : ∀ u : Int32, (u = if t then 1 else 0) → w_Text_valueOf_j237 T o m1 m2 a3 n3 a4 50 (fun σ a6 a7 => K (σ, a6, a7)) post τ (nI to) (nI (dep + 1)) (nI b) p (gL τ a4 (nI (dep + 1) - 1).toNatClampNeg) u := by
        intro u hu
        unfold w_Text_valueOf_j237
        rw [e2, e1, nI_clamp (by omega), gx, lgc_eq, hxy, hu, nI_1]
        refine ⟨fun z => ?_, fun z => ?_⟩
        · have : ¬ y = t := by intro w; rw [w] at z; cases t <;> exact z rfl
          rw [if_neg this] at hK; exact hK
        · have : y = t := by cases y <;> cases t <;> first | rfl | exact absurd z (by decide)
          rw [if_pos this] at hK
          unfold w_Text_valueOf_j258
          rw [ep, hp, nI_leI (by omega) (by omega)]
          exact ⟨fun w => absurd w (by omega), fun _ => by rw [hc1]; exact hK⟩
      have j136 : w_Text_valueOf_j219 T o m1 m2 a3 n3 a4 50 (fun σ a6 a7 => K (σ, a6, a7)) post τ (nI to) (nI (dep + 1)) (nI b) s' p := by
        unfold w_Text_valueOf_j219
        refine ⟨by rw [e2]; exact hin, fun z => j154 0 ?_, fun z => j154 1 ?_⟩
        · rcases hst with ⟨w, -⟩ | ⟨-, w⟩
          · exact absurd w z
          · rw [w]; rfl
        · rcases hst with ⟨-, w⟩ | ⟨w, -⟩
          · rw [w]; rfl
          · rw [w] at z; exact absurd z (by decide)
      have no : ∀ m : Int32, (m = 0 ∨ m = 1 ∨ m = 2) → ¬ s' = m := by
        intro m hm z
        rcases hst with ⟨w, -⟩ | ⟨w, -⟩ <;> rw [w] at z <;> rcases hm with v | v | v <;> rw [v] at z <;> exact absurd z (by decide)
      refine ⟨fun z => absurd z (no 0 (by simp)), fun _ => ⟨fun _ => ⟨fun _ => ⟨fun _ => j136, fun z3 => ⟨fun z4 => ?_, fun _ => j136⟩⟩, fun z => absurd z (no 2 (by simp))⟩, fun z => absurd z (no 1 (by simp))⟩⟩
      rcases hst with ⟨w, -⟩ | ⟨w, -⟩
      · exact absurd w z4
      · exact absurd w z3
    by_cases hyt : y = t
    · simp only [if_pos hyt] at core
      refine Loop.step (fun K hK => core K hK) (k1 x τ ?_ ag gx)
      unfold tD; rw [hR, hy, hxy, hyt]; simp
    · simp only [if_neg hyt] at core
      refine Loop.step (fun K hK => core K hK) ?_
      have hRC : tD R e = tD C e := by unfold tD; rw [hR, hy]; simp [hyt]
      refine hC.2 T o m1 m2 a3 n3 a4 to τ e dep post ((hv.sub (by omega) (by omega)).ag ag) (by omega) ?_ ?_
      · intro hnn τ2 ag2
        exact k0 (by rw [hRC]; exact hnn) τ2 (ag.trans ag2 (Nat.le_refl _))
      · intro z τ2 hz ag2 gz
        exact k1 z τ2 (by rw [hRC]; exact hz) (ag.trans ag2 (Nat.le_refl _)) gz
theorem seg_or {a b c n1 n2 : Nat} {A C : DB} (hA : Seg cd a b n1 W (tD A)) (hC : Seg cd (b + 1) c n2 W (tD C)) (hn : 1 ≤ n1) (hs : cd b &&& 15 = 4) (hp : jshr (cd b) 4 = nI c) : Seg cd a c (n1 + n2) W (tD (orD A C)) := seg_jmp hA hC hn hs hp (Or.inl ⟨rfl, rfl⟩) (fun e => by
  unfold orD
  cases A e with
  | none => rfl
  | some x => cases x <;> rfl)
theorem seg_and {a b c n1 n2 : Nat} {A C : DB} (hA : Seg cd a b n1 W (tD A)) (hC : Seg cd (b + 1) c n2 W (tD C)) (hn : 1 ≤ n1) (hs : cd b &&& 15 = 3) (hp : jshr (cd b) 4 = nI c) : Seg cd a c (n1 + n2) W (tD (andD A C)) := seg_jmp hA hC hn hs hp (Or.inr ⟨rfl, rfl⟩) (fun e => by
  unfold andD
  cases A e with
  | none => rfl
  | some x => cases x <;> rfl)
/-- a section of a text: empty, or a stretch -/
def Sec (cd : Nat → Int32) (a b W : Nat) (D : DS) : Prop := (a = b ∧ D = fun _ => some 1) ∨ ∃ n, 1 ≤ n ∧ n ≤ 50 ∧ a < b ∧ Seg cd a b n W D
theorem s_valueOf {T : TXT} {o m1 m2 a3 n3 a4 : Nat} {σ : DD} {x1 x2 : Int32} {post : Int64 → DD → Prop} {D : DS} {e : Nat → Int64} (i p0 p1 : Nat) (hx : x1 * 6 + x2 = nI i) (hi : i + 1 < m2) (hm2 : m2 ≤ 72) (h0 : gI σ (o + 4) i = nI p0) (h1 : gI σ (o + 4) (i + 1) = nI p1) (hS : Sec cd p0 p1 W D) (hv : VC cd p0 p1 W o m1 a3 n3 p1 σ e) (k : ∀ r τ, AgS a4 0 σ τ → (D e = none → r = -4000000000) → (∀ x, D e = some x → r = x) → post r τ) : w_Text_valueOf T o m1 m2 a3 n3 a4 50 σ x1 x2 post := by
  unfold w_Text_valueOf w_Text_valueOf_l31
  rw [hx, nI_1, nI_clamp (by omega), nI_clamp (by omega), h0, h1]
  refine ⟨vp_in_nI hi (by omega), fun v66 e66 => ⟨vp_in_nI (by omega) (by omega), fun v69 e69 => ?_⟩⟩
  rw [e66, e69]
  have hp1 : p1 < 2 ^ 31 := by have := hv.2.1; have := hv.2.2.1; omega
  rcases hS with ⟨he, hD⟩ | ⟨n, hn1, hn, hlt, hs⟩
  · subst he
    refine Loop.stop (fun K => ?_)
    unfold w_Text_valueOf_b31
    refine ⟨fun _ => ⟨fun z => absurd rfl z, fun _ => k 1 σ (AgS.refl σ) (by rw [hD]; simp) (by rw [hD]; simp)⟩, fun z => absurd (nI_le (Nat.le_refl _) hp1) z⟩
  · refine hs.2 T o m1 m2 a3 n3 a4 p1 σ e 0 post hv (by omega) (fun hn τ ag => k _ τ ag (fun _ => rfl) (by rw [hn]; simp)) ?_
    intro x τ hx ag gx
    refine Loop.stop (fun K => ?_)
    unfold w_Text_valueOf_b31
    refine ⟨fun _ => ⟨fun _ => ⟨vp_in_nI (n := 0) (by omega) (by decide), ?_⟩, fun z => absurd z (nI_ne0 (by omega) (by omega))⟩, fun z => absurd (nI_le (Nat.le_refl _) hp1) z⟩
    simp only []
    rw [gx]
    exact k x τ ag (by rw [hx]; simp) (by rw [hx]; simp)
end SEG
