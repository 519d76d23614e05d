/-! ===== orders: what they do ===== -/
abbrev OST : Type := List RD × Nat × Nat × Int32
def tellO (K : Nat → Int32) (y : OST) (a1 a2 : Int32) : Int32 ⊕ OST := if (actB K a1 && rdrB K a2) = false then .inl (-3) else if canS K y.1 y.2.1 a1 a2 = false then .inl (-3) else if y.1.length < 24 then .inr (y.1 ++ [(a1.toNatClampNeg, a2.toNatClampNeg, y.2.1)], y.2.1, y.2.2.1 + 1, a1) else .inl (-5)
def sumsO (K : Nat → Int32) (y : OST) (p q : Option Int64) : Int32 ⊕ OST := match p, q with
  | some a, some r => tellO K y (l2i a) (l2i r)
  | _, _ => .inl (-3)
def oneO (K : Nat → Int32) (x : CLS) (y : OST) : Int32 ⊕ OST :=
  if x.2.2.2.2 (envO K y.1 y.2.1 y.2.2.1 y.2.2.2) = some true then
    (if x.1 = 24 then (if y.2.1 = 999 then .inl (-3) else .inr (y.1, y.2.1 + 1, y.2.2.1 + 1, y.2.2.2))
     else sumsO K y (x.2.1 (envO K y.1 y.2.1 y.2.2.1 y.2.2.2)) (x.2.2.1 (envO K y.1 y.2.1 y.2.2.1 y.2.2.2)))
  else .inr y
def repO (K : Nat → Int32) (x : CLS) : Nat → OST → Int32 ⊕ OST
  | 0, y => .inr y
  | t + 1, y => match oneO K x y with
    | .inl w => .inl w
    | .inr y' => repO K x t y'
def allO (K : Nat → Int32) : Nat → List CLS → OST → (Int32 × Nat) ⊕ OST
  | _, [], y => .inr y
  | n, x :: xs, y => match repO K x x.2.2.2.1.toNatClampNeg y with
    | .inl w => .inl (w, n)
    | .inr y' => allO K (n + 1) xs y'
def goP (o k : Nat) : Prop := soP o k ∨ (o = 0 ∧ (k = 22 ∨ k = 23 ∨ k = 24 ∨ k = 48 ∨ k = 49 ∨ k = 50 ∨ k = 51))
/-- ints alone -/
def GI (P : Nat → Nat → Prop) (σ τ : DD) : Prop := ∀ o k, ¬ P o k → gI τ o k = gI σ o k
theorem GI.trans {P : Nat → Nat → Prop} {σ τ υ : DD} (h : GI P σ τ) (g : GI P τ υ) : GI P σ υ := fun o k w => (g o k w).trans (h o k w)
theorem GI.refl {P : Nat → Nat → Prop} (σ : DD) : GI P σ σ := fun _ _ _ => rfl
theorem GI.of {P Q : Nat → Nat → Prop} {σ τ : DD} (h : Ag P σ τ) (pq : ∀ o k, P o k → Q o k) : GI Q σ τ := fun o k w => h.at o k (fun z => w (pq o k z))
theorem GI.mono {P Q : Nat → Nat → Prop} {σ τ : DD} (h : GI P σ τ) (pq : ∀ o k, P o k → Q o k) : GI Q σ τ := fun o k w => h o k (fun z => w (pq o k z))
section GM2
variable {σ τ υ : DD} {N i l j l' d dn : Nat} {c v : Nat → Int32} {live : Bool} {K : Nat → Int32} {L : List RD} {la : Int32}
theorem MS.gi {P : Nat → Nat → Prop} (h : MS σ K L) (a : GI P σ τ) (hp : ∀ o p, P o p → ¬ o = 4 ∧ ¬ o = 29 ∧ ¬ (o = 0 ∧ (p = 1 ∨ p = 29))) : MS τ K L := by
  have h1 : MS (τ.1, σ.2) K L := h.lo (P := P) (m' := (τ.1, σ.2)) ⟨fun o k w => a o k w, rfl⟩ hp
  exact h1.i1 rfl
/-- the text of orders lies in the kept row -/
def TK6 (σ : DD) (N : Nat) (c v : Nat → Int32) : Prop := N ≤ 400 ∧ gI σ 4 411 = nI N ∧ (∀ k, k < N → gI σ 4 (412 + (2400 + k)) = c k ∧ gI σ 4 (3212 + (2400 + k)) = v k) ∧ (∀ k, N ≤ k → c k = 0) ∧ ∀ k, 0 ≤ v k
theorem TK6.g (h : TK6 σ N c v) (a : ∀ k, (k = 411 ∨ (2812 ≤ k ∧ k < 3212) ∨ 5612 ≤ k) → gI τ 4 k = gI σ 4 k) : TK6 τ N c v := by
  refine ⟨h.1, ?_, fun k hk => ?_, h.2.2.2⟩
  · rw [a _ (by omega)]; exact h.2.1
  · have := h.1
    rw [a _ (by omega), a _ (by omega)]; exact h.2.2.1 k hk
theorem s_goes {post : DD → Prop} {x : CLS} (hS : MS σ K L) (hday : gI σ 4 395 = nI d) (hd : d ≤ 999) (h45 : gI σ 0 45 = nI dn) (h46 : gI σ 0 46 = la) (hT : TK6 σ N c v) (h47 : gI σ 0 47 = nI (2400 + i)) (hi : i ≤ N) (hl : l ≤ 50) (hx : pOrder c v i l = .inr (j, l', x))
    (k : ∀ τ, GI goP σ τ → MS τ K L → gI τ 0 48 = x.2.2.2.1 → gI τ 0 22 = nI (2400 + j + 1) → gI τ 0 49 = x.1 → (x.1 = 24 ∨ x.1 = 22) → (live = true → gI τ 0 51 = bl (decide (x.2.2.2.2 (envO K L d dn la) = some true)) ∧ gI τ 0 50 = bl ((x.2.1 (envO K L d dn la)).isSome && (x.2.2.1 (envO K L d dn la)).isSome) ∧ (x.1 = 22 → ∀ a, x.2.1 (envO K L d dn la) = some a → ∀ r, x.2.2.1 (envO K L d dn la) = some r → gL τ 53 0 = a ∧ gL τ 53 1 = r)) → post τ) : w_M_goesAlong σ (nI (2400 + N)) (bl live) post := by
  obtain ⟨hN, t1, t2, hc, hv⟩ := hT
  unfold w_M_goesAlong
  refine s_setsOrder hS hday hd h45 h46 (fun σ46 a46 hS46 q8 r26 r27 r28 => ?_)
  intro σ47 e47 σ49 e49
  have g47 : gI σ47 0 47 = nI (2400 + i) := by rw [e47, gI_sI, if_neg (by omega), a46.at _ _ (by unfold soP qP; omega)]; exact h47
  rw [g47] at e49
  have b49 : Ag (fun o k => o = 0 ∧ (k = 22 ∨ k = 23)) σ46 σ49 := by rw [e49, e47]; exact (Ag.put (by omega)).set (by omega)
  have hE : EC σ49 2400 N c v true (envO K L d dn la) := by
    refine ⟨?_, hN, by omega, fun k hk => ?_, fun k hk => ?_, hc, ?_, fun j hj => ?_, fun _ => ⟨fun j hj => ?_, fun j hj => ?_⟩⟩
    · rw [e49, gI_sI, if_neg (by omega), e47, gI_same]
    · rw [b49.at _ _ (by omega), a46.at _ _ (by unfold soP qP; omega)]; exact (t2 k hk).1
    · rw [b49.at _ _ (by omega), a46.at _ _ (by unfold soP qP; omega)]; exact (t2 k hk).2
    · rw [b49.at _ _ (by omega)]; exact q8
    · rw [b49.at _ _ (by omega), r26 j hj]; rfl
    · rw [b49.at _ _ (by omega), r27 j hj]; rfl
    · rw [b49.at _ _ (by omega), r28 j hj]; rfl
  have g49 : gI σ49 0 22 = nI (2400 + i) := by rw [e49, gI_same]
  rw [g49]
  refine s_codeAt hE hi ?_
  intro σ53 e53 σ55 e55 σ57 e57
  have g53 : gI σ53 0 22 = nI (2400 + i) := by rw [e53, gI_sI, if_neg (by omega)]; exact g49
  rw [g53, nI_1] at e55
  have b57 : GI goP σ49 σ57 := GI.of (P := fun o k => o = 0 ∧ (k = 22 ∨ k = 49 ∨ k = 50)) (by rw [e57, e55, e53]; exact ((Ag.put (by omega)).set (by omega)).set (by omega)) (fun o k w => by unfold goP; omega)
  have A57 : GI goP σ σ57 := (GI.of a46 (fun o k w => Or.inl w)).trans ((GI.of b49 (fun o k w => Or.inr (by omega))).trans b57)
  have msg : ∀ {τ}, GI goP σ τ → GI (fun o k => o = 0 ∧ (k = 22 ∨ k = 23 ∨ k = 24 ∨ k = 48 ∨ k = 49 ∨ k = 50 ∨ k = 51)) σ46 τ → MS τ K L := fun _ a => hS46.gi a (by omega)
  have B57 : GI (fun o k => o = 0 ∧ (k = 22 ∨ k = 23 ∨ k = 24 ∨ k = 48 ∨ k = 49 ∨ k = 50 ∨ k = 51)) σ46 σ57 := by
    refine (GI.of b49 (fun o k w => by omega)).trans ?_
    exact GI.of (P := fun o k => o = 0 ∧ (k = 22 ∨ k = 49 ∨ k = 50)) (by rw [e57, e55, e53]; exact ((Ag.put (by omega)).set (by omega)).set (by omega)) (fun o k w => by omega)
  have ecg : ∀ {τ}, GI (fun o k => o = 0 ∧ (k = 22 ∨ k = 24 ∨ k = 48 ∨ k = 49 ∨ k = 50 ∨ k = 51)) σ49 τ → EC τ 2400 N c v true (envO K L d dn la) := fun a => hE.g (fun p k w => a _ _ (by omega))
  have C57 : GI (fun o k => o = 0 ∧ (k = 22 ∨ k = 24 ∨ k = 48 ∨ k = 49 ∨ k = 50 ∨ k = 51)) σ49 σ57 := GI.of (P := fun o k => o = 0 ∧ (k = 22 ∨ k = 49 ∨ k = 50)) (by rw [e57, e55, e53]; exact ((Ag.put (by omega)).set (by omega)).set (by omega)) (fun o k w => by omega)
  have q22 : gI σ57 0 22 = nI (2400 + (i + 1)) := by rw [e57, gI_sI, if_neg (by omega), e55, gI_same]; congr 1
  have q49 : gI σ57 0 49 = c i := by rw [e57, gI_sI, if_neg (by omega), e55, gI_sI, if_neg (by omega), e53, gI_same]
  have q50 : gI σ57 0 50 = 1 := by rw [e57, gI_same]
  rw [q49]
  -- the end: how often, if
  have fin : ∀ υ (i2 l2 : Nat) (h : Int32) (A B : DS) (n : Int32) (k4 : Int32), GI (fun o k => o = 0 ∧ (k = 22 ∨ k = 24 ∨ k = 48 ∨ k = 49 ∨ k = 50 ∨ k = 51)) σ49 υ → gI υ 0 22 = nI (2400 + i2) → i2 ≤ N → l2 ≤ 50 → gI υ 0 49 = h → (h = 24 ∨ h = 22) → pTimes true c v h A B i2 l2 = .inr (j, l', x) → (live = true → gI υ 0 50 = bl ((A (envO K L d dn la)).isSome && (B (envO K L d dn la)).isSome) ∧ (h = 22 → ∀ a, A (envO K L d dn la) = some a → ∀ r, B (envO K L d dn la) = some r → gL υ 53 0 = a ∧ gL υ 53 1 = r)) → ∀ K62 : DD → Int32 → Prop, n ≤ k4 → w_M_goesAlong_b62 (bl live) n K62 post υ k4 := by
    intro υ i2 l2 h A B n k4 aυ g22 hi2 hl2 g49' hh hp hs K62 hn
    unfold w_M_goesAlong_b62
    refine ⟨fun _ σ32 e32 => go_times (ecg aυ) hi2 hl2 hv hp g22 (fun τ t C hxe aτ z48 z22 z51 => ?_) σ32 e32, fun z => absurd hn z⟩
    have aτ' : GI (fun o k => o = 0 ∧ (k = 22 ∨ k = 24 ∨ k = 48 ∨ k = 49 ∨ k = 50 ∨ k = 51)) σ49 τ := aυ.trans (GI.of aτ (fun o k w => by unfold gtP at w; omega))
    have AA : GI goP σ τ := (GI.of a46 (fun o k w => Or.inl w)).trans ((GI.of b49 (fun o k w => Or.inr (by omega))).trans (aτ'.mono (fun o k w => Or.inr (by omega))))
    have BB : GI (fun o k => o = 0 ∧ (k = 22 ∨ k = 23 ∨ k = 24 ∨ k = 48 ∨ k = 49 ∨ k = 50 ∨ k = 51)) σ46 τ := (GI.of b49 (fun o k w => by omega)).trans (aτ'.mono (fun o k w => by omega))
    rw [hxe] at k
    refine k τ AA (msg AA BB) z48 z22 ?_ hh (fun hlv => ⟨z51 hlv, ?_, fun h22 a ha r hr => ?_⟩)
    · rw [aτ.at _ _ (by unfold gtP; omega)]; exact g49'
    · rw [aτ.at _ _ (by unfold gtP; omega)]; exact (hs hlv).1
    · have gl : ∀ o k, gL τ o k = gL υ o k := fun o k => by unfold gL; rw [aτ.2]
      rw [gl, gl]; exact (hs hlv).2 h22 a ha r hr
  unfold pOrder at hx
  by_cases c22 : c i = 22
  · rw [if_pos c22] at hx
    have hlt : i < N := lt_of_c hc (by rw [c22]; decide)
    refine ⟨fun _ => ?_, fun z => absurd (c22.symm.trans z) (by decide)⟩
    have prg := Prg_sum (o := true) (v := v) hc 8
    cases h1 : pSum true c v 8 (i + 1) l with
    | inl w => rw [h1] at hx; cases hx
    | inr w =>
      obtain ⟨j1, l1, A⟩ := w
      rw [h1] at hx
      simp only [] at hx
      have hj1 := (prg (i + 1) l hlt hl).1 j1 l1 A h1
      by_cases c23 : c j1 = 23
      · rw [if_pos c23] at hx
        have hlt1 : j1 < N := lt_of_c hc (by rw [c23]; decide)
        cases h2 : pSum true c v 8 (j1 + 1) l1 with
        | inl w => rw [h2] at hx; cases hx
        | inr w =>
          obtain ⟨j2, l2, B⟩ := w
          rw [h2] at hx
          simp only [] at hx
          have hj2 := (prg (j1 + 1) l1 hlt1 hj1.2.2.2).1 j2 l2 B h2
          unfold w_M_goesAlong_j58 w_M_goesAlong_l62
          -- first sum
          refine LoopN (fun m y => (m = 2 ∧ y = (σ57, 0)) ∨ (∃ υ, m = 1 ∧ y = (υ, 1) ∧ GI (fun o k => o = 0 ∧ (k = 22 ∨ k = 24 ∨ k = 48 ∨ k = 49 ∨ k = 50 ∨ k = 51)) σ49 υ ∧ gI υ 0 22 = nI (2400 + j1) ∧ gI υ 0 49 = 22 ∧ (live = true → gI υ 0 50 = bl (A (envO K L d dn la)).isSome ∧ ∀ a, A (envO K L d dn la) = some a → gL υ 53 0 = a)) ∨ (∃ υ, m = 0 ∧ y = (υ, 2) ∧ GI (fun o k => o = 0 ∧ (k = 22 ∨ k = 24 ∨ k = 48 ∨ k = 49 ∨ k = 50 ∨ k = 51)) σ49 υ ∧ gI υ 0 22 = nI (2400 + j2) ∧ gI υ 0 49 = 22 ∧ (live = true → gI υ 0 50 = bl ((A (envO K L d dn la)).isSome && (B (envO K L d dn la)).isSome) ∧ ((22 : Int32) = 22 → ∀ a, A (envO K L d dn la) = some a → ∀ r, B (envO K L d dn la) = some r → gL υ 53 0 = a ∧ gL υ 53 1 = r)))) ?_ (n := 2) (Or.inl ⟨rfl, rfl⟩)
          have sum1 : ∀ (υ : DD) (k4 : Nat) (p1 p2 lp lp' : Nat) (D : DS) (ok : Bool) (KK : DD → Int32 → Prop), k4 < 2 → GI (fun o k => o = 0 ∧ (k = 22 ∨ k = 24 ∨ k = 48 ∨ k = 49 ∨ k = 50 ∨ k = 51)) σ49 υ → gI υ 0 22 = nI (2400 + p1) → p1 ≤ N → lp ≤ 50 → pSum true c v 8 p1 lp = .inr (p2, lp', D) → (live = true → gI υ 0 50 = bl ok) → (∀ τ, GI (fun o k => o = 0 ∧ (k = 22 ∨ k = 24 ∨ k = 48 ∨ k = 49 ∨ k = 50 ∨ k = 51)) σ49 τ → gI τ 0 22 = nI (2400 + p2) → gI τ 0 49 = gI υ 0 49 → (live = true → gI τ 0 50 = bl (ok && (D (envO K L d dn la)).isSome) ∧ ∀ a, D (envO K L d dn la) = some a → gL τ 53 k4 = a) → (∀ k', ¬ k' = k4 → gL τ 53 k' = gL υ 53 k') → KK τ (nI k4 + 1)) → w_M_goesAlong_j83 KK post υ (bl live) 2 (nI k4) := by
            intro υ k4 p1 p2 lp lp' D ok KK hk4 aυ g22 hp1 hlp hp g50 kk
            unfold w_M_goesAlong_j83
            intro σ4 e4
            have b4 : Ag (fun o k => o = 0 ∧ k = 24) υ σ4 := by rw [e4]; exact Ag.put ⟨rfl, rfl⟩
            have a4 := aυ.trans (GI.of b4 (Q := fun o k => o = 0 ∧ (k = 22 ∨ k = 24 ∨ k = 48 ∨ k = 49 ∨ k = 50 ∨ k = 51)) (fun o k w => by omega))
            refine ev_sum8 hN hc p1 lp p2 lp' D hp1 hlp hp σ4 live false _ (ecg a4) (by rw [b4.at _ _ (by omega)]; exact g22) (by rw [e4, gI_same]; rfl) (fun r σ7 a7 z22 z24 hr => ?_)
            rw [nI_clamp (by omega)]
            refine ⟨vp_in_nI (by omega) (by decide), fun σ8 e8 => ?_⟩
            have i8 : ∀ o k, gI σ8 o k = gI σ7 o k := fun o k => by rw [e8]; rfl
            have l7 : ∀ o k, gL σ7 o k = gL υ o k := fun o k => by unfold gL; rw [a7.2, b4.2]
            have a8 : GI (fun o k => o = 0 ∧ (k = 22 ∨ k = 24 ∨ k = 48 ∨ k = 49 ∨ k = 50 ∨ k = 51)) σ49 σ8 := a4.trans (fun o k w => by rw [i8, a7.at _ _ (by unfold evP; omega)])
            have z50 : gI σ8 0 50 = gI υ 0 50 := by rw [i8, a7.at _ _ (by unfold evP; omega), b4.at _ _ (by omega)]
            have z24' : gI σ8 0 24 = bl (false || (live && (D (envO K L d dn la)).isNone)) := by rw [i8]; exact z24
            have nxt : ∀ w : Bool, (live = true → w = (ok && (D (envO K L d dn la)).isSome)) → w_M_goesAlong_j120 KK post σ8 (bl live) 2 (nI k4) (bl w) := by
              intro w hw
              unfold w_M_goesAlong_j120
              refine ⟨bl_z w, fun σ2 e2 => ?_⟩
              have b2 : Ag (fun o k => o = 0 ∧ k = 50) σ8 σ2 := by rw [e2]; exact Ag.put ⟨rfl, rfl⟩
              have l2 : ∀ o k, gL σ2 o k = gL σ8 o k := fun o k => by unfold gL; rw [b2.2]
              refine kk σ2 (a8.trans (GI.of b2 (fun o k w => by omega))) ?_ ?_ (fun hlv => ⟨?_, fun a ha => ?_⟩) (fun k' hk' => ?_)
              · rw [b2.at _ _ (by omega), i8]; exact z22
              · rw [b2.at _ _ (by omega), i8, a7.at _ _ (by unfold evP; omega), b4.at _ _ (by omega)]
              · rw [e2, gI_same, hw hlv]
              · rw [l2, e8, gL_sL, if_pos ⟨rfl, rfl⟩]; exact hr hlv rfl a ha
              · rw [l2, e8, gL_sL, if_neg (fun w => hk' w.2), l7]
            unfold w_M_goesAlong_j119
            rw [z50, z24']
            refine ⟨fun z => nxt false (fun hlv => ?_), fun z => ⟨fun z2 => nxt false (fun hlv => ?_), fun z2 => nxt true (fun hlv => ?_)⟩⟩
            · have := g50 hlv
              rw [this] at z
              rw [bl_0.1 z, Bool.false_and]
            · rw [hlv] at z2
              have z3 := bl_n.1 z2
              cases hD : D (envO K L d dn la) with
              | none => rw [show (none : Option Int64).isSome = false from rfl, Bool.and_false]
              | some y => rw [hD] at z3; simp at z3
            · rw [hlv] at z2
              have z3 := bl_0.1 z2
              have := g50 hlv
              rw [this] at z
              rw [bl_n.1 z]
              cases hD : D (envO K L d dn la) with
              | none => rw [hD] at z3; exact absurd z3 (by decide)
              | some y => rfl
          rintro m ⟨υ, k4⟩ KK hh ih
          rcases hh with ⟨hm, ey⟩ | ⟨υ', hm, ey, aυ, g22, g49', hs⟩ | ⟨υ', hm, ey, aυ, g22, g49', hs⟩
          · cases ey
            simp only []
            unfold w_M_goesAlong_b62
            refine ⟨fun z => absurd z (by decide), fun _ => ⟨fun _ => ?_, fun z => absurd (by decide) z⟩⟩
            refine sum1 σ57 0 (i + 1) j1 l l1 A true _ (by decide) C57 q22 hlt hl h1 (fun _ => q50) (fun τ aτ z22 z49 hs _ => ?_)
            refine ih 1 _ (by omega) (Or.inr (Or.inl ⟨τ, rfl, rfl, aτ, z22, ?_, fun hlv => ?_⟩))
            · rw [z49, q49, c22]
            · have := hs hlv
              rw [Bool.true_and] at this; exact this
          · cases ey
            simp only []
            unfold w_M_goesAlong_b62
            refine ⟨fun z => absurd z (by decide), fun _ => ⟨fun z => absurd z (by decide), fun _ σ43 e43 => ?_⟩⟩
            rw [g22, nI_1] at e43
            have b43 : Ag (fun o k => o = 0 ∧ k = 22) υ σ43 := by rw [e43]; exact Ag.put ⟨rfl, rfl⟩
            have l43 : ∀ o k, gL σ43 o k = gL υ o k := fun o k => by unfold gL; rw [b43.2]
            refine sum1 σ43 1 (j1 + 1) j2 l1 l2 B (A (envO K L d dn la)).isSome _ (by decide) (aυ.trans (GI.of b43 (fun o k w => by omega))) (by rw [e43, gI_same]; congr 1) hlt1 hj1.2.2.2 h2 (fun hlv => by rw [b43.at _ _ (by omega)]; exact (hs hlv).1) (fun τ aτ z22 z49 hs2 hk' => ?_)
            refine ih 0 _ (by omega) (Or.inr (Or.inr ⟨τ, rfl, rfl, aτ, z22, ?_, fun hlv => ⟨(hs2 hlv).1, fun _ a ha r hr => ⟨?_, (hs2 hlv).2 r hr⟩⟩⟩))
            · rw [z49, b43.at _ _ (by omega)]; exact g49'
            · rw [hk' 0 (by decide), l43]; exact (hs hlv).2 a ha
          · cases ey
            simp only []
            exact fin υ j2 l2 22 A B 2 2 aυ g22 hj2.2.1 hj2.2.2.2 g49' (Or.inr rfl) hx hs _ (by decide)
      · rw [if_neg c23] at hx; cases hx
  · rw [if_neg c22] at hx
    by_cases c24 : c i = 24
    · rw [if_pos c24] at hx
      have hlt : i < N := lt_of_c hc (by rw [c24]; decide)
      refine ⟨fun z => absurd c24 z, fun _ => ?_⟩
      unfold w_M_goesAlong_j58 w_M_goesAlong_l62
      refine Loop.stop (fun KK => ?_)
      exact fin σ57 (i + 1) l 24 d1 d1 0 0 C57 q22 hlt hl (q49.trans c24) (Or.inl rfl) hx (fun _ => ⟨q50, fun z => absurd z (by decide)⟩) _ (by decide)
    · rw [if_neg c24] at hx; cases hx
end GM2
