/-! ===== what a law says of a reading ===== -/
def ones8 (x : Int32) : Int32 := 0 + (jshr x 0 &&& 1) + (jshr x 1 &&& 1) + (jshr x 2 &&& 1) + (jshr x 3 &&& 1) + (jshr x 4 &&& 1) + (jshr x 5 &&& 1) + (jshr x 6 &&& 1) + (jshr x 7 &&& 1)
theorem s_ones {σ : DD} {a : Int32} {post : Int32 → DD → Prop} (k : post (ones8 a) σ) : w_M_ones σ a post := by
  unfold w_M_ones w_M_ones_l4
  refine ⟨9, ?_⟩
  simp only [lpN, w_M_ones_b4, forall_eq]
  refine ⟨fun q => absurd q (by decide), fun _ => ⟨fun q => absurd q (by decide), fun _ => ⟨fun q => absurd q (by decide), fun _ => ⟨fun q => absurd q (by decide), fun _ => ⟨fun q => absurd q (by decide), fun _ => ⟨fun q => absurd q (by decide), fun _ => ⟨fun q => absurd q (by decide), fun _ => ⟨fun q => absurd q (by decide), fun _ => ⟨fun _ => k, fun q => absurd (by decide) q⟩⟩⟩⟩⟩⟩⟩⟩⟩
def nT (K : Nat → Int32) (f : Nat) : Nat := (K (405 + f)).toNatClampNeg
def cO (K : Nat → Int32) (f k : Nat) : Int32 := if k < nT K f then K (412 + (400 * f + k)) else 0
def vO (K : Nat → Int32) (f k : Nat) : Int32 := if k < nT K f then K (3212 + (400 * f + k)) else 0
def clsOf (K : Nat → Int32) (f : Nat) : List CLS := match pAll false (cO K f) (vO K f) (nT K f) with
  | .inl _ => []
  | .inr l => l
def LawOK (K : Nat → Int32) (f : Nat) : Prop := nT K f ≤ 400 ∧ K (405 + f) = nI (nT K f) ∧ (∃ l, pAll false (cO K f) (vO K f) (nT K f) = .inr l) ∧ ∀ k, 0 ≤ vO K f k
def envL (K : Nat → Int32) (a r w j : Nat) : Int64 := i2l (if j = 0 then nI a else if j = 1 then K (4 * a) else if j = 2 then K (4 * a + 1) else if j = 3 then ones8 (K (4 * a + 2)) else if j = 4 then nI r else if j = 5 then K (96 + 2 * r + 1) else if j = 6 then nI w else K 398)
def clampL (s : Int64) : Int64 := if s < 0 then 0 else if 99 < s then 99 else s
def tellF (h : Int32) (e : Nat → Int64) (t : Int64) (x : CLS) : Int64 := if x.1 = h ∧ x.2.2.2.2 e = some true then (match x.2.1 e with
  | some s => clampL s
  | none => t) else t
def ansW (K : Nat → Int32) (h : Int32) (a r w : Nat) (wo : Int32) : Int32 := if K 404 = -1 then wo else l2i ((clsOf K (K 404).toNatClampNeg).foldl (tellF h (envL K a r w)) (i2l wo))
/-- clauses from token i on -/
def pGo (o : Bool) (c v : Nat → Int32) (N n i l : Nat) : Nat ⊕ List CLS := match pOne o c v i l with
  | .inl e => .inl e
  | .inr (j, l', x) => match pMore o c v N n j l' with
    | .inl e => .inl e
    | .inr xs => .inr (x :: xs)
theorem pAll_go {o : Bool} {c v : Nat → Int32} {N : Nat} : pAll o c v N = pGo o c v N 11 0 0 := rfl
theorem pMore_go {o : Bool} {c v : Nat → Int32} {N n i l : Nat} (h : c i = 159) : pMore o c v N (n + 1) i l = pGo o c v N n (i + 1) l := by
  unfold pGo
  rw [pMore, if_pos h]
  cases pOne o c v (i + 1) l with
  | inl e => rfl
  | inr q =>
    obtain ⟨j, l', x⟩ := q
    simp only []
    cases pMore o c v N n j l' <;> rfl
/-- the parts of a clause -/
theorem pIf_inv {o : Bool} {c v : Nat → Int32} {h t : Int32} {A C : DS} {i l j l' : Nat} {x : CLS} (hx : pIf o c v h A C t i l = .inr (j, l', x)) : ∃ T, x = (h, A, C, t, T) ∧ ((c i = 4 ∧ pTest o c v 8 (i + 1) l = .inr (j, l', T)) ∨ (¬ c i = 4 ∧ j = i ∧ l' = l ∧ T = fun _ => some true)) := by
  unfold pIf at hx
  by_cases h4 : c i = 4
  · rw [if_pos h4] at hx
    cases hq : pTest o c v 8 (i + 1) l with
    | inl e => rw [hq] at hx; simp at hx
    | inr q =>
      obtain ⟨j1, l1, T⟩ := q
      rw [hq] at hx
      simp only [Sum.inr.injEq, Prod.mk.injEq] at hx
      obtain ⟨h1, h2, h3⟩ := hx
      subst h1; subst h2
      exact ⟨T, h3.symm, Or.inl ⟨h4, rfl⟩⟩
  · rw [if_neg h4] at hx
    simp only [Sum.inr.injEq, Prod.mk.injEq] at hx
    obtain ⟨h1, h2, h3⟩ := hx
    subst h1; subst h2
    exact ⟨_, h3.symm, Or.inr ⟨h4, rfl, rfl, rfl⟩⟩
def tlP (o k : Nat) : Prop := o = 26 ∨ (o = 0 ∧ (k = 8 ∨ k = 22 ∨ k = 23 ∨ k = 24))
theorem evP_tl {o k : Nat} (h : evP o k) : tlP o k := by
  unfold evP at h; unfold tlP; omega
section TEL
variable {B N : Nat} {c v : Nat → Int32} {e : Nat → Int64} {h : Int32}
/-- one clause -/
theorem tells_1 {σ : DD} {K : DD → Int64 → Prop} {post : Int32 → DD → Prop} {i l j l' : Nat} {x : CLS} {t : Int64} (hE : EC σ B N c v false e) (hi : i ≤ N) (hl : l ≤ 50) (hx : pOne false c v i l = .inr (j, l', x)) (hg : gI σ 0 22 = nI (B + i)) (k : ∀ τ, Ag evP σ τ → gI τ 0 22 = nI (B + j + 1) → K τ (tellF h e t x)) : i < j ∧ j ≤ N ∧ l' ≤ 50 ∧ w_M_tells_b167 h K post σ t := by
  have hc := hE.2.2.2.2.2.1
  have hN := hE.2.1
  have hx' : pClause c v i l = .inr (j, l', x) := hx
  unfold pClause at hx'
  have last : ∀ (τ : DD) (A : DS) (sb tb hold : Bool) (s : Int64) (T : DB), Ag evP σ τ → gI τ 0 22 = nI (B + j) → gI τ 0 24 = bl tb → x = (c i, A, d1, 1, T) → sb = (A e).isNone → (∀ y, A e = some y → s = y) → tb = (T e).isNone → (∀ y, T e = some y → hold = y) → w_M_tells_j252 K post τ h t (c i) s (bl sb) (bl hold) := by
    intro τ A sb tb hold s T ag g gb hxe hsb hs htb hhold
    have fin : ∀ t', t' = tellF h e t x → w_M_tells_j307 K post τ h t' := by
      intro t' ht
      unfold w_M_tells_j307
      intro σ1 e1
      subst e1
      rw [ht, g, nI_1]
      exact k _ (ag.trans (Ag.put ⟨rfl, Or.inl rfl⟩)) gI_same
    unfold w_M_tells_j252 w_M_tells_j305
    rw [hxe] at fin
    unfold tellF at fin
    simp only [] at fin
    refine ⟨fun q => fin t (by rw [if_neg (fun z => q z.1)]), fun q => ⟨fun q2 => ?_, fun q2 => ⟨fun q3 => ?_, fun q3 => ⟨fun q4 => ?_, fun q4 => ?_⟩⟩⟩⟩
    · rw [bl_0] at q2
      refine fin t ?_
      rw [if_neg]; rintro ⟨-, z⟩
      have := hhold _ z; rw [q2] at this; simp at this
    · rw [gb, bl_n] at q3
      refine fin t ?_
      rw [if_neg]; rintro ⟨-, z⟩
      rw [z] at htb; rw [q3] at htb; simp at htb
    · rw [bl_n] at q4
      refine fin t ?_
      rw [q4] at hsb
      have : A e = none := by cases hA : A e with
        | none => rfl
        | some y => rw [hA] at hsb; simp at hsb
      rw [this]; simp
    · rw [gb, bl_0] at q3
      rw [bl_n] at q2
      rw [bl_0] at q4
      have hA : A e = some s := by
        cases hA : A e with
        | none => rw [hA, q4] at hsb; simp at hsb
        | some y => rw [hs y hA]
      have hT : T e = some true := by
        cases hT : T e with
        | none => rw [hT, q3] at htb; simp at htb
        | some y => have := hhold y hT; rw [q2] at this; rw [← this]
      rw [hA, hT] at fin
      simp only [q, and_self, if_true] at fin
      unfold clampL at fin
      refine ⟨fun q5 => ⟨fun q6 => fin s ?_, fun q6 => fin 99 ?_⟩, fun q5 => fin 0 ?_⟩
      · have h1 : ¬ s < 0 := by rw [← lgc_lt]; grind
        have h2 : ¬ 99 < s := by rw [← lgc_gt]; grind
        rw [if_neg h1, if_neg h2]
      · have h1 : ¬ s < 0 := by rw [← lgc_lt]; grind
        have h2 : 99 < s := by rw [← lgc_gt]; grind
        rw [if_neg h1, if_pos h2]
      · have h1 : s < 0 := by rw [← lgc_lt]; grind
        rw [if_pos h1]
  have mid : ∀ (τ : DD) (A : DS) (sb : Bool) (s : Int64) (i1 l1 : Nat), Ag evP σ τ → i1 ≤ N → l1 ≤ 50 → gI τ 0 22 = nI (B + i1) → gI τ 0 24 = bl sb → pIf false c v (c i) A d1 1 i1 l1 = .inr (j, l', x) → sb = (A e).isNone → (∀ y, A e = some y → s = y) → (i1 ≤ j ∧ j ≤ N ∧ l' ≤ 50) ∧ w_M_tells_j218 K post τ h t (c i) s := by
    intro τ A sb s i1 l1 ag hi1 hl1 g gb hp hsb hs
    obtain ⟨T, hxe, hT⟩ := pIf_inv hp
    have hE1 : EC (sI τ 0 24 0) B N c v false e := (hE.ag ag).ag (Ag.put ⟨rfl, Or.inr rfl⟩)
    have g1 : gI (sI τ 0 24 0) 0 22 = nI (B + i1) := by rw [gI_sI, if_neg (by omega)]; exact g
    refine ⟨?_, ?_⟩
    · rcases hT with ⟨h1, h2⟩ | ⟨h1, h2, h3, h4⟩
      · have hlt : i1 < N := lt_of_c hc (by rw [h1]; decide)
        have := ((Prg_test (o := false) (v := v) hc 8) (i1 + 1) l1 hlt hl1).1 j l' T h2
        omega
      · omega
    · unfold w_M_tells_j218 w_M_tells_j247
      intro v9 e9 σ11 e11
      subst e11
      rw [gb] at e9
      subst e9
      refine s_passes0 hE1 hi1 g1 (fun q => ⟨fun z => absurd z (by decide), fun _ => ?_⟩) (fun q => ⟨fun _ => ?_, fun z => absurd rfl z⟩)
      · rcases hT with ⟨h1, h2⟩ | ⟨h1, h2, h3, h4⟩
        · have hlt : i1 < N := lt_of_c hc (by rw [h1]; decide)
          refine ev_test8 hN hc (i1 + 1) l1 j l' T hlt hl1 h2 _ true false _ (hE1.ag (Ag.put ⟨rfl, Or.inl rfl⟩)) gI_same (by simp [gI_sI, bl]) ?_
          intro r τ2 ag2 g2 b2 v2
          have agT : Ag evP σ τ2 := ag.trans ((Ag.put ⟨rfl, Or.inr rfl⟩).trans ((Ag.put ⟨rfl, Or.inl rfl⟩).trans ag2))
          have b2' : gI τ2 0 24 = bl (T e).isNone := by rw [b2]; simp
          refine ⟨fun z => ?_, fun z => ?_⟩
          · rw [bl_0] at z
            exact last τ2 A sb _ false s T agT g2 b2' hxe hsb hs rfl (fun y hy => by rw [← z]; exact v2 rfl rfl y hy)
          · rw [bl_n] at z
            exact last τ2 A sb _ true s T agT g2 b2' hxe hsb hs rfl (fun y hy => by rw [← z]; exact v2 rfl rfl y hy)
        · exact absurd q h1
      · rcases hT with ⟨h1, h2⟩ | ⟨h1, h2, h3, h4⟩
        · exact absurd h1 q
        · subst h2
          refine last _ A sb false true s T (ag.trans (Ag.put ⟨rfl, Or.inr rfl⟩)) g1 (by simp [gI_sI, bl]) hxe hsb hs ?_ ?_
          · rw [h4]; rfl
          · intro y hy; rw [h4] at hy; simp at hy; exact hy.symm
  have top : i < N → (∀ τ, Ag evP σ τ → gI τ 0 22 = nI (B + (i + 1)) → gI τ 0 24 = bl false → (¬ c i = 3 → w_M_sumOf τ 1 (fun r27 σ28 => w_M_tells_j218 K post σ28 h t (c i) r27)) ∧ (c i = 3 → w_M_tells_j218 K post τ h t (c i) 1)) → w_M_tells_b167 h K post σ t := by
    intro hlt kk
    unfold w_M_tells_b167
    rw [hE.1, hg]
    refine ⟨fun q => absurd q (by rw [nI_leI (by have := hE.2.2.1; omega) (by have := hE.2.2.1; omega)]; omega), fun _ => ?_⟩
    refine s_codeAt hE hi ?_
    intro σ22 e22 σ24 e24
    subst e22; subst e24
    have g2 : gI (sI σ 0 24 0) 0 22 = nI (B + i) := by rw [gI_sI, if_neg (by omega)]; exact hg
    rw [g2, nI_1]
    exact kk _ ((Ag.put ⟨rfl, Or.inr rfl⟩).trans (Ag.put ⟨rfl, Or.inl rfl⟩)) gI_same (by simp [gI_sI, bl])
  by_cases h12 : c i = 1 ∨ c i = 2
  · rw [if_pos h12] at hx'
    have hlt : i < N := lt_of_c hc (by rcases h12 with z | z <;> rw [z] <;> decide)
    cases hq : pSum false c v 8 (i + 1) l with
    | inl z => rw [hq] at hx'; simp at hx'
    | inr q =>
      obtain ⟨j1, l1, A⟩ := q
      rw [hq] at hx'
      simp only [] at hx'
      have pr := ((Prg_sum (o := false) (v := v) hc 8) (i + 1) l hlt hl).1 j1 l1 A hq
      have z1 := (mid (sI (sI σ 0 22 (nI (B + j1))) 0 24 (bl (A e).isNone)) A (A e).isNone ((A e).getD 0) j1 l1 ((Ag.put ⟨rfl, Or.inl rfl⟩).set ⟨rfl, Or.inr rfl⟩) (by omega) (by omega) (by simp [gI_sI]) gI_same hx' rfl (by intro y hy; rw [hy]; rfl)).1
      refine ⟨by omega, by omega, by omega, top hlt ?_⟩
      intro τ ag g gb
      refine ⟨fun _ => ?_, fun z => by rw [z] at h12; exact absurd h12 (by decide)⟩
      refine ev_sum8 hN hc (i + 1) l j1 l1 A hlt hl hq τ true false _ (hE.ag ag) g gb ?_
      intro r τ2 ag2 g2 b2 v2
      exact (mid τ2 A (A e).isNone r j1 l1 (ag.trans ag2) (by omega) (by omega) g2 (by rw [b2]; simp) hx' rfl (v2 rfl rfl)).2
  · rw [if_neg h12] at hx'
    by_cases h3 : c i = 3
    · rw [if_pos h3] at hx'
      have hlt : i < N := lt_of_c hc (by rw [h3]; decide)
      rw [← h3] at hx'
      have z1 := (mid (sI (sI σ 0 22 (nI (B + (i + 1)))) 0 24 (bl false)) d1 false 1 (i + 1) l ((Ag.put ⟨rfl, Or.inl rfl⟩).set ⟨rfl, Or.inr rfl⟩) (by omega) (by omega) (by simp [gI_sI]) gI_same hx' rfl (by intro y hy; simp [d1] at hy; exact hy)).1
      refine ⟨by omega, by omega, by omega, top hlt ?_⟩
      intro τ ag g gb
      refine ⟨fun z => absurd h3 z, fun _ => ?_⟩
      exact (mid τ d1 false 1 (i + 1) l ag (by omega) (by omega) g gb hx' rfl (by intro y hy; simp [d1] at hy; exact hy)).2
    · rw [if_neg h3] at hx'; simp at hx'
theorem tells_L {σ : DD} {post : Int32 → DD → Prop} {n i l : Nat} {xs : List CLS} {t : Int64} (hE : EC σ B N c v false e) (hi : i ≤ N) (hl : l ≤ 50) (hx : pGo false c v N n i l = .inr xs) (hg : gI σ 0 22 = nI (B + i)) (k : ∀ τ, Ag evP σ τ → post (l2i (xs.foldl (tellF h e) t)) τ) : w_M_tells_l167 post σ h t := by
  unfold w_M_tells_l167
  refine LoopN (fun m y => Ag evP σ y.1 ∧ ((∃ n i l xs', m = N + 1 - i ∧ i ≤ N ∧ l ≤ 50 ∧ pGo false c v N n i l = .inr xs' ∧ gI y.1 0 22 = nI (B + i) ∧ xs'.foldl (tellF h e) y.2 = xs.foldl (tellF h e) t) ∨ (gI y.1 0 22 = nI (B + N + 1) ∧ y.2 = xs.foldl (tellF h e) t))) ?_ (n := N + 1 - i) ⟨Ag.refl σ, Or.inl ⟨n, i, l, xs, rfl, hi, hl, hx, hg, rfl⟩⟩
  rintro m ⟨τ, a⟩ KK ⟨ag, hor⟩ ih
  simp only [] at ag hor ⊢
  have hE' := hE.ag ag
  rcases hor with ⟨n, i, l, xs', hm, hi, hl, hx, hg, hf⟩ | ⟨hg, hf⟩
  · unfold pGo at hx
    cases hq : pOne false c v i l with
    | inl z => rw [hq] at hx; simp at hx
    | inr q =>
      obtain ⟨j, l', x⟩ := q
      rw [hq] at hx
      simp only [] at hx
      cases hq2 : pMore false c v N n j l' with
      | inl z => rw [hq2] at hx; simp at hx
      | inr ys =>
        rw [hq2] at hx
        simp only [Sum.inr.injEq] at hx
        subst hx
        have hc := hE.2.2.2.2.2.1
        have base := (tells_1 (h := h) (t := a) (K := fun _ _ => True) (post := post) hE' hi hl hq hg (fun _ _ _ => trivial))
        refine (tells_1 hE' hi hl hq hg ?_).2.2.2
        intro τ2 ag2 g2
        by_cases h159 : c j = 159
        · have hlt : j < N := lt_of_c hc (by rw [h159]; decide)
          cases n with
          | zero => rw [pMore, if_pos h159] at hq2; simp at hq2
          | succ n =>
            rw [pMore_go h159] at hq2
            exact ih (N + 1 - (j + 1)) (τ2, tellF h e a x) (by omega) ⟨ag.trans ag2, Or.inl ⟨n, j + 1, l', ys, rfl, hlt, base.2.2.1, hq2, g2, hf⟩⟩
        · have hnn : ¬ j < N ∧ ys = [] := by
            cases n <;> rw [pMore, if_neg h159] at hq2 <;> (by_cases hjn : j < N <;> simp [hjn] at hq2 ⊢; exact hq2)
          have hjN : j = N := by omega
          subst hjN
          rw [hnn.2] at hf
          exact ih 0 (τ2, tellF h e a x) (by omega) ⟨ag.trans ag2, Or.inr ⟨g2, hf⟩⟩
  · unfold w_M_tells_b167
    have hB := hE.2.2.1
    have hN := hE.2.1
    rw [hE'.1, hg]
    refine ⟨fun _ => ?_, fun q => absurd (nI_le (by omega) (by omega)) q⟩
    rw [hf]
    exact k τ ag
end TEL
