section EVM4
variable {σ τ : DD} {B N : Nat} {c v : Nat → Int32} {o : Bool} {e : Nat → Int64}
/-- a method that goes over a test -/
def EvT (B N : Nat) (c v : Nat → Int32) (o : Bool) (e : Nat → Int64) (fn : DD → Int32 → (Int32 → DD → Prop) → Prop) (i j : Nat) (D : DB) : Prop := ∀ (σ : DD) (live br : Bool) (post : Int32 → DD → Prop), EC σ B N c v o e → gI σ 0 22 = nI (B + i) → gI σ 0 24 = bl br → (∀ (r : Bool) τ, Ag evP σ τ → gI τ 0 22 = nI (B + j) → gI τ 0 24 = bl (br || (live && (D e).isNone)) → (live = true → br = false → ∀ x, D e = some x → r = x) → post (bl r) τ) → fn σ (bl live) post
def EvTP (B N : Nat) (c v : Nat → Int32) (o : Bool) (e : Nat → Int64) (fn : DD → Int32 → (Int32 → DD → Prop) → Prop) (p : Nat → Nat → PR DB) : Prop := ∀ i l j l' D, i ≤ N → l ≤ 50 → p i l = .inr (j, l', D) → EvT B N c v o e fn i j D
theorem ev_orL {tf : DD → Int32 → (Int32 → DD → Prop) → Prop} {item : Nat → Nat → PR DB} (hp : EvTP B N c v o e tf item) (prg : Prg N item) {n i l j l' : Nat} {A D : DB} (hi : i ≤ N) (hl : l ≤ 50) (hn : N < i + n) (hj : pJ opO c item n i l A = .inr (j, l', D)) {live br a2 : Bool} {post : Int32 → DD → Prop} (hE : EC σ B N c v o e) (hg : gI σ 0 22 = nI (B + i)) (hb : gI σ 0 24 = bl (br || (live && (A e).isNone))) (hv : live = true → br = false → ∀ x, A e = some x → a2 = x) (k : ∀ (r : Bool) τ, Ag evP σ τ → gI τ 0 22 = nI (B + j) → gI τ 0 24 = bl (br || (live && (D e).isNone)) → (live = true → br = false → ∀ x, D e = some x → r = x) → post (bl r) τ) : w_M_testOf_l6 tf post σ (bl live) (bl a2) := by
  unfold w_M_testOf_l6
  refine LoopN (fun n x => ∃ i l A a, i ≤ N ∧ l ≤ 50 ∧ N < i + n ∧ pJ opO c item n i l A = .inr (j, l', D) ∧ Ag evP σ x.1 ∧ gI x.1 0 22 = nI (B + i) ∧ gI x.1 0 24 = bl (br || (live && (A e).isNone)) ∧ x.2 = bl a ∧ (live = true → br = false → ∀ y, A e = some y → a = y)) ?_ (n := n) ⟨i, l, A, a2, hi, hl, hn, hj, Ag.refl σ, hg, hb, rfl, hv⟩
  rintro n ⟨τ, a'⟩ K ⟨i, l, A, a, hi, hl, hn, hj, ag, hg, hb, ha, hv⟩ ih
  simp only [] at ag hg hb hv ha
  subst ha
  have hE' := hE.ag ag
  cases n with
  | zero => omega
  | succ n =>
    unfold pJ at hj
    unfold w_M_testOf_b6
    simp only []
    refine s_passes0 hE' hi hg (fun q => ⟨fun z => absurd z (by decide), fun _ => ?_⟩) (fun q => ⟨fun _ => ⟨bl_z a, ?_⟩, fun z => absurd rfl z⟩)
    · have hlt : i < N := lt_of_c hE.2.2.2.2.2.1 (by rw [q]; decide)
      have hop : opO (c i) = some orD := by unfold opO; rw [if_pos q]
      rw [hop] at hj
      simp only [] at hj
      cases hq : item (i + 1) l with
      | inl x => rw [hq] at hj; simp at hj
      | inr q2 =>
        obtain ⟨j1, l1, C⟩ := q2
        rw [hq] at hj; simp only [] at hj
        have pr := (prg (i + 1) l hlt hl).1 j1 l1 C hq
        have step : ∀ lv : Bool, lv = (live && !a) → tf (sI τ 0 22 (nI (B + (i + 1)))) (bl lv) (fun r1 σ2 => (¬ bl a = 0 → w_M_testOf_j40 tf (fun σ a2 => K (σ, a2)) post σ2 (bl live)) ∧ (bl a = 0 → (r1 = 0 → K (σ2, 0)) ∧ (¬ r1 = 0 → w_M_testOf_j40 tf (fun σ a2 => K (σ, a2)) post σ2 (bl live)))) := by
          intro lv hlv
          refine hp (i + 1) l j1 l1 C (by omega) hl hq _ lv (br || (live && (A e).isNone)) _ (hE'.ag (Ag.put ⟨rfl, Or.inl rfl⟩)) gI_same (by rw [gI_sI]; simpa using hb) ?_
          intro r5 σ6 ag6 g6 b6 v6
          have done : ∀ x : Bool, x = (a || r5) → K (σ6, bl x) := by
            intro x hx
            refine ih n (σ6, bl x) (Nat.lt_succ_self n) ⟨j1, l1, orD A C, x, by omega, by omega, by omega, hj, ag.trans ((Ag.put ⟨rfl, Or.inl rfl⟩).trans ag6), g6, ?_, rfl, ?_⟩
            · simp only []
              rw [b6, hlv]
              unfold orD
              congr 1
              cases live <;> cases br <;> cases hA : A e <;> simp_all
              all_goals (cases a <;> simp_all)
            · intro h1 h2 y hy
              unfold orD at hy
              rw [hx]
              subst h1; subst h2
              cases hA : A e with
              | none => rw [hA] at hy; simp at hy
              | some z =>
                rw [hA] at hy v6
                have := hv rfl rfl z hA
                subst this
                clear k ih
                cases a
                · simp at hy hlv; simpa using v6 hlv (by simp) y hy
                · simp at hy; simpa using hy
          refine ⟨fun z => ?_, fun z => ⟨fun z2 => ?_, fun z2 => ?_⟩⟩
          · rw [bl_n] at z; exact done true (by rw [z]; rfl)
          · rw [bl_0] at z z2; exact done false (by rw [z, z2]; rfl)
          · rw [bl_0] at z; rw [bl_n] at z2; exact done true (by rw [z, z2]; rfl)
        refine ⟨fun z => ?_, fun z => ⟨fun z2 => ?_, fun z2 => ?_⟩⟩
        · rw [bl_0] at z; exact step false (by rw [z]; rfl)
        · rw [bl_n] at z2; exact step false (by rw [z2]; simp)
        · rw [bl_n] at z; rw [bl_0] at z2; exact step true (by rw [z, z2]; rfl)
    · have hop : opO (c i) = none := by unfold opO; rw [if_neg q]
      rw [hop] at hj
      simp at hj
      obtain ⟨h1, h2, h3⟩ := hj
      subst h1; subst h3
      exact k a τ ag hg hb hv
theorem ev_or {tf : DD → Int32 → (Int32 → DD → Prop) → Prop} {item : Nat → Nat → PR DB} (hN : N ≤ 400) (hp : EvTP B N c v o e tf item) (prg : Prg N item) : EvTP B N c v o e (w_M_testOf_o tf) (pSeq opO c item) := by
  intro i l j l' D hi hl hj
  intro σ live br post hE hg hb k
  unfold pSeq at hj
  cases hq : item i l with
  | inl x => rw [hq] at hj; simp at hj
  | inr q =>
    obtain ⟨j1, l1, A⟩ := q
    rw [hq] at hj; simp only [] at hj
    have pr := (prg i l hi hl).1 j1 l1 A hq
    unfold w_M_testOf_o
    refine hp i l j1 l1 A hi hl hq σ live br _ hE hg hb ?_
    intro r1 σ1 ag1 g1 b1 v1
    refine ev_orL hp prg (by omega) (by omega) (by omega) hj (hE.ag ag1) g1 b1 v1 ?_
    intro r τ ag g b v
    exact k r τ (ag1.trans ag) g b v
theorem ev_andL {tf : DD → Int32 → (Int32 → DD → Prop) → Prop} {item : Nat → Nat → PR DB} (hp : EvTP B N c v o e tf item) (prg : Prg N item) {n i l j l' : Nat} {A D : DB} (hi : i ≤ N) (hl : l ≤ 50) (hn : N < i + n) (hj : pJ opA c item n i l A = .inr (j, l', D)) {live br a2 : Bool} {post : Int32 → DD → Prop} (hE : EC σ B N c v o e) (hg : gI σ 0 22 = nI (B + i)) (hb : gI σ 0 24 = bl (br || (live && (A e).isNone))) (hv : live = true → br = false → ∀ x, A e = some x → a2 = x) (k : ∀ (r : Bool) τ, Ag evP σ τ → gI τ 0 22 = nI (B + j) → gI τ 0 24 = bl (br || (live && (D e).isNone)) → (live = true → br = false → ∀ x, D e = some x → r = x) → post (bl r) τ) : w_M_bothOf_l6 tf post σ (bl live) (bl a2) := by
  unfold w_M_bothOf_l6
  refine LoopN (fun n x => ∃ i l A a, i ≤ N ∧ l ≤ 50 ∧ N < i + n ∧ pJ opA c item n i l A = .inr (j, l', D) ∧ Ag evP σ x.1 ∧ gI x.1 0 22 = nI (B + i) ∧ gI x.1 0 24 = bl (br || (live && (A e).isNone)) ∧ x.2 = bl a ∧ (live = true → br = false → ∀ y, A e = some y → a = y)) ?_ (n := n) ⟨i, l, A, a2, hi, hl, hn, hj, Ag.refl σ, hg, hb, rfl, hv⟩
  rintro n ⟨τ, a'⟩ K ⟨i, l, A, a, hi, hl, hn, hj, ag, hg, hb, ha, hv⟩ ih
  simp only [] at ag hg hb hv ha
  subst ha
  have hE' := hE.ag ag
  cases n with
  | zero => omega
  | succ n =>
    unfold pJ at hj
    unfold w_M_bothOf_b6
    simp only []
    refine s_passes0 hE' hi hg (fun q => ⟨fun z => absurd z (by decide), fun _ => ?_⟩) (fun q => ⟨fun _ => ⟨bl_z a, ?_⟩, fun z => absurd rfl z⟩)
    · have hlt : i < N := lt_of_c hE.2.2.2.2.2.1 (by rw [q]; decide)
      have hop : opA (c i) = some andD := by unfold opA; rw [if_pos q]
      rw [hop] at hj
      simp only [] at hj
      cases hq : item (i + 1) l with
      | inl x => rw [hq] at hj; simp at hj
      | inr q2 =>
        obtain ⟨j1, l1, C⟩ := q2
        rw [hq] at hj; simp only [] at hj
        have pr := (prg (i + 1) l hlt hl).1 j1 l1 C hq
        have step : ∀ lv : Bool, lv = (live && a) → tf (sI τ 0 22 (nI (B + (i + 1)))) (bl lv) (fun r1 σ2 => (bl a = 0 → w_M_bothOf_j45 tf (fun σ a2 => K (σ, a2)) post σ2 (bl live)) ∧ (¬ bl a = 0 → (r1 = 0 → w_M_bothOf_j45 tf (fun σ a2 => K (σ, a2)) post σ2 (bl live)) ∧ (¬ r1 = 0 → K (σ2, 1)))) := by
          intro lv hlv
          refine hp (i + 1) l j1 l1 C (by omega) hl hq _ lv (br || (live && (A e).isNone)) _ (hE'.ag (Ag.put ⟨rfl, Or.inl rfl⟩)) gI_same (by rw [gI_sI]; simpa using hb) ?_
          intro r5 σ6 ag6 g6 b6 v6
          have done : ∀ x : Bool, x = (a && r5) → K (σ6, bl x) := by
            intro x hx
            refine ih n (σ6, bl x) (Nat.lt_succ_self n) ⟨j1, l1, andD A C, x, by omega, by omega, by omega, hj, ag.trans ((Ag.put ⟨rfl, Or.inl rfl⟩).trans ag6), g6, ?_, rfl, ?_⟩
            · simp only []
              rw [b6, hlv]
              unfold andD
              congr 1
              cases live <;> cases br <;> cases hA : A e <;> simp_all
              all_goals (cases a <;> simp_all)
            · intro h1 h2 y hy
              unfold andD at hy
              rw [hx]
              subst h1; subst h2
              cases hA : A e with
              | none => rw [hA] at hy; simp at hy
              | some z =>
                rw [hA] at hy v6
                have := hv rfl rfl z hA
                subst this
                clear k ih
                cases a
                · simp at hy; simpa using hy
                · simp at hy hlv; simpa using v6 hlv (by simp) y hy
          refine ⟨fun z => ?_, fun z => ⟨fun z2 => ?_, fun z2 => ?_⟩⟩
          · rw [bl_0] at z; exact done false (by rw [z]; rfl)
          · rw [bl_n] at z; rw [bl_0] at z2; exact done false (by rw [z, z2]; rfl)
          · rw [bl_n] at z z2; exact done true (by rw [z, z2]; rfl)
        refine ⟨fun z => ?_, fun z => ⟨fun z2 => ?_, fun z2 => ?_⟩⟩
        · rw [bl_0] at z; exact step false (by rw [z]; rfl)
        · rw [bl_0] at z2; exact step false (by rw [z2]; simp)
        · rw [bl_n] at z z2; exact step true (by rw [z, z2]; rfl)
    · have hop : opA (c i) = none := by unfold opA; rw [if_neg q]
      rw [hop] at hj
      simp at hj
      obtain ⟨h1, h2, h3⟩ := hj
      subst h1; subst h3
      exact k a τ ag hg hb hv
theorem ev_and {tf : DD → Int32 → (Int32 → DD → Prop) → Prop} {item : Nat → Nat → PR DB} (hN : N ≤ 400) (hp : EvTP B N c v o e tf item) (prg : Prg N item) : EvTP B N c v o e (w_M_bothOf_o tf) (pSeq opA c item) := by
  intro i l j l' D hi hl hj
  intro σ live br post hE hg hb k
  unfold pSeq at hj
  cases hq : item i l with
  | inl x => rw [hq] at hj; simp at hj
  | inr q =>
    obtain ⟨j1, l1, A⟩ := q
    rw [hq] at hj; simp only [] at hj
    have pr := (prg i l hi hl).1 j1 l1 A hq
    unfold w_M_bothOf_o
    refine hp i l j1 l1 A hi hl hq σ live br _ hE hg hb ?_
    intro r1 σ1 ag1 g1 b1 v1
    refine ev_andL hp prg (by omega) (by omega) (by omega) hj (hE.ag ag1) g1 b1 v1 ?_
    intro r τ ag g b v
    exact k r τ (ag1.trans ag) g b v
theorem ev_plain {pf : DD → Int32 → (Int32 → DD → Prop) → Prop} {p : Nat → Nat → PR DS} {br0 : Option (Nat → Nat → PR DB)} (hN : N ≤ 400) (hp : EvTP B N c v o e pf (pPos c p br0)) : EvTP B N c v o e (w_M_plainOf_o pf) (pPlain c p br0) := by
  intro i0 l j l' D hi hl hj
  intro σ live br post hE hg hb k
  have hc := hE.2.2.2.2.2.1
  unfold w_M_plainOf_o w_M_plainOf_l2
  unfold pPlain at hj
  generalize hP : pNots c 401 i0 = P at hj
  refine LoopN (fun n x => ∃ m i a, m = n ∧ i ≤ N ∧ N < i + n ∧ (pNots c n i).1 = P.1 ∧ ((pNots c n i).2 ^^ a) = P.2 ∧ Ag evP σ x.1 ∧ gI x.1 0 22 = nI (B + i) ∧ gI x.1 0 24 = bl br ∧ x.2 = bl a) ?_ (n := 401) ⟨401, i0, false, rfl, hi, by omega, by rw [hP], by rw [hP]; simp, Ag.refl σ, hg, hb, rfl⟩
  rintro n ⟨τ, a'⟩ K ⟨m, i, a, -, hi, hn, hn1, hn2, ag, hg, hb, ha⟩ ih
  simp only [] at ag hg hb ha
  subst ha
  have hE' := hE.ag ag
  cases n with
  | zero => omega
  | succ n =>
    unfold pNots at hn1 hn2
    unfold w_M_plainOf_b2
    simp only []
    refine s_passes0 hE' hi hg (fun q => ⟨fun z => absurd z (by decide), fun _ => ?_⟩) (fun q => ⟨fun _ => ?_, fun z => absurd rfl z⟩)
    · have hlt : i < N := lt_of_c hc (by rw [q]; decide)
      rw [if_pos q] at hn1 hn2
      have nx : ∀ x : Bool, x = !a → K (sI τ 0 22 (nI (B + (i + 1))), bl x) := by
        intro x hx
        refine ih n (_, bl x) (Nat.lt_succ_self n) ⟨n, i + 1, x, rfl, hlt, by omega, hn1, ?_, ag.trans (Ag.put ⟨rfl, Or.inl rfl⟩), gI_same, ?_, rfl⟩
        · rw [← hn2, hx]; simp
        · simp only []; rw [gI_sI]; simpa using hb
      refine ⟨fun z => ?_, fun z => ?_⟩
      · rw [bl_n] at z; exact nx false (by rw [z]; rfl)
      · rw [bl_0] at z; exact nx true (by rw [z]; rfl)
    · rw [if_neg q] at hn1 hn2
      simp only [] at hn1 hn2
      rw [← hn1] at hj
      cases hq : pPos c p br0 i l with
      | inl x => rw [hq] at hj; simp at hj
      | inr q2 =>
        obtain ⟨j1, l1, A⟩ := q2
        rw [hq] at hj
        simp at hj
        obtain ⟨h1, h2, h3⟩ := hj
        subst h1; subst h3
        refine hp i l j1 l1 A hi hl hq τ live br _ hE' hg hb ?_
        intro r τ1 ag1 g1 b1 v1
        have hv : live = true → br = false → ∀ x, notD P.2 A e = some x → (r != a) = x := by
          intro h1 h2 x hx
          unfold notD at hx
          cases hA : A e with
          | none => rw [hA] at hx; simp at hx
          | some z =>
            rw [hA] at hx
            have := v1 h1 h2 z hA
            subst this
            simp at hx
            rw [← hx, ← hn2]; simp
        have hbn : gI τ1 0 24 = bl (br || (live && (notD P.2 A e).isNone)) := by
          rw [b1]; unfold notD; cases A e <;> rfl
        refine ⟨fun z => ?_, fun z => ?_⟩
        · have : (r != a) = false := by cases r <;> cases a <;> simp_all [bl]
          have kk := k (r != a) τ1 (ag.trans ag1) g1 hbn hv
          rw [this] at kk; exact kk
        · have : (r != a) = true := by cases r <;> cases a <;> simp_all [bl]
          have kk := k (r != a) τ1 (ag.trans ag1) g1 hbn hv
          rw [this] at kk; exact kk
theorem ev_pos {tf : DD → Int32 → (Int32 → DD → Prop) → Prop} {p : Nat → Nat → PR DS} {br0 : Option (Nat → Nat → PR DB)} (hs : EvP B N c v o e w_M_sumOf p) (hp : ∀ p, br0 = some p → EvTP B N c v o e tf p) (prg : Prg N p) : EvTP B N c v o e (w_M_positiveOf_o tf) (pPos c p br0) := by
  intro i l j l' D hi hl hj
  intro σ live br post hE hg hb k
  have hc := hE.2.2.2.2.2.1
  have e40 : (100 : Int32) + 40 = 140 := by decide
  have e60 : (100 : Int32) + 60 = 160 := by decide
  have e62 : (100 : Int32) + 62 = 162 := by decide
  unfold w_M_positiveOf_o w_M_sign
  rw [e40, e60, e62]
  unfold pPos at hj
  refine s_passes0 hE hi hg (fun q => ⟨fun z => absurd z (by decide), fun _ => ?_⟩) (fun q => ⟨fun _ => ?_, fun z => absurd rfl z⟩)
  · rw [if_pos q] at hj
    unfold pBr at hj
    have hlt : i < N := lt_of_c hc (by rw [q]; decide)
    cases br0 with
    | none => simp at hj
    | some p =>
      cases hq : p (i + 1) l with
      | inl x => simp [hq] at hj
      | inr q2 =>
        obtain ⟨j1, l1, A⟩ := q2
        simp only [hq] at hj
        by_cases hcl : c j1 = 141
        · rw [if_pos hcl] at hj
          simp at hj
          obtain ⟨h1, h2, h3⟩ := hj
          subst h1; subst h3
          refine hp p rfl (i + 1) l j1 l1 A (by omega) hl hq _ live br _ (hE.ag (Ag.put ⟨rfl, Or.inl rfl⟩)) gI_same (by rw [gI_sI]; simpa using hb) ?_
          intro r τ ag g b hv σ29 e29
          subst e29
          rw [g, nI_1]
          refine ⟨bl_z r, k r _ ((Ag.put ⟨rfl, Or.inl rfl⟩).trans (ag.trans (Ag.put ⟨rfl, Or.inl rfl⟩))) gI_same ?_ hv⟩
          rw [gI_sI]; simpa using b
        · rw [if_neg hcl] at hj; simp at hj
  · rw [if_neg q] at hj
    unfold pCmp at hj
    cases hq : p i l with
    | inl x => rw [hq] at hj; simp at hj
    | inr q2 =>
      obtain ⟨j1, l1, A⟩ := q2
      rw [hq] at hj
      simp only [] at hj
      have pr := (prg i l hi hl).1 j1 l1 A hq
      by_cases hcj : c j1 = 160 ∨ c j1 = 162 ∨ c j1 = 161
      · rw [if_pos hcj] at hj
        have hlt : j1 < N := lt_of_c hc (by rcases hcj with h | h | h <;> rw [h] <;> decide)
        cases hq2 : p (j1 + 1) l1 with
        | inl x => rw [hq2] at hj; simp at hj
        | inr q3 =>
          obtain ⟨j2, l2, C⟩ := q3
          rw [hq2] at hj
          simp at hj
          obtain ⟨h1, h2, h3⟩ := hj
          subst h1; subst h3
          refine hs i l j1 l1 A hi hl hq σ live br _ hE hg hb ?_
          intro r6 σ7 ag7 g7 b7 v7
          rw [g7]
          refine s_codeAt (hE.ag ag7) (by omega) ?_
          intro σ10 e10
          subst e10
          rw [g7, nI_1]
          refine hs (j1 + 1) l1 j2 l2 C hlt (by omega) hq2 _ live (br || (live && (A e).isNone)) _ ((hE.ag ag7).ag (Ag.put ⟨rfl, Or.inl rfl⟩)) gI_same (by rw [gI_sI]; simpa using b7) ?_
          intro r12 σ13 ag13 g13 b13 v13
          have agT := ag7.trans ((Ag.put (P := evP) (σ := σ7) (v := nI (B + j1 + 1)) ⟨rfl, Or.inl rfl⟩).trans ag13)
          have hbn : gI σ13 0 24 = bl (br || (live && (cmpD (c j1) A C e).isNone)) := by
            rw [b13]; unfold cmpD; congr 1
            cases live <;> cases br <;> cases A e <;> cases C e <;> rfl
          have fin : ∀ x : Bool, (live = true → gI σ13 0 24 = 0 → x = (if c j1 = 160 then decide (r6 < r12) else if c j1 = 162 then decide (r12 < r6) else decide (r6 = r12))) → post (bl x) σ13 := by
            intro x hx
            refine k x σ13 agT g13 hbn ?_
            intro h1 h2 y hy
            unfold cmpD at hy
            cases hA : A e with
            | none => rw [hA] at hy; simp at hy
            | some a =>
              cases hC : C e with
              | none => rw [hA, hC] at hy; simp at hy
              | some b =>
                rw [hA, hC] at hy b13
                have ha := v7 h1 h2 a hA
                have hb := v13 h1 (by rw [h2, hA]; simp) b hC
                have h0 : gI σ13 0 24 = 0 := by rw [b13, h2]; simp [bl]
                rw [hx h1 h0, ha, hb]
                injection hy
          refine ⟨fun z => fin false (fun h => by rw [h] at z; exact absurd z (by decide)), fun z => ⟨fun z2 => fin false (fun _ h => absurd h z2), fun z2 => ?_⟩⟩
          refine ⟨fun z3 => ⟨fun z4 => ⟨fun z5 => ?_, fun z5 => ?_⟩, fun z4 => ⟨fun z5 => ?_, fun z5 => ?_⟩⟩, fun z3 => ⟨fun z5 => ?_, fun z5 => ?_⟩⟩
          · rw [lgc_eq] at z5
            exact fin false (fun _ _ => by rw [if_neg z3, if_neg z4]; simp [z5])
          · rw [lgc_eq] at z5
            exact fin true (fun _ _ => by rw [if_neg z3, if_neg z4]; simp [z5])
          · have : ¬ r12 < r6 := by rw [← lgc_gt]; grind
            exact fin false (fun _ _ => by rw [if_neg z3, if_pos z4]; simp [this])
          · have : r12 < r6 := by rw [← lgc_gt]; grind
            exact fin true (fun _ _ => by rw [if_neg z3, if_pos z4]; simp [this])
          · have : ¬ r6 < r12 := by rw [← lgc_lt]; grind
            exact fin false (fun _ _ => by rw [if_pos z3]; simp [this])
          · have : r6 < r12 := by rw [← lgc_lt]; grind
            exact fin true (fun _ _ => by rw [if_pos z3]; simp [this])
      · rw [if_neg hcj] at hj; simp at hj
theorem ev_testD (hN : N ≤ 400) (hc : ∀ k, N ≤ k → c k = 0) : ∀ (d n : Nat), d < n → d < 12 → EvTP B N c v o e (w_M_testOf_d n) (pTest o c v d) := by
  have hs : ∀ d, d < 12 → EvP B N c v o e w_M_sumOf (pSum o c v d) := fun d hd => ev_sumD hN hc d 12 hd
  intro d
  induction d with
  | zero =>
    intro n hn _
    cases n with
    | zero => omega
    | succ n => exact ev_or hN (ev_and hN (ev_plain hN (ev_pos (br0 := none) (hs 0 (by omega)) (by intro p h; simp at h) (Prg_sum hc _))) (Prg_plain hc (Prg_sum hc _) (by intro p h; simp at h))) (Prg_seq hc (by decide) (Prg_plain hc (Prg_sum hc _) (by intro p h; simp at h)))
  | succ d ih =>
    intro n hn hd
    cases n with
    | zero => omega
    | succ n =>
      have pg : PrgO N (some (pTest o c v d)) := by intro p h; simp at h; rw [← h]; exact Prg_test hc d
      exact ev_or hN (ev_and hN (ev_plain hN (ev_pos (br0 := some (pTest o c v d)) (hs (d + 1) hd) (by intro p h; simp at h; rw [← h]; exact ih n (by omega) (by omega)) (Prg_sum hc _))) (Prg_plain hc (Prg_sum hc _) pg)) (Prg_seq hc (by decide) (Prg_plain hc (Prg_sum hc _) pg))
theorem ev_sum8 (hN : N ≤ 400) (hc : ∀ k, N ≤ k → c k = 0) : EvP B N c v o e w_M_sumOf (pSum o c v 8) := ev_sumD hN hc 8 12 (by omega)
theorem ev_test8 (hN : N ≤ 400) (hc : ∀ k, N ≤ k → c k = 0) : EvTP B N c v o e w_M_testOf (pTest o c v 8) := ev_testD hN hc 8 12 (by omega) (by omega)
end EVM4
