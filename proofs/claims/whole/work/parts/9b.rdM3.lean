/-! ===== the model reads a text: clauses, orders, all ===== -/
section RM3
variable {σ τ : DD} {N i l : Nat} {c v : Nat → Int32} {q : Nat → Nat} {o : Bool}
def Rdw (N : Nat) (c v : Nat → Int32) (q : Nat → Nat) (o : Bool) (fn : DD → (DD → Prop) → Prop) (p : Nat → Nat → PR CLS) : Prop :=
  (∀ (σ : DD) (post : DD → Prop), ¬ gI σ 0 21 = -1 → post σ → fn σ post) ∧
  ∀ (σ : DD) (i l : Nat) (post : DD → Prop), RC σ N c v q o → FA σ i l → i ≤ N → l ≤ 50 → (∀ e, p i l = .inl e → e ≤ N → ∀ τ, Ag rdP σ τ → gI τ 0 21 = nI (q e) → post τ) → (∀ j l' D, p i l = .inr (j, l', D) → i ≤ j → j ≤ N → l' ≤ 50 → ∀ τ, Ag rdP σ τ → FA τ j l' → post τ) → fn σ post
theorem rd_sum0 (hN : N ≤ 400) (hc : ∀ k, N ≤ k → c k = 0) (hv : ∀ k, 0 ≤ v k) : Rd N c v q o (fun σ post => w_M_readSum σ 0 post) (pSum o c v 8) := by
  have h := rd_sum8 (q := q) (o := o) hN hc hv (d := 8) (Nat.le_refl 8)
  rw [show nI (8 - 8) = 0 from rfl] at h
  exact h
theorem rd_test0 (hN : N ≤ 400) (hc : ∀ k, N ≤ k → c k = 0) (hv : ∀ k, 0 ≤ v k) : Rd N c v q o (fun σ post => w_M_readTest σ 0 post) (pTest o c v 8) := by
  have h := rd_testD (q := q) (o := o) hN hc hv 8 12 (by decide) (Nat.le_refl 8)
  rw [show nI (8 - 8) = 0 from rfl] at h
  exact h
/-- what is behind "if" -/
theorem rd_if {fn : DD → (DD → Prop) → Prop} {h t : Int32} {A B : DS} (hN : N ≤ 400) (hc : ∀ k, N ≤ k → c k = 0) (hv : ∀ k, 0 ≤ v k) (hfn : ∀ σ post, w_M_takes0 σ 4 (fun r1 σ2 => (r1 = 0 → post σ2) ∧ (¬ r1 = 0 → w_M_readTest σ2 0 (fun σ5 => post σ5))) → fn σ post) : Rdw N c v q o fn (pIf o c v h A B t) := by
  have ht := rd_test0 (q := q) (o := o) hN hc hv
  have prg := Prg_test (o := o) (v := v) hc 8
  refine ⟨fun σ post hb hp => hfn σ post (s_takes0 hb ⟨fun _ => hp, fun z => absurd rfl z⟩), fun σ i l post hC hF hi hl k0 k1 => hfn σ post (s_takes1 hC hi hF (fun z τ a f => ⟨fun z => absurd z (by decide), fun _ => ?_⟩) (fun z => ⟨fun _ => ?_, fun z => absurd rfl z⟩))⟩
  · have hlt : i < N := hC.lt z (by decide)
    refine ht.2 τ (i + 1) l _ (hC.ag a) f hlt hl (fun e h2 τ2 a2 b2 => ?_) (fun j l' D h2 τ2 a2 f2 => ?_)
    · exact k0 e (by unfold pIf; rw [if_pos z, h2]) ((prg (i + 1) l hlt hl).2 e h2).2 τ2 (a.trans a2) b2
    · have hj := (prg (i + 1) l hlt hl).1 j l' D h2
      exact k1 j l' (h, A, B, t, D) (by unfold pIf; rw [if_pos z, h2]) (by omega) hj.2.1 hj.2.2.2 τ2 (a.trans a2) f2
  · exact k1 i l (h, A, B, t, fun _ => some true) (by unfold pIf; rw [if_neg z]) (Nat.le_refl _) hi hl σ (Ag.refl σ) hF
theorem rd_clause (hN : N ≤ 400) (hc : ∀ k, N ≤ k → c k = 0) (hv : ∀ k, 0 ≤ v k) : Rdw N c v q false w_M_readClause (pClause c v) := by
  have hs := rd_sum0 (q := q) (o := false) hN hc hv
  have prg := Prg_sum (o := false) (v := v) hc 8
  have hif : ∀ h A, Rdw N c v q false (fun σ post => w_M_readClause_j29 post σ) (pIf false c v h A d1 1) := fun h A => rd_if hN hc hv (fun σ post w => w)
  refine ⟨fun σ post hb hp => ?_, fun σ i l post hC hF hi hl k0 k1 => ?_⟩
  · unfold w_M_readClause
    exact s_takes0 hb ⟨fun z => absurd rfl z, fun _ => s_takes0 hb ⟨fun _ => s_must0 hb ((hif 3 d1).1 σ post hb hp), fun z => absurd rfl z⟩⟩
  have sm : (c i = 1 ∨ c i = 2) → ∀ τ, Ag rdP σ τ → FA τ (i + 1) l → w_M_readClause_j16 post τ := by
    intro w τ a f
    have hlt : i < N := by rcases w with w | w <;> exact hC.lt w (by decide)
    unfold w_M_readClause_j16
    refine hs.2 τ (i + 1) l _ (hC.ag a) f hlt hl (fun e h2 τ2 a2 b2 => ?_) (fun j l' D h2 τ2 a2 f2 => ?_)
    · have he := (prg (i + 1) l hlt hl).2 e h2
      refine (hif 3 d1).1 τ2 post (by rw [b2]; exact hC.bad he.2) (k0 e ?_ he.2 τ2 (a.trans a2) b2)
      unfold pClause; rw [if_pos w, h2]
    · have hj := (prg (i + 1) l hlt hl).1 j l' D h2
      have e3 : pClause c v i l = pIf false c v (c i) D d1 1 j l' := by unfold pClause; rw [if_pos w, h2]
      exact (hif (c i) D).2 τ2 j l' post ((hC.ag a).ag a2) f2 hj.2.1 hj.2.2.2 (fun e h3 he τ3 a3 b3 => k0 e (e3.trans h3) he τ3 ((a.trans a2).trans a3) b3) (fun j3 l3 D3 h3 q1 q2 q3 τ3 a3 f3 => k1 j3 l3 D3 (e3.trans h3) (by omega) q2 q3 τ3 ((a.trans a2).trans a3) f3)
  unfold w_M_readClause
  refine s_takes1 hC hi hF (fun z τ a f => ⟨fun _ => sm (Or.inl z) τ a f, fun z => absurd z (by decide)⟩) (fun z => ⟨fun z => absurd rfl z, fun _ => s_takes1 hC hi hF (fun z2 τ a f => ⟨fun z => absurd z (by decide), fun _ => sm (Or.inr z2) τ a f⟩) (fun z2 => ⟨fun _ => s_must1 hC hi hF (fun z3 τ a f => ?_) (fun z3 τ a b hb => ?_), fun z => absurd rfl z⟩)⟩)
  · have hlt : i < N := hC.lt z3 (by decide)
    have e3 : pClause c v i l = pIf false c v 3 d1 d1 1 (i + 1) l := by
      unfold pClause; rw [if_neg (fun w => by rcases w with w | w; exact z w; exact z2 w), if_pos z3]
    exact (hif 3 d1).2 τ (i + 1) l post (hC.ag a) f hlt hl (fun e h3 he τ3 a3 b3 => k0 e (e3.trans h3) he τ3 (a.trans a3) b3) (fun j3 l3 D3 h3 q1 q2 q3 τ3 a3 f3 => k1 j3 l3 D3 (e3.trans h3) (by omega) q2 q3 τ3 (a.trans a3) f3)
  · refine (hif 3 d1).1 τ post hb (k0 i ?_ hi τ a b)
    unfold pClause; rw [if_neg (fun w => by rcases w with w | w; exact z w; exact z2 w), if_neg z3]
theorem rd_times {A B : DS} {h : Int32} (hN : N ≤ 400) (hc : ∀ k, N ≤ k → c k = 0) (hv : ∀ k, 0 ≤ v k) : Rdw N c v q true (fun σ post => w_M_readOrder_j34 post σ) (pTimes true c v h A B) := by
  have hif : ∀ t, Rdw N c v q true (fun σ post => w_M_readOrder_j50 post σ) (pIf true c v h A B t) := fun t => rd_if hN hc hv (fun σ post w => w)
  refine ⟨fun σ post hb hp => ?_, fun σ i l post hC hF hi hl k0 k1 => ?_⟩
  · show w_M_readOrder_j34 post σ
    unfold w_M_readOrder_j34
    exact s_takes0 hb ⟨fun _ => (hif 1).1 σ post hb hp, fun z => absurd rfl z⟩
  show w_M_readOrder_j34 post σ
  unfold w_M_readOrder_j34
  refine s_takes1 hC hi hF (fun z τ a f => ⟨fun z => absurd z (by decide), fun _ => ?_⟩) (fun z => ⟨fun _ => ?_, fun z => absurd rfl z⟩)
  · have hlt : i < N := hC.lt z (by decide)
    refine s_mustN1 (hC.ag a) hlt f (fun w1 w2 w3 τ2 a2 f2 => ?_) (fun w τ2 a2 b2 => ?_)
    · have hlt2 : i + 1 < N := hC.lt w1 (by decide)
      have e3 : pTimes true c v h A B i l = pIf true c v h A B (v (i + 1)) (i + 2) l := by
        unfold pTimes; rw [if_pos z, if_pos ⟨w1, w2, w3⟩]
      exact (hif (v (i + 1))).2 τ2 (i + 2) l post ((hC.ag a).ag a2) f2 hlt2 hl (fun e h3 he τ3 a3 b3 => k0 e (e3.trans h3) he τ3 ((a.trans a2).trans a3) b3) (fun j3 l3 D3 h3 q1 q2 q3 τ3 a3 f3 => k1 j3 l3 D3 (e3.trans h3) (by omega) q2 q3 τ3 ((a.trans a2).trans a3) f3)
    · refine (hif 1).1 τ2 post (by rw [b2]; exact hC.bad hlt) (k0 (i + 1) ?_ hlt τ2 (a.trans a2) b2)
      unfold pTimes; rw [if_pos z, if_neg w]
  · have e3 : pTimes true c v h A B i l = pIf true c v h A B 1 i l := by unfold pTimes; rw [if_neg z]
    exact (hif 1).2 σ i l post hC hF hi hl (fun e h3 he τ3 a3 b3 => k0 e (e3.trans h3) he τ3 a3 b3) (fun j3 l3 D3 h3 q1 q2 q3 τ3 a3 f3 => k1 j3 l3 D3 (e3.trans h3) q1 q2 q3 τ3 a3 f3)
theorem rd_order (hN : N ≤ 400) (hc : ∀ k, N ≤ k → c k = 0) (hv : ∀ k, 0 ≤ v k) : Rdw N c v q true w_M_readOrder (pOrder c v) := by
  have hs := rd_sum0 (q := q) (o := true) hN hc hv
  have prg := Prg_sum (o := true) (v := v) hc 8
  have hti : ∀ h A B, Rdw N c v q true (fun σ post => w_M_readOrder_j34 post σ) (pTimes true c v h A B) := fun h A B => rd_times hN hc hv
  refine ⟨fun σ post hb hp => ?_, fun σ i l post hC hF hi hl k0 k1 => ?_⟩
  · unfold w_M_readOrder
    exact s_takes0 hb ⟨fun _ => s_must0 hb ((hti 24 d1 d1).1 σ post hb hp), fun z => absurd rfl z⟩
  unfold w_M_readOrder
  refine s_takes1 hC hi hF (fun z τ a f => ⟨fun z => absurd z (by decide), fun _ => ?_⟩) (fun z => ⟨fun _ => s_must1 hC hi hF (fun z3 τ a f => ?_) (fun z3 τ a b hb => ?_), fun z => absurd rfl z⟩)
  · have hlt : i < N := hC.lt z (by decide)
    refine hs.2 τ (i + 1) l _ (hC.ag a) f hlt hl (fun e h2 τ2 a2 b2 => ?_) (fun j l' D h2 τ2 a2 f2 => ?_)
    · have he := (prg (i + 1) l hlt hl).2 e h2
      have hb : ¬ gI τ2 0 21 = -1 := by rw [b2]; exact hC.bad he.2
      refine s_must0 hb (hs.1 τ2 _ hb ((hti 24 d1 d1).1 τ2 post hb (k0 e ?_ he.2 τ2 (a.trans a2) b2)))
      unfold pOrder; rw [if_pos z, h2]
    · have hj := (prg (i + 1) l hlt hl).1 j l' D h2
      have aa := a.trans a2
      refine s_must1 (hC.ag aa) hj.2.1 f2 (fun z3 τ3 a3 f3 => ?_) (fun z3 τ3 a3 b3 hb => ?_)
      · have hlt2 : j < N := hC.lt z3 (by decide)
        have a4 := aa.trans a3
        refine hs.2 τ3 (j + 1) l' _ (hC.ag a4) f3 hlt2 hj.2.2.2 (fun e h3 τ4 a5 b4 => ?_) (fun j2 l2 D2 h3 τ4 a5 f4 => ?_)
        · have he := (prg (j + 1) l' hlt2 hj.2.2.2).2 e h3
          refine (hti 24 d1 d1).1 τ4 post (by rw [b4]; exact hC.bad he.2) (k0 e ?_ he.2 τ4 (a4.trans a5) b4)
          unfold pOrder; rw [if_pos z, h2]; simp only []; rw [if_pos z3, h3]
        · have hj2 := (prg (j + 1) l' hlt2 hj.2.2.2).1 j2 l2 D2 h3
          have e3 : pOrder c v i l = pTimes true c v 22 D D2 j2 l2 := by
            unfold pOrder; rw [if_pos z, h2]; simp only []; rw [if_pos z3, h3]
          have a6 := a4.trans a5
          exact (hti 22 D D2).2 τ4 j2 l2 post (hC.ag a6) f4 hj2.2.1 hj2.2.2.2 (fun e h3 he τ3 a3 b3 => k0 e (e3.trans h3) he τ3 (a6.trans a3) b3) (fun j3 l3 D3 h3 q1 q2 q3 τ3 a3 f3 => k1 j3 l3 D3 (e3.trans h3) (by omega) q2 q3 τ3 (a6.trans a3) f3)
      · refine hs.1 τ3 _ hb ((hti 24 d1 d1).1 τ3 post hb (k0 j ?_ hj.2.1 τ3 (aa.trans a3) b3))
        unfold pOrder; rw [if_pos z, h2]; simp only []; rw [if_neg z3]
  · have hlt : i < N := hC.lt z3 (by decide)
    have e3 : pOrder c v i l = pTimes true c v 24 d1 d1 (i + 1) l := by unfold pOrder; rw [if_neg z, if_pos z3]
    exact (hti 24 d1 d1).2 τ (i + 1) l post (hC.ag a) f hlt hl (fun e h3 he τ3 a3 b3 => k0 e (e3.trans h3) he τ3 (a.trans a3) b3) (fun j3 l3 D3 h3 q1 q2 q3 τ3 a3 f3 => k1 j3 l3 D3 (e3.trans h3) (by omega) q2 q3 τ3 (a.trans a3) f3)
  · refine (hti 24 d1 d1).1 τ post hb (k0 i ?_ hi τ a b)
    unfold pOrder; rw [if_neg z, if_neg z3]
theorem rd_one {σ : DD} {post : DD → Prop} (hv : ∀ k, 0 ≤ v k) (hC : RC σ N c v q o) (ho : gI σ 0 10 = bl o) (hF : FA σ i l) (hi : i ≤ N) (hl : l ≤ 50) (k0 : ∀ e, pOne o c v i l = .inl e → e ≤ N → ∀ τ, Ag rdP σ τ → gI τ 0 21 = nI (q e) → post τ) (k1 : ∀ j l' D, pOne o c v i l = .inr (j, l', D) → i ≤ j → j ≤ N → l' ≤ 50 → ∀ τ, Ag rdP σ τ → FA τ j l' → post τ) : w_M_readOne σ post := by
  unfold w_M_readOne
  rw [ho]
  cases o with
  | false => exact ⟨fun _ => (rd_clause hC.1 hC.2.2.1 hv).2 σ i l post hC hF hi hl k0 k1, fun z => absurd rfl z⟩
  | true => exact ⟨fun z => absurd z (by decide), fun _ => (rd_order hC.1 hC.2.2.1 hv).2 σ i l post hC hF hi hl k0 k1⟩
def rdA (o k : Nat) : Prop := spP o k ∨ (o = 0 ∧ (k = 8 ∨ k = 9 ∨ k = 10 ∨ k = 13 ∨ k = 14 ∨ k = 19 ∨ k = 20 ∨ k = 21))
/-- the rest of the clauses -/
theorem rd_more {post : Int32 → DD → Prop} (hv : ∀ k, 0 ≤ v k) (hC : RC σ N c v q o) (ho : gI σ 0 10 = bl o) (h18 : gI σ 0 18 = nI N) {n : Nat} (hn : n ≤ 11) (hi : i ≤ N) (hl : l ≤ 50) (hF : FA σ i l)
    (k0 : ∀ e, pMore o c v N n i l = .inl e → e ≤ N → ∀ τ, Ag rdP σ τ → gI τ 0 21 = nI (q e) → post 0 (sI τ 0 14 (nI (q e)))) (k1 : ∀ xs, pMore o c v N n i l = .inr xs → ∀ τ, Ag rdP σ τ → gI τ 0 21 = -1 → post 1 (sI τ 0 14 (-1))) : w_M_reads_l34 post σ (nI (12 - n)) := by
  unfold w_M_reads_l34
  have badEnd : ∀ (τ : DD) (e : Nat), ¬ gI τ 0 21 = -1 → gI τ 0 21 = nI (q e) → post 0 (sI τ 0 14 (nI (q e))) → w_M_reads_j95 post τ := by
    intro τ e hb hq hp
    unfold w_M_reads_j95
    intro σ6 e6
    have g : gI σ6 0 21 = nI (q e) := by rw [e6, gI_sI, if_neg (by omega)]; exact hq
    rw [hq] at e6
    rw [← e6] at hp
    exact s_fine0 (by rw [g, ← hq]; exact hb) ⟨Or.inl rfl, hp⟩
  refine LoopN (fun m y => (m = 0 ∧ ∃ e, ¬ gI y.1 0 21 = -1 ∧ gI y.1 0 21 = nI (q e) ∧ post 0 (sI y.1 0 14 (nI (q e)))) ∨ ∃ i l n, m = n + 1 ∧ n ≤ 11 ∧ y.2 = nI (12 - n) ∧ i ≤ N ∧ l ≤ 50 ∧ Ag rdP σ y.1 ∧ FA y.1 i l ∧ (∀ e, pMore o c v N n i l = .inl e → e ≤ N → ∀ τ, Ag rdP y.1 τ → gI τ 0 21 = nI (q e) → post 0 (sI τ 0 14 (nI (q e)))) ∧ ∀ xs, pMore o c v N n i l = .inr xs → ∀ τ, Ag rdP y.1 τ → gI τ 0 21 = -1 → post 1 (sI τ 0 14 (-1))) ?_ (n := n + 1) (Or.inr ⟨i, l, n, rfl, hn, rfl, hi, hl, Ag.refl σ, hF, k0, k1⟩)
  clear hF hi hl hn k0 k1
  rintro m ⟨υ, a1⟩ K hh ih
  simp only [] at hh ⊢
  unfold w_M_reads_b34 w_M_sign
  rcases hh with ⟨hm, e, hb, hq, hp⟩ | ⟨i, l, n, hm, hn, e1, hi, hl, ag, hF, k0, k1⟩
  · exact s_takes0 hb ⟨fun _ => s_fine0 hb ⟨fun _ => badEnd υ e hb hq hp, fun z => absurd rfl z⟩, fun z => absurd rfl z⟩
  subst e1
  have hCu := hC.ag ag
  rw [show (100 : Int32) + 59 = 159 by decide]
  refine s_takes1 hCu hi hF (fun z τ a f => ⟨fun z => absurd z (by decide), fun _ => ?_⟩) (fun z => ⟨fun _ => ?_, fun z => absurd rfl z⟩)
  · have hlt : i < N := hCu.lt z (by decide)
    have hCt := hCu.ag a
    rw [show (12 : Int32) = nI 12 from rfl, nI_eq (by omega) (by decide)]
    refine ⟨fun z2 => ?_, fun z2 => ?_⟩
    · obtain ⟨n, rfl⟩ : ∃ n', n = n' + 1 := ⟨n - 1, by omega⟩
      unfold w_M_reads_j56
      rw [nI_1, show 12 - (n + 1) + 1 = 12 - n by omega]
      refine s_fine1 f ⟨fun z => absurd z (by decide), fun _ => rd_one hv hCt (by rw [a.at _ _ (by unfold rdP; omega), ag.at _ _ (by unfold rdP; omega)]; exact ho) f hlt hl (fun e h2 he τ2 a2 b2 => ?_) (fun j l' D h2 q1 q2 q3 τ2 a2 f2 => ?_)⟩
      · have e3 : pMore o c v N (n + 1) i l = .inl e := by unfold pMore; rw [if_pos z, h2]
        exact ih 0 _ (by omega) (Or.inl ⟨rfl, e, by simp only []; rw [b2]; exact hC.bad he, b2, k0 e e3 he τ2 (a.trans a2) b2⟩)
      · have aa := a.trans a2
        refine ih (n + 1) _ (by omega) (Or.inr ⟨j, l', n, rfl, by omega, rfl, q2, q3, ag.trans aa, f2, fun e h3 he τ3 a3 b3 => ?_, fun xs h3 τ3 a3 b3 => ?_⟩)
        · exact k0 e (by rw [pMore, if_pos z, h2]; simp only []; rw [h3]) he τ3 (aa.trans a3) b3
        · exact k1 (D :: xs) (by rw [pMore, if_pos z, h2]; simp only []; rw [h3]) τ3 (aa.trans a3) b3
    · have hn0 : n = 0 := by omega
      subst hn0
      refine s_faults1 hCt hlt f (fun τ2 a2 b2 hb => ?_)
      unfold w_M_reads_j56
      refine s_fine0 hb ⟨fun _ => ?_, fun z => absurd rfl z⟩
      exact ih 0 _ (by omega) (Or.inl ⟨rfl, i + 1, hb, b2, k0 (i + 1) (by unfold pMore; rw [if_pos z]) hlt τ2 (a.trans a2) b2⟩)
  · have rest : pMore o c v N n i l = if i < N then .inl i else .inr [] := by
      cases n with
      | zero => unfold pMore; rw [if_neg z]
      | succ n => rw [pMore, if_neg z]
    refine s_fine1 hF ⟨fun z => absurd z (by decide), fun _ => ?_⟩
    have hN := hC.1
    rw [hF.2.1, ag.at 0 18 (by unfold rdP; omega), h18, nI_leI (by omega) (by omega)]
    refine ⟨fun z2 => ?_, fun z2 => s_faults1 hCu hi hF (fun τ a b hb => ?_)⟩
    · unfold w_M_reads_j95
      intro σ6 e6
      rw [hF.1] at e6
      have hp := k1 [] (by rw [rest, if_neg (by omega)]) υ (Ag.refl υ) hF.1
      rw [← e6] at hp
      refine ⟨fun w => absurd ?_ w, fun _ => ⟨Or.inr rfl, hp⟩⟩
      rw [e6, gI_sI, if_neg (by omega)]; exact hF.1
    · exact badEnd τ i hb b (k0 i (by rw [rest, if_pos (by omega)]) hi τ a b)
end RM3
