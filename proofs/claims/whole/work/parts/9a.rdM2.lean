/-! ===== the model reads a text: parts, tests, clauses ===== -/
section RM2
variable {σ τ : DD} {N i l : Nat} {c v : Nat → Int32} {q : Nat → Nat} {o : Bool}
theorem rd_br {α : Type} {fn : DD → (DD → Prop) → Prop} {p : Nat → Nat → PR α} {close : Int32} {K post : DD → Prop} (prg : Prg N p) (hit : Rd N c v q o fn p) (hC : RC σ N c v q o) (hF : FA σ (i + 1) l) (hi : i < N) (hl : l ≤ 50) (hK : ∀ τ, ¬ gI τ 0 21 = -1 → post τ → K τ) (hK1 : ∀ τ j l', j ≤ N → RC τ N c v q o → FA τ j l' → (c j = close → ∀ υ, Ag rdP τ υ → FA υ (j + 1) l' → post υ) → (¬ c j = close → ∀ υ, Ag rdP τ υ → gI υ 0 21 = nI (q j) → post υ) → K τ)
    (k0 : ∀ e, pBr c close (some p) i l = .inl e → ∀ τ, Ag rdP σ τ → gI τ 0 21 = nI (q e) → post τ) (k1 : ∀ j l' D, pBr c close (some p) i l = .inr (j, l', D) → ∀ τ, Ag rdP σ τ → FA τ j l' → post τ) : fn σ K := by
  refine hit.2 σ (i + 1) l K hC hF hi hl (fun e h2 τ a b => ?_) (fun j l' D h2 τ a f => ?_)
  · have he := (prg (i + 1) l hi hl).2 e h2
    exact hK τ (by rw [b]; exact hC.bad he.2) (k0 e (by unfold pBr; simp only []; rw [h2]) τ a b)
  · have hj := (prg (i + 1) l hi hl).1 j l' D h2
    refine hK1 τ j l' hj.2.1 (hC.ag a) f (fun z υ a2 f2 => k1 (j + 1) l' D ?_ υ (a.trans a2) f2) (fun z υ a2 b2 => k0 j ?_ υ (a.trans a2) b2)
    · unfold pBr; simp only []; rw [h2]; simp only []; rw [if_pos z]
    · unfold pBr; simp only []; rw [h2]; simp only []; rw [if_neg z]
theorem rd_part {sf : DD → Int32 → (DD → Prop) → Prop} {br : Option (Nat → Nat → PR DS)} {d : Nat} (hd : d ≤ 8) (h8 : d = 8 → br = none) (h7 : ¬ d = 8 → ∃ p, br = some p ∧ Prg N p ∧ Rd N c v q o (fun σ post => sf σ (nI (d + 1)) post) p) (hv : ∀ k, 0 ≤ v k) : Rd N c v q o (fun σ post => w_M_readPart_o sf σ (nI d) post) (pPart o c v br) := by
  refine ⟨fun σ post hb hp => ?_, fun σ i l post hC hF hi hl k0 k1 => ?_⟩
  · unfold w_M_readPart_o
    exact s_fine0 hb ⟨fun z => absurd rfl z, fun _ => hp⟩
  have hN := hC.1
  have vi : vp_in (nI i) 401 := vp_in_nI (by omega) (by decide)
  have fl : ∀ e, pPart o c v br i l = .inl e → e = i → w_M_faults σ (fun σ21 => post σ21) := fun e h1 h2 => s_faults1 hC hi hF (fun τ a b _ => k0 e h1 τ a (by rw [h2]; exact b))
  unfold w_M_readPart_o w_M_sign
  refine s_fine1 hF ⟨fun _ => ?_, fun z => absurd z (by decide)⟩
  rw [hF.2.1, nI_clamp (by omega), (hC.2.1 i hi).1]
  refine ⟨vi, fun v28 e28 => ?_⟩
  subst e28
  rw [show (100 : Int32) + 91 = 191 by decide, hF.2.1, nI_clamp (by omega), (hC.2.1 i hi).2.1]
  refine ⟨fun z => ?_, fun z => ?_⟩
  · have hp : pPart o c v br i l = pLeaf o c v i l := by unfold pPart; rw [if_neg z]
    have no : ¬ ((c i = 50 ∧ v i ≤ 1000) ∨ (fw o ≤ c i ∧ c i ≤ lw o)) → w_M_readPart_j143 sf post σ := by
      intro w
      unfold w_M_readPart_j143
      exact fl i (by rw [hp]; unfold pLeaf; rw [if_neg w]) rfl
    have yes : ((c i = 50 ∧ v i ≤ 1000) ∨ (fw o ≤ c i ∧ c i ≤ lw o)) → w_M_readPart_j111 sf post σ (c i) := by
      intro w
      have hlt : i < N := by
        rcases w with w | w
        · exact hC.lt w.1 (by decide)
        · refine Nat.lt_of_not_le (fun z2 => ?_)
          rw [hC.2.2.1 i z2] at w
          revert w; cases o <;> decide
      unfold w_M_readPart_j111 w_M_leaf
      rw [hF.2.2, show (50 : Int32) = nI 50 from rfl, nI_eq (by omega) (by decide)]
      refine ⟨fun z2 => ?_, fun z2 => ?_⟩
      · unfold w_M_leaf_j13
        intro σ1 e1
        rw [hF.2.2, nI_1] at e1
        have a1 : Ag rdP σ σ1 := by rw [e1]; exact Ag.put (by unfold rdP; omega)
        have f1 : gI σ1 0 21 = -1 := by rw [e1, gI_sI, if_neg (by omega)]; exact hF.1
        have f19 : gI σ1 0 19 = nI i := by rw [e1, gI_sI, if_neg (by omega)]; exact hF.2.1
        have f20 : gI σ1 0 20 = nI (l + 1) := by rw [e1, gI_same]
        refine ⟨fun z3 => absurd f1 z3, fun _ => ⟨fun z3 => absurd z3 (by decide), fun _ σ6 e6 => ?_⟩⟩
        rw [f19, nI_1] at e6
        have a6 : Ag rdP σ σ6 := by rw [e6]; exact a1.set (by unfold rdP; omega)
        have f6 : FA σ6 (i + 1) (l + 1) := ⟨by rw [e6, gI_sI, if_neg (by omega)]; exact f1, by rw [e6, gI_same], by rw [e6, gI_sI, if_neg (by omega)]; exact f20⟩
        have num : ∀ (at' hi' : Nat) (y : Int32), y = nI hi' → pPart o c v br i l = pNum c v (i + 1) (l + 1) at' hi' → w_M_mustNumber σ6 0 y (fun σ => post σ) := by
          intro at' hi' y hy h1
          refine s_mustN1 (hC.ag a6) hlt f6 (fun w1 w2 w3 τ a f => ?_) (fun w1 τ a b => ?_)
          · refine k1 (i + 1 + 1) (l + 1) _ (by rw [h1]; unfold pNum; rw [if_pos ⟨w1, w2, by rw [← hy]; exact w3⟩]) τ (a6.trans a) f
          · exact k0 (i + 1) (by rw [h1]; unfold pNum; rw [if_neg (fun w => w1 ⟨w.1, w.2.1, by rw [hy]; exact w.2.2⟩)]) τ (a6.trans a) b
        refine ⟨fun z3 => ?_, fun z3 => ?_⟩
        · unfold w_M_readPart_j128
          refine ⟨fun z4 => ?_, fun z4 => ?_⟩
          · exact k1 (i + 1) (l + 1) _ (by rw [hp]; unfold pLeaf; rw [if_pos w, if_neg z2, if_neg z3, if_neg z4]) σ6 a6 f6
          · exact num 12 3 3 rfl (by rw [hp]; unfold pLeaf; rw [if_pos w, if_neg z2, if_neg z3, if_pos z4])
        · have num7 := num 4 7 7 rfl (by rw [hp]; unfold pLeaf; rw [if_pos w, if_neg z2, if_pos z3])
          unfold w_M_readPart_j128
          rw [z3]
          refine s_mustN1 (hC.ag a6) hlt f6 (fun w1 w2 w3 τ a f => ⟨fun _ => ?_, fun z => absurd z (by decide)⟩) (fun w1 τ a b => ⟨fun _ => ?_, fun z => absurd z (by decide)⟩)
          · refine k1 (i + 1 + 1) (l + 1) _ (by rw [hp]; unfold pLeaf; rw [if_pos w, if_neg z2, if_pos z3]; unfold pNum; rw [if_pos ⟨w1, w2, w3⟩]) τ (a6.trans a) f
          · exact k0 (i + 1) (by rw [hp]; unfold pLeaf; rw [if_pos w, if_neg z2, if_pos z3]; unfold pNum; rw [if_neg (show ¬ (c (i + 1) = 50 ∧ 0 ≤ v (i + 1) ∧ v (i + 1) ≤ nI 7) from w1)]) τ (a6.trans a) b
      · refine s_faults1 hC hi hF (fun τ a b f => ?_)
        unfold w_M_leaf_j13
        intro σ1 e1
        have a1 : Ag rdP σ σ1 := by rw [e1]; exact a.set (by unfold rdP; omega)
        have f1 : ¬ gI σ1 0 21 = -1 := by rw [e1, gI_sI, if_neg (by omega)]; exact f
        have b1 : gI σ1 0 21 = nI (q i) := by rw [e1, gI_sI, if_neg (by omega)]; exact b
        have pp : post σ1 := k0 i (by rw [hp]; unfold pLeaf; rw [if_pos w, if_pos z2]) σ1 a1 b1
        refine s_fine0 f1 ⟨fun _ => ⟨fun _ => ?_, fun _ => s_mustN0 f1 ?_⟩, fun z => absurd rfl z⟩
        all_goals
          unfold w_M_readPart_j128
          exact ⟨fun _ => pp, fun _ => s_mustN0 f1 pp⟩
    have j95 : (c i = 50 → ¬ v i ≤ 1000) → w_M_readPart_j95 sf post σ (c i) := by
      intro w
      unfold w_M_readPart_j95
      rw [hC.2.2.2.1, hC.2.2.2.2]
      refine ⟨fun z2 => no (fun y => ?_), fun z2 => ⟨fun z3 => no (fun y => ?_), fun z3 => yes (Or.inr ⟨by grind, by grind⟩)⟩⟩
      · rcases y with y | y
        · exact w y.1 y.2
        · have := y.1; grind
      · rcases y with y | y
        · exact w y.1 y.2
        · have := y.2; grind
    refine ⟨fun z2 => j95 (fun w => absurd w z2), fun z2 => ⟨vi, fun z3 => yes (Or.inl ⟨z2, z3⟩), fun z3 => j95 (fun _ => z3)⟩⟩
  · have hp : pPart o c v br i l = pBr c 193 br i l := by unfold pPart; rw [if_pos z]
    have hlt : i < N := hC.lt z (by decide)
    rw [show (8 : Int32) = nI 8 from rfl, nI_eq (by omega) (by decide)]
    refine ⟨fun z2 => ?_, fun z2 => ?_⟩
    · obtain ⟨p, hbr, prg, hit⟩ := h7 z2
      subst hbr
      unfold w_M_readPart_j37 w_M_sign
      refine s_fine1 hF ⟨fun _ σ4 e4 => ?_, fun z => absurd z (by decide)⟩
      rw [hF.2.1, nI_1] at e4
      rw [nI_1]
      have a4 : Ag rdP σ σ4 := by rw [e4]; exact Ag.put (by unfold rdP; omega)
      have f4 : FA σ4 (i + 1) l := ⟨by rw [e4, gI_sI, if_neg (by omega)]; exact hF.1, by rw [e4, gI_same], by rw [e4, gI_sI, if_neg (by omega)]; exact hF.2.2⟩
      refine rd_br (close := 193) prg hit (hC.ag a4) f4 hlt hl (fun τ hb hp => s_must0 hb hp) (fun τ j l' hj hCt hFt w1 w2 => ?_) (fun e h3 τ a b => k0 e (hp.trans h3) τ (a4.trans a) b) (fun j l' D h3 τ a f => k1 j l' D (hp.trans h3) τ (a4.trans a) f)
      exact s_must1 hCt hj hFt (fun z => w1 (z.trans (by decide))) (fun z υ a b _ => w2 (fun y => z (y.trans (by decide))) υ a b)
    · rw [h8 z2] at hp k0 k1
      refine s_faults1 hC hi hF (fun τ a b f => ?_)
      unfold w_M_readPart_j37
      exact s_fine0 f ⟨fun z => absurd rfl z, fun _ => k0 i hp τ a b⟩
theorem rd_sumD (hN : N ≤ 400) (hc : ∀ k, N ≤ k → c k = 0) (hv : ∀ k, 0 ≤ v k) : ∀ (d n : Nat), d < n → d ≤ 8 → Rd N c v q o (fun σ post => w_M_readSum_d n σ (nI (8 - d)) post) (pSum o c v d) := by
  intro d
  induction d with
  | zero =>
    intro n hn _
    cases n with
    | zero => omega
    | succ n => exact rd_sum hN (Prg_seq hc (by decide) (Prg_part hc (by intro p h; simp at h))) (rd_term hN (Prg_part hc (by intro p h; simp at h)) (rd_part (d := 8) (Nat.le_refl _) (fun _ => rfl) (fun z => absurd rfl z) hv))
  | succ d ih =>
    intro n hn hd
    cases n with
    | zero => omega
    | succ n =>
      have h := ih n (by omega) (by omega)
      rw [show 8 - d = (8 - (d + 1)) + 1 by omega] at h
      have pb : PrgO N (some (pSum o c v d)) := by intro p h; simp at h; rw [← h]; exact Prg_sum hc d
      exact rd_sum hN (Prg_seq hc (by decide) (Prg_part hc pb)) (rd_term hN (Prg_part hc pb) (rd_part (d := 8 - (d + 1)) (by omega) (fun z => by omega) (fun _ => ⟨_, rfl, Prg_sum hc d, h⟩) hv))
theorem rd_sum8 (hN : N ≤ 400) (hc : ∀ k, N ≤ k → c k = 0) (hv : ∀ k, 0 ≤ v k) {d : Nat} (hd : d ≤ 8) : Rd N c v q o (fun σ post => w_M_readSum σ (nI (8 - d)) post) (pSum o c v d) := rd_sumD hN hc hv d 12 (by omega) hd
theorem rd_plain {tf : DD → Int32 → (DD → Prop) → Prop} {br : Option (Nat → Nat → PR DB)} {d : Nat} (hN : N ≤ 400) (hc : ∀ k, N ≤ k → c k = 0) (hv : ∀ k, 0 ≤ v k) (hd : d ≤ 8) (h8 : d = 8 → br = none) (h7 : ¬ d = 8 → ∃ p, br = some p ∧ Prg N p ∧ Rd N c v q o (fun σ post => tf σ (nI (d + 1)) post) p) : Rd N c v q o (fun σ post => w_M_readPlain_o tf σ (nI d) post) (pPlain c (pSum o c v (8 - d)) br) := by
  have hsum := rd_sum8 (q := q) (o := o) hN hc hv (d := 8 - d) (by omega)
  have prgS := Prg_sum (o := o) (v := v) hc (8 - d)
  rw [show 8 - (8 - d) = d by omega] at hsum
  have out : ∀ σ (post : DD → Prop), ¬ gI σ 0 21 = -1 → post σ → ∀ K2, w_M_readPlain_b2 tf (nI d) K2 post σ 0 := by
    intro σ post hb hp K2
    unfold w_M_readPlain_b2
    exact ⟨fun _ => s_fine0 hb ⟨fun z => absurd rfl z, fun _ => hp⟩, fun z => absurd rfl z⟩
  refine ⟨fun σ post hb hp => ?_, fun σ i l post hC hF hi hl k0 k1 => ?_⟩
  · unfold w_M_readPlain_o w_M_readPlain_l2
    refine Loop.step (y := (σ, 0)) (fun K hK => ?_) (Loop.stop (fun K => out σ post hb hp _))
    unfold w_M_readPlain_b2
    exact ⟨fun z => absurd (show (1 : Int32) = 0 from z) (by decide), fun _ => s_takes0 hb hK⟩
  unfold w_M_readPlain_o w_M_readPlain_l2
  obtain ⟨q0, hq0⟩ : ∃ q0, q0 = (pNots c 401 i).1 := ⟨_, rfl⟩
  refine LoopN (fun m y => ∃ i' n, i' ≤ N ∧ N < i' + n ∧ Ag rdP σ y.1 ∧ FA y.1 i' l ∧ (pNots c n i').1 = q0 ∧ ((m = N - i' + 1 ∧ y.2 = 1) ∨ (m = 0 ∧ y.2 = 0 ∧ ¬ c i' = 7))) ?_ (n := N - i + 1) ⟨i, 401, hi, by omega, Ag.refl σ, hF, hq0.symm, Or.inl ⟨rfl, rfl⟩⟩
  rintro m ⟨υ, a2⟩ K ⟨i', n, hi', hn, ag, hF', hpn, hh⟩ ih
  simp only [] at ag hF' hh ⊢
  have hCu := hC.ag ag
  obtain ⟨n, rfl⟩ : ∃ n', n = n' + 1 := ⟨n - 1, by omega⟩
  unfold pNots at hpn
  unfold w_M_readPlain_b2
  rcases hh with ⟨hm, e2⟩ | ⟨hm, e2, h7'⟩
  · rw [e2]
    refine ⟨fun z => absurd z (by decide), fun _ => s_takes1 hCu hi' hF' (fun z τ a f => ?_) (fun z => ?_)⟩
    · rw [if_pos z] at hpn
      have hlt : i' < N := hCu.lt z (by decide)
      exact ih (N - (i' + 1) + 1) _ (by omega) ⟨i' + 1, n, hlt, by omega, ag.trans a, f, hpn, Or.inl ⟨rfl, rfl⟩⟩
    · refine ih 0 _ (by omega) ⟨i', n + 1, hi', hn, ag, hF', ?_, Or.inr ⟨rfl, rfl, z⟩⟩
      unfold pNots; exact hpn
  · rw [e2]
    refine ⟨fun _ => ?_, fun z => absurd rfl z⟩
    rw [if_neg h7'] at hpn
    simp only [] at hpn
    have vi : vp_in (nI i') 401 := vp_in_nI (by omega) (by decide)
    have k0' : ∀ e, pPos c (pSum o c v (8 - d)) br i' l = .inl e → ∀ τ, Ag rdP υ τ → gI τ 0 21 = nI (q e) → post τ := by
      intro e h3 τ a b
      refine k0 e ?_ τ (ag.trans a) b
      unfold pPlain; rw [← hq0, ← hpn, h3]
    have k1' : ∀ j l' D, pPos c (pSum o c v (8 - d)) br i' l = .inr (j, l', D) → ∀ τ, Ag rdP υ τ → FA τ j l' → post τ := by
      intro j l' D h3 τ a f
      refine k1 j l' (notD (pNots c 401 i).2 D) ?_ τ (ag.trans a) f
      unfold pPlain; rw [← hq0, ← hpn, h3]
    clear k0 k1
    unfold w_M_sign
    refine s_fine1 hF' ⟨fun _ => ?_, fun z => absurd z (by decide)⟩
    rw [hF'.2.1, nI_clamp (by omega), (hCu.2.1 i' hi').1]
    refine ⟨vi, fun v19 e19 => ?_⟩
    subst e19
    rw [show (100 : Int32) + 40 = 140 by decide, show (100 : Int32) + 60 = 160 by decide, show (100 : Int32) + 62 = 162 by decide, show (100 : Int32) + 61 = 161 by decide]
    refine ⟨fun z => ?_, fun z => ?_⟩
    · have hp : pPos c (pSum o c v (8 - d)) br i' l = pCmp c (pSum o c v (8 - d)) i' l := by unfold pPos; rw [if_neg z]
      rw [hp] at k0' k1'
      refine hsum.2 υ i' l _ hCu hF' hi' hl (fun e h3 τ a b => ?_) (fun j l' D h3 τ a f => ?_)
      · have he := (prgS i' l hi' hl).2 e h3
        have hb : ¬ gI τ 0 21 = -1 := by rw [b]; exact hC.bad he.2
        have hp : post τ := k0' e (by unfold pCmp; rw [h3]) τ a b
        refine s_takes0 hb ⟨fun z => absurd rfl z, fun _ => s_takes0 hb ⟨fun z => absurd rfl z, fun _ => s_must0 hb ?_⟩⟩
        unfold w_M_readPlain_j128
        exact hsum.1 τ _ hb hp
      · have hj := (prgS i' l hi' hl).1 j l' D h3
        have hCt := hCu.ag a
        have snd : ∀ τ2, Ag rdP υ τ2 → FA τ2 (j + 1) l' → (c j = 160 ∨ c j = 162 ∨ c j = 161) → w_M_readPlain_j128 tf post τ2 (nI d) := by
          intro τ2 a2 f2 w
          have hlt : j < N := by rcases w with w | w | w <;> exact hCt.lt w (by decide)
          unfold w_M_readPlain_j128
          refine hsum.2 τ2 (j + 1) l' _ (hCu.ag a2) f2 hlt hj.2.2.2 (fun e h4 τ3 a3 b3 => ?_) (fun j4 l4 D4 h4 τ3 a3 f3 => ?_)
          · exact k0' e (by unfold pCmp; rw [h3]; simp only []; rw [if_pos w, h4]) τ3 (a2.trans a3) b3
          · exact k1' j4 l4 _ (by unfold pCmp; rw [h3]; simp only []; rw [if_pos w, h4]) τ3 (a2.trans a3) f3
        refine s_takes1 hCt hj.2.1 f (fun z1 τ2 a2 f2 => ⟨fun _ => snd τ2 (a.trans a2) f2 (Or.inl z1), fun z => absurd z (by decide)⟩) (fun z1 => ⟨fun z => absurd rfl z, fun _ => s_takes1 hCt hj.2.1 f (fun z2 τ2 a2 f2 => ⟨fun _ => snd τ2 (a.trans a2) f2 (Or.inr (Or.inl z2)), fun z => absurd z (by decide)⟩) (fun z2 => ⟨fun z => absurd rfl z, fun _ => s_must1 hCt hj.2.1 f (fun z3 τ2 a2 f2 => snd τ2 (a.trans a2) f2 (Or.inr (Or.inr z3))) (fun z3 τ2 a2 b2 hb => ?_)⟩)⟩)
        unfold w_M_readPlain_j128
        refine hsum.1 τ2 _ hb (k0' j ?_ τ2 (a.trans a2) b2)
        unfold pCmp; rw [h3]; simp only []
        rw [if_neg (fun w => by rcases w with w | w | w; exact z1 w; exact z2 w; exact z3 w)]
    · have hp : pPos c (pSum o c v (8 - d)) br i' l = pBr c 141 br i' l := by unfold pPos; rw [if_pos z]
      have hlt : i' < N := hCu.lt z (by decide)
      rw [hp] at k0' k1'
      rw [show (8 : Int32) = nI 8 from rfl, nI_eq (by omega) (by decide)]
      refine ⟨fun z2 => ?_, fun z2 => ?_⟩
      · obtain ⟨p, hbr, prg, hit⟩ := h7 z2
        subst hbr
        unfold w_M_readPlain_j53 w_M_sign
        refine s_fine1 hF' ⟨fun _ σ4 e4 => ?_, fun z => absurd z (by decide)⟩
        rw [hF'.2.1, nI_1] at e4
        rw [nI_1]
        have a4 : Ag rdP υ σ4 := by rw [e4]; exact Ag.put (by unfold rdP; omega)
        have f4 : FA σ4 (i' + 1) l := ⟨by rw [e4, gI_sI, if_neg (by omega)]; exact hF'.1, by rw [e4, gI_same], by rw [e4, gI_sI, if_neg (by omega)]; exact hF'.2.2⟩
        refine rd_br (close := 141) prg hit (hCu.ag a4) f4 hlt hl (fun τ hb hp => s_must0 hb hp) (fun τ j l' hj hCt hFt w1 w2 => ?_) (fun e h3 τ a b => k0' e h3 τ (a4.trans a) b) (fun j l' D h3 τ a f => k1' j l' D h3 τ (a4.trans a) f)
        exact s_must1 hCt hj hFt (fun z => w1 (z.trans (by decide))) (fun z υ a b _ => w2 (fun y => z (y.trans (by decide))) υ a b)
      · rw [h8 z2] at k0' k1'
        refine s_faults1 hCu hi' hF' (fun τ a b f => ?_)
        unfold w_M_readPlain_j53
        exact s_fine0 f ⟨fun z => absurd rfl z, fun _ => k0' i' rfl τ a b⟩
theorem rd_testD (hN : N ≤ 400) (hc : ∀ k, N ≤ k → c k = 0) (hv : ∀ k, 0 ≤ v k) : ∀ (d n : Nat), d < n → d ≤ 8 → Rd N c v q o (fun σ post => w_M_readTest_d n σ (nI (8 - d)) post) (pTest o c v d) := by
  intro d
  induction d with
  | zero =>
    intro n hn _
    cases n with
    | zero => omega
    | succ n =>
      have pl := rd_plain (q := q) (o := o) (tf := w_M_readTest_d n) (br := none) (d := 8) hN hc hv (Nat.le_refl _) (fun _ => rfl) (fun z => absurd rfl z)
      have pp := Prg_plain (br := none) hc (Prg_sum (o := o) (v := v) hc 0) (by intro p h; simp at h)
      exact rd_test hN (Prg_seq hc (by decide) pp) (rd_both hN pp pl)
  | succ d ih =>
    intro n hn hd
    cases n with
    | zero => omega
    | succ n =>
      have h := ih n (by omega) (by omega)
      rw [show 8 - d = (8 - (d + 1)) + 1 by omega] at h
      have pb : PrgO N (some (pTest o c v d)) := by intro p h; simp at h; rw [← h]; exact Prg_test hc d
      have pl := rd_plain (q := q) (o := o) (tf := w_M_readTest_d n) (br := some (pTest o c v d)) (d := 8 - (d + 1)) hN hc hv (by omega) (fun z => by omega) (fun _ => ⟨_, rfl, Prg_test hc d, h⟩)
      rw [show 8 - (8 - (d + 1)) = d + 1 by omega] at pl
      have pp := Prg_plain hc (Prg_sum (o := o) (v := v) hc (d + 1)) pb
      exact rd_test hN (Prg_seq hc (by decide) pp) (rd_both hN pp pl)
end RM2
