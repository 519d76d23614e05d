/-! ===== the class's parser: brackets, comparisons, tests, tied ===== -/
section PX5
variable {σ τ υ : DD} {T : TXT} {b : Nat → Nat} {sz N i l s u i0 : Nat} {o : Bool}
theorem PG.pre {i' j l' s' u' : Nat} {D : DS} (a : AgX pdS noL σ υ) (c : ∀ k, gI υ 32 k = gI σ 32 k) (h : PG υ τ b sz o i' l s u j l' s' u' D) (hi : i0 ≤ i') : PG σ τ b sz o i0 l s u j l' s' u' D := by
  obtain ⟨p1, p2, p3, p4, p5, p6, p7, p8, p9⟩ := h
  exact ⟨a.trans p1, p2, p3, by omega, p5, fun k hk => (p6 k hk).trans (c k), p7, p8, p9⟩
theorem PG.fwd {τ2 : DD} {j l' s' u' : Nat} {D : DS} (h : PG σ τ b sz o i l s u j l' s' u' D) (a : AgX pdS noL τ τ2) (c : ∀ k, gI τ2 32 k = gI τ 32 k) (hP : PC τ2 b sz o (j + 1) l' s' u') : PG σ τ2 b sz o i l s u (j + 1) l' s' u' D := by
  obtain ⟨p1, p2, p3, p4, p5, p6, p7, p8, p9⟩ := h
  exact ⟨p1.trans a, hP, p3, by omega, p5, fun k hk => (c k).trans (p6 k hk), p7, p8, p9.cg (fun k _ _ => c k)⟩
theorem PG.not {τ2 : DD} {i' j l' s' u' : Nat} {A : DB} (a : AgX pdS noL σ υ) (c : ∀ k, gI υ 32 k = gI σ 32 k) (h : PG υ τ b sz o i' l s u j l' s' u' (tD A)) (hs : s ≤ i0) (hi : i0 < i') (a2 : AgX pdS noL τ τ2) (e2 : τ2 = sI (sI τ 32 s' (jshl (nI 0) 4 ||| nI 2)) 30 4 (nI (s' + 1))) : PG σ τ2 b sz o i0 l s u j l' (s' + 1) u' (tD (notD true A)) := by
  obtain ⟨p1, p2, p3, p4, p5, p6, p7, p8, p9⟩ := h
  have b2 : AgX (fun o k => o = 32 ∨ (o = 30 ∧ k = 4)) noL τ τ2 := by rw [e2]; exact (AgX.put (by omega)).set (by omega)
  have c2 : ∀ k, ¬ k = s' → gI τ2 32 k = gI τ 32 k := fun k hk => by rw [e2, gI_sI, if_neg (by omega), gI_sI, if_neg (by omega)]
  have c2s : gI τ2 32 s' = jshl (nI 0) 4 ||| nI 2 := by rw [e2, gI_sI, if_neg (by omega), gI_same]
  refine ⟨(a.trans p1).trans a2, ⟨p2.1.ag b2 (by omega) (by omega), ?_, ?_, ?_, p2.2.2.2.2.1, by omega, ?_⟩, by omega, by omega, p5, fun k hk => ?_, p7, ?_, ?_⟩
  · rw [b2.i _ _ (by omega)]; exact p2.2.1
  · rw [e2, gI_same]
  · rw [b2.i _ _ (by omega)]; exact p2.2.2.2.1
  · rw [b2.i _ _ (by omega)]; exact p2.2.2.2.2.2.2
  · rw [c2 k (by omega), p6 k hk, c]
  · intro e e' he
    have := tD_inj (p8 e e' he)
    unfold tD notD; rw [this]
  · exact seg_not (by omega) (p9.cg (fun k k1 k2 => c2 k (by omega))) (by rw [c2s]; exact (enc (x := 0) (by decide) (by decide)).1)
theorem pd_brS {sf tf : DD → Int32 → (Int32 → DD → Prop) → Prop} {br : Option (Nat → Nat → PR DS)} {d : Nat} (hN : N ≤ 400) (hc : ∀ k, N ≤ k → tC b sz k = 0) (hd : d ≤ 8) (h8 : d = 8 → br = none) (h7 : ¬ d = 8 → ∃ p, br = some p ∧ Prg N p ∧ Pd b sz N o (fun D => D) (fun σ post => sf σ (nI (d + 1)) post) p) : BrP b sz N o (fun D => D) (fun σ post => w_Pars_bracketed_o T sf tf σ (nI d) 0 post) 193 br := by
  intro σ i l s u post hP hi hl k0 k1
  show w_Pars_bracketed_o T sf tf σ (nI d) 0 post
  unfold w_Pars_bracketed_o
  rw [show nI d < (8 : Int32) ↔ d < 8 from nI_ltI (a := d) (b := 8) (by omega) (by decide)]
  refine ⟨fun z => ?_, fun z => ?_⟩
  · obtain ⟨p, hbr, prg, hit⟩ := h7 (by omega)
    subst hbr
    refine s_adv hP (fun τ1 a1 c1 hP1 => ⟨fun _ => ?_, fun z => absurd rfl z⟩)
    rw [nI_1]
    refine hit τ1 (i + 1) l s u _ hP1 hi hl (fun e h2 τ2 a2 q8 q4 => ⟨fun z => absurd rfl z, fun _ => ?_⟩) (fun j l' D h2 τ2 s' u' hG => ⟨fun _ => ?_, fun z => absurd z (by decide)⟩)
    · exact k0 e (by unfold pBr; simp only []; rw [h2]) τ2 (a1.q.trans a2) q8 q4
    · have hj := (prg (i + 1) l hi hl).1 j l' D h2
      have hG0 := hG.pre (i0 := i) a1 c1 (by omega)
      unfold w_Pars_bracketed_j47
      refine ⟨fun _ => ?_, fun z => absurd rfl z⟩
      unfold w_Pars_bracketed_j62
      refine s_isSign (n := 93) hG.2.1.1 (by decide) (br1 (fun z2 => ?_) (fun z2 => ?_))
      · have e3 : tC b sz j = 193 := (of_decide_eq_true z2).trans (by decide)
        refine s_adv hG.2.1 (fun τ3 a3 c3 hP3 => k1 (j + 1) l' D ?_ τ3 s' u' (hG0.fwd a3 c3 hP3))
        unfold pBr; simp only []; rw [h2]; simp only []; rw [if_pos e3]
      · have e3 : ¬ tC b sz j = 193 := fun w => of_decide_eq_false z2 (w.trans (by decide))
        refine s_halt hG.2.1 hj.2.1 hN (fun τ3 a3 q8 q4 => k0 j ?_ τ3 (hG0.1.q.trans a3) q8 q4)
        unfold pBr; simp only []; rw [h2]; simp only []; rw [if_neg e3]
  · have hd8 : d = 8 := by omega
    rw [h8 hd8] at k0
    exact s_halt hP (by omega) hN (k0 i rfl)
theorem pd_brT {sf tf : DD → Int32 → (Int32 → DD → Prop) → Prop} {br : Option (Nat → Nat → PR DB)} {d : Nat} (hN : N ≤ 400) (hc : ∀ k, N ≤ k → tC b sz k = 0) (hd : d ≤ 8) (h8 : d = 8 → br = none) (h7 : ¬ d = 8 → ∃ p, br = some p ∧ Prg N p ∧ Pd b sz N o tD (fun σ post => tf σ (nI (d + 1)) post) p) : BrP b sz N o tD (fun σ post => w_Pars_bracketed_o T sf tf σ (nI d) 1 post) 141 br := by
  intro σ i l s u post hP hi hl k0 k1
  show w_Pars_bracketed_o T sf tf σ (nI d) 1 post
  unfold w_Pars_bracketed_o
  rw [show nI d < (8 : Int32) ↔ d < 8 from nI_ltI (a := d) (b := 8) (by omega) (by decide)]
  refine ⟨fun z => ?_, fun z => ?_⟩
  · obtain ⟨p, hbr, prg, hit⟩ := h7 (by omega)
    subst hbr
    refine s_adv hP (fun τ1 a1 c1 hP1 => ⟨fun z => absurd z (by decide), fun _ => ?_⟩)
    rw [nI_1]
    refine hit τ1 (i + 1) l s u _ hP1 hi hl (fun e h2 τ2 a2 q8 q4 => ⟨fun _ => ?_, fun z => absurd rfl z⟩) (fun j l' D h2 τ2 s' u' hG => ⟨fun z => absurd z (by decide), fun _ => ?_⟩)
    · exact k0 e (by unfold pBr; simp only []; rw [h2]) τ2 (a1.q.trans a2) q8 q4
    · have hj := (prg (i + 1) l hi hl).1 j l' D h2
      have hG0 := hG.pre (i0 := i) a1 c1 (by omega)
      unfold w_Pars_bracketed_j47
      refine ⟨fun z => absurd z (by decide), fun _ => ?_⟩
      unfold w_Pars_bracketed_j62
      refine s_isSign (n := 41) hG.2.1.1 (by decide) (br1 (fun z2 => ?_) (fun z2 => ?_))
      · have e3 : tC b sz j = 141 := (of_decide_eq_true z2).trans (by decide)
        refine s_adv hG.2.1 (fun τ3 a3 c3 hP3 => k1 (j + 1) l' D ?_ τ3 s' u' (hG0.fwd a3 c3 hP3))
        unfold pBr; simp only []; rw [h2]; simp only []; rw [if_pos e3]
      · have e3 : ¬ tC b sz j = 141 := fun w => of_decide_eq_false z2 (w.trans (by decide))
        refine s_halt hG.2.1 hj.2.1 hN (fun τ3 a3 q8 q4 => k0 j ?_ τ3 (hG0.1.q.trans a3) q8 q4)
        unfold pBr; simp only []; rw [h2]; simp only []; rw [if_neg e3]
  · have hd8 : d = 8 := by omega
    rw [h8 hd8] at k0
    exact s_halt hP (by omega) hN (k0 i rfl)
theorem cmp_fX {k : Int32} {kd : Nat} {A B : DS} (h : (k = 160 ∧ kd = 10) ∨ (k = 162 ∧ kd = 11) ∨ (k = 161 ∧ kd = 12)) : tD (cmpD k A B) = bin (fX (nI kd)) A B := by
  funext e
  unfold tD cmpD bin
  cases hA : A e with
  | none => rfl
  | some x =>
    cases hB : B e with
    | none => rfl
    | some y =>
      show some (if (if k = 160 then decide (x < y) else if k = 162 then decide (y < x) else decide (x = y)) = true then (1 : Int64) else 0) = fX (nI kd) x y
      have b0 : bnd 0 = some 0 := by decide
      have b1 : bnd 1 = some 1 := by decide
      have f10 : fX (nI 10) x y = bnd (if x < y then 1 else 0) := by unfold fX; simp [show nI 10 = 10 from rfl]
      have f11 : fX (nI 11) x y = bnd (if y < x then 1 else 0) := by unfold fX; simp [show nI 11 = 11 from rfl]
      have f12 : fX (nI 12) x y = bnd (if x = y then 1 else 0) := by unfold fX; simp [show nI 12 = 12 from rfl]
      rcases h with ⟨rfl, rfl⟩ | ⟨rfl, rfl⟩ | ⟨rfl, rfl⟩
      · rw [f10]
        by_cases c : x < y
        · rw [if_pos c, b1]; simp [c]
        · rw [if_neg c, b0]; simp [c]
      · rw [f11]
        by_cases c : y < x
        · rw [if_pos c, b1]; simp [c]
        · rw [if_neg c, b0]; simp [c]
      · rw [f12]
        by_cases c : x = y
        · rw [if_pos c, b1]; simp [c]
        · rw [if_neg c, b0]; simp [c]
theorem pd_cmp {sf : DD → Int32 → (Int32 → DD → Prop) → Prop} {p : Nat → Nat → PR DS} {d : Int32} (hN : N ≤ 400) (hc : ∀ k, N ≤ k → tC b sz k = 0) (prg : Prg N p) (hit : Pd b sz N o (fun D => D) (fun σ post => sf σ d post) p) : Pd b sz N o tD (fun σ post => w_Pars_comparison_o T sf σ d post) (pCmp (tC b sz) p) := by
  intro σ i l s u post hP hi hl k0 k1
  show w_Pars_comparison_o T sf σ d post
  unfold w_Pars_comparison_o
  refine hit σ i l s u _ hP hi hl (fun e h2 τ a q8 q4 => ⟨fun z => absurd rfl z, fun _ => k0 e (by unfold pCmp; rw [h2]) τ a q8 q4⟩) (fun j l1 A h2 τ s1 u1 hG => ⟨fun _ => ?_, fun z => absurd z (by decide)⟩)
  have hj := (prg i l hi hl).1 j l1 A h2
  have go : ∀ kd : Nat, (tC b sz j = 160 ∧ kd = 10) ∨ (tC b sz j = 162 ∧ kd = 11) ∨ (tC b sz j = 161 ∧ kd = 12) → w_Pars_comparison_j70 T sf post τ d (nI kd) := by
    intro kd w
    have w3 : tC b sz j = 160 ∨ tC b sz j = 162 ∨ tC b sz j = 161 := by
      rcases w with w | w | w
      · exact Or.inl w.1
      · exact Or.inr (Or.inl w.1)
      · exact Or.inr (Or.inr w.1)
    have hlt : j < N := by rcases w3 with w | w | w <;> exact lt_of_c hc (by rw [w]; decide)
    unfold w_Pars_comparison_j70
    refine s_adv hG.2.1 (fun τ1 a1 c1 hP1 => hit τ1 (j + 1) l1 s1 u1 _ hP1 hlt hj.2.2.2 (fun e h3 τ2 a2 q8 q4 => s_stepB q4 (fun r τ3 a4 g8 g4 => ⟨Or.inl rfl, k0 e ?_ τ3 (((hG.1.trans a1).q.trans a2).trans a4) (g8.trans q8) g4⟩)) (fun j2 l2 B h3 τ2 s2 u2 hG2 => ?_))
    · unfold pCmp; rw [h2]; simp only []; rw [if_pos w3, h3]
    · have hj2 := (prg (j + 1) l1 hlt hj.2.2.2).1 j2 l2 B h3
      have hs2 := hG2.2.2.2.1
      have hsi := hG.2.1.2.2.2.2.2.1
      refine s_step (x := 0) hG2.2.1.2.2.1 (by omega) (fun τ3 a4 e4 => ⟨Or.inr rfl, k1 j2 l2 (cmpD (tC b sz j) A B) ?_ τ3 (s2 + 1) u2 ?_⟩)
      · unfold pCmp; rw [h2]; simp only []; rw [if_pos w3, h3]
      · rw [cmp_fX w]
        exact PG.two hN hj2.2.1 hG a1 c1 hG2 a4 e4 (by rcases w with w | w | w <;> omega)
  refine s_isSign (n := 60) hG.2.1.1 (by decide) (br0 (fun z => s_isSign (n := 62) hG.2.1.1 (by decide) (br0 (fun z2 => ?_) (fun z2 => ?_))) (fun z => ?_))
  · unfold w_Pars_comparison_j46
    refine ⟨fun z => absurd rfl z, fun _ => s_isSign (n := 61) hG.2.1.1 (by decide) (br1 (fun z3 => ?_) (fun z3 => ?_))⟩
    · exact go 12 (Or.inr (Or.inr ⟨(of_decide_eq_true z3).trans (by decide), rfl⟩))
    · refine s_halt hG.2.1 hj.2.1 hN (fun τ3 a3 q8 q4 => k0 j ?_ τ3 (hG.1.q.trans a3) q8 q4)
      unfold pCmp; rw [h2]; simp only []
      rw [if_neg (fun w => ?_)]
      rcases w with w | w | w
      · exact of_decide_eq_false z (w.trans (by decide))
      · exact of_decide_eq_false z2 (w.trans (by decide))
      · exact of_decide_eq_false z3 (w.trans (by decide))
  · unfold w_Pars_comparison_j46
    exact ⟨fun _ => go 11 (Or.inr (Or.inl ⟨(of_decide_eq_true z2).trans (by decide), rfl⟩)), fun z => absurd z (by decide)⟩
  · unfold w_Pars_comparison_j46
    exact ⟨fun _ => go 10 (Or.inl ⟨(of_decide_eq_true z).trans (by decide), rfl⟩), fun z => absurd z (by decide)⟩
end PX5
