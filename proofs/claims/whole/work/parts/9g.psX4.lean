/-! ===== the class's parser: parts, brackets, comparisons ===== -/
def fwN (o : Bool) : Nat := if o then 16 else 8
def nW (o : Bool) : Nat := if o then 6 else 8
def ssW (o : Bool) : Nat := if o then 5 else 4
theorem leaf_ix (o : Bool) (c : Int32) : (∃ w, w < nW o ∧ c = nI (fwN o + w) ∧ ixS (csS (ssW o)) 0 c = nI w ∧ fw o ≤ c ∧ c ≤ lw o) ∨ (ixS (csS (ssW o)) 0 c = -1 ∧ ¬ (fw o ≤ c ∧ c ≤ lw o)) := by
  by_cases h : fw o ≤ c ∧ c ≤ lw o
  · left
    have h0 : 0 ≤ c := by cases o <;> simp [fw] at h <;> grind
    obtain ⟨e, hlt⟩ := nI_toN h0
    generalize c.toNatClampNeg = k at e hlt
    subst e
    have hk : fwN o ≤ k ∧ k < fwN o + nW o := by
      cases o
      · have h1 : nI 8 ≤ nI k ∧ nI k ≤ nI 15 := h
        rw [nI_leI (by decide) hlt, nI_leI hlt (by decide)] at h1
        unfold fwN nW; simp; omega
      · have h1 : nI 16 ≤ nI k ∧ nI k ≤ nI 21 := h
        rw [nI_leI (by decide) hlt, nI_leI hlt (by decide)] at h1
        unfold fwN nW; simp; omega
    refine ⟨k - fwN o, by omega, by congr 1; omega, ?_, h⟩
    have key : ∀ o : Bool, ∀ w, w < nW o → ixS (csS (ssW o)) 0 (nI (fwN o + w)) = nI w := by decide +kernel
    have := key o (k - fwN o) (by omega)
    rw [show fwN o + (k - fwN o) = k by omega] at this
    exact this
  · right
    refine ⟨?_, h⟩
    have hs : ssW o < 10 := by cases o <;> decide
    rw [ixS_at (csS (ssW o)) 0 (csS (ssW o)).length c (fun j hj => ?_) (Nat.le_refl _) (fun z => absurd z (Nat.lt_irrefl _)), if_neg (Nat.lt_irrefl _)]
    intro e
    refine h ?_
    have key : ∀ o : Bool, ∀ j, j < (csS (ssW o)).length → fw o ≤ nI ((csS (ssW o)).getD j 0) ∧ nI ((csS (ssW o)).getD j 0) ≤ lw o := by decide +kernel
    rw [e]; exact key o j hj
section PX4
variable {σ : DD} {T : TXT} {b : Nat → Nat} {sz N i l s u : Nat} {o : Bool}
theorem num_le {m : Nat} (hm : m ≤ 1000) : (if tC b sz i = 50 then nI (min 9999 (vlT b sz (tP b sz i))) else -1) ≤ nI m ↔ (tC b sz i = 50 → tV b sz i ≤ nI m) := by
  have hv := tV_rng (b := b) (sz := sz) i
  by_cases c : tC b sz i = 50
  · rw [if_pos c, nI_leI (by omega) (by omega)]
    unfold tV
    rw [nI_leI (by omega) (by omega)]
    exact ⟨fun z _ => by omega, fun z => by have := z c; omega⟩
  · rw [if_neg c]
    exact ⟨fun _ z => absurd z c, fun _ => by have := nI_pos' (n := m) (by omega); grind⟩
theorem num_eq (hc : tC b sz i = 50) {m : Nat} (hm : m ≤ 1000) (hv : tV b sz i ≤ nI m) : (if tC b sz i = 50 then nI (min 9999 (vlT b sz (tP b sz i))) else -1) = tV b sz i ∧ vlT b sz (tP b sz i) ≤ m := by
  have hr := tV_rng (b := b) (sz := sz) i
  unfold tV at hv ⊢
  rw [nI_leI (by omega) (by omega)] at hv
  rw [if_pos hc]
  exact ⟨by congr 1; omega, hv⟩
theorem pd_part {rec : DD → Int32 → Int32 → (Int32 → DD → Prop) → Prop} {br : Option (Nat → Nat → PR DS)} {d : Int32} (hN : N ≤ 400) (hc : ∀ k, N ≤ k → tC b sz k = 0) (hb : BrP b sz N o (fun D => D) (fun σ post => rec σ d 0 post) 193 br) : Pd b sz N o (fun D => D) (fun σ post => w_Pars_part_o T rec σ d post) (pPart o (tC b sz) (tV b sz) br) := by
  intro σ i l s u post hP hi hl k0 k1
  have hsi := hP.2.2.2.2.2.1
  show w_Pars_part_o T rec σ d post
  unfold w_Pars_part_o
  refine s_isSign (n := 91) hP.1 (by decide) (br0 (fun z => ?_) (fun z => ?_))
  · have zn : ¬ tC b sz i = 191 := fun w => of_decide_eq_false z (w.trans (by decide))
    have hp : pPart o (tC b sz) (tV b sz) br i l = pLeaf o (tC b sz) (tV b sz) i l := by unfold pPart; rw [if_neg zn]
    rw [hp] at k0 k1
    have j37 : w_Pars_part_j37 T rec post σ (ssW o) := by
      unfold w_Pars_part_j37
      refine ⟨by cases o <;> decide, s_indexAmong (by cases o <;> decide) hP.1 (s_number hP.1 ?_)⟩
      rw [hP.2.1, show (50 : Int32) ≤ nI l ↔ 50 ≤ l from nI_leI (a := 50) (b := l) (by decide) (by omega)]
      have no : pLeaf o (tC b sz) (tV b sz) i l = .inl i → w_Pars_part_j75 T rec post σ := by
        intro h
        unfold w_Pars_part_j75
        exact s_halt hP hi hN (k0 i h)
      have hx := leaf_ix o (tC b sz i)
      have hw50 : ¬ (fw o ≤ (50 : Int32) ∧ (50 : Int32) ≤ lw o) := by cases o <;> decide
      have cond : ((tC b sz i = 50 ∧ tV b sz i ≤ 1000) ∨ (fw o ≤ tC b sz i ∧ tC b sz i ≤ lw o)) ↔ ((if tC b sz i = 50 then nI (min 9999 (vlT b sz (tP b sz i))) else -1) ≤ nI 1000 ∧ ¬ (ixS (csS (ssW o)) 0 (tC b sz i) = -1 ∧ (if tC b sz i = 50 then nI (min 9999 (vlT b sz (tP b sz i))) else -1) = -1)) := by
        rw [num_le (by decide)]
        by_cases c : tC b sz i = 50
        · have m1 : ¬ nI (min 9999 (vlT b sz (tP b sz i))) = -1 := nI_m1 (by omega)
          rw [if_pos c]
          constructor
          · intro w
            refine ⟨fun _ => ?_, fun w2 => m1 w2.2⟩
            rcases w with w | w
            · exact w.2
            · rw [c] at w; exact absurd w hw50
          · intro w; exact Or.inl ⟨c, w.1 c⟩
        · rw [if_neg c]
          constructor
          · intro w
            refine ⟨fun w2 => absurd w2 c, fun w2 => ?_⟩
            rcases w with w | w
            · exact c w.1
            · rcases hx with ⟨w', q1, q2, q3, q4⟩ | ⟨q1, q2⟩
              · rw [q3] at w2; exact nI_m1 (by unfold nW at q1; split at q1 <;> omega) w2.1
              · exact q2 w
          · intro w
            rcases hx with ⟨w', q1, q2, q3, q4⟩ | ⟨q1, q2⟩
            · exact Or.inr q4
            · exact absurd ⟨q1, rfl⟩ w.2
      have yes : ¬ 50 ≤ l → ((tC b sz i = 50 ∧ tV b sz i ≤ 1000) ∨ (fw o ≤ tC b sz i ∧ tC b sz i ≤ lw o)) → w_Pars_part_j80 T rec post σ (ixS (csS (ssW o)) 0 (tC b sz i)) (if tC b sz i = 50 then nI (min 9999 (vlT b sz (tP b sz i))) else -1) := by
        intro hl5 w
        have hlt : i < N := by
          rcases w with w | w
          · exact lt_of_c hc (by rw [w.1]; decide)
          · refine Nat.lt_of_not_le (fun z2 => ?_)
            rw [hc i z2] at w
            revert w; cases o <;> decide
        unfold w_Pars_part_j80
        intro σ5 e5
        rw [hP.2.1, nI_1] at e5
        have b5 : AgX (fun o k => o = 30 ∧ k = 6) noL σ σ5 := by rw [e5]; exact AgX.put ⟨rfl, rfl⟩
        have a5 : AgX pdS noL σ σ5 := b5.mono (fun o k w => by unfold pdS; omega) (fun _ w => w)
        have hP5 : PC σ5 b sz o i (l + 1) s u := by
          refine ⟨hP.1.ag b5 (by omega) (by omega), by rw [e5, gI_same], ?_, ?_, hP.2.2.2.2.1, hsi, ?_⟩
          · rw [b5.i _ _ (by omega)]; exact hP.2.2.1
          · rw [b5.i _ _ (by omega)]; exact hP.2.2.2.1
          · rw [b5.i _ _ (by omega)]; exact hP.2.2.2.2.2.2
        refine s_adv hP5 (fun σ8 a8 c8 hP8 => ?_)
        have a8' := a5.trans a8
        have c8' : ∀ k, gI σ8 32 k = gI σ 32 k := fun k => by rw [c8, b5.i _ _ (by omega)]
        rw [hP8.2.2.2.2.2.2]
        have nl : ¬ l = 50 := by omega
        rcases hx with ⟨w', q1, q2, q3, q4⟩ | ⟨q1, q2⟩
        · rw [q3]
          have w16 : w' < 8 := by unfold nW at q1; split at q1 <;> omega
          have c50 : ¬ tC b sz i = 50 := fun w => by rw [w] at q4; exact hw50 q4
          refine ⟨fun _ => ?_, fun z => absurd z (nI_m1 (by omega))⟩
          have wo : (¬ tC b sz i = 20) → (¬ tC b sz i = 21) → w_Pars_part_j123 T rec post σ8 (nI w') := by
            intro n20 n21
            unfold w_Pars_part_j123
            refine s_leafW (i := i) hP8 a8' c8' hsi (by omega) hlt hN (by unfold wW; unfold nW at q1; split at q1 <;> simp_all <;> omega) (fun τ hG => k1 (i + 1) (l + 1) (fun e => some (e w')) ?_ τ (s + 1) (u ||| 2 ^ w') hG)
            unfold pLeaf
            rw [if_pos w, if_neg nl, if_neg n20, if_neg n21, if_neg c50]
            have : (tC b sz i - fw o).toNatClampNeg = w' := by
              rw [q2, show fw o = nI (fwN o) by cases o <;> rfl, nI_sub (by omega), nI_clamp (by omega)]; omega
            rw [this]
          cases o with
          | false =>
            refine ⟨fun _ => wo ?_ ?_, fun z => absurd z (by decide)⟩
            · rw [q2, show (20 : Int32) = nI 20 from rfl, nI_eq (by unfold fwN; simp; omega) (by decide)]; unfold fwN; unfold nW at q1; simp at q1 ⊢; omega
            · rw [q2, show (21 : Int32) = nI 21 from rfl, nI_eq (by unfold fwN; simp; omega) (by decide)]; unfold fwN; unfold nW at q1; simp at q1 ⊢; omega
          | true =>
            have q2' : tC b sz i = nI (16 + w') := q2
            have q1' : w' < 6 := q1
            refine ⟨fun z => absurd rfl z, fun _ => ?_⟩
            rw [show (4 : Int32) ≤ nI w' ↔ 4 ≤ w' from nI_leI (a := 4) (b := w') (by decide) (by omega)]
            refine ⟨fun h4 => ?_, fun h4 => wo ?_ ?_⟩
            · unfold w_Pars_numberedWord
              refine s_number hP8.1 ?_
              rw [show nI w' = 5 ↔ w' = 5 from nI_eq (a := w') (b := 5) (by omega) (by decide)]
              have j19 : ∀ (at' hi' m : Nat), m ≤ 8 → hi' + 1 = m → at' + m ≤ 16 → (nI w' = 5 ↔ at' = 12) → (¬ nI w' = 5 → at' = 4) → pLeaf true (tC b sz) (tV b sz) i l = pNum (tC b sz) (tV b sz) (i + 1) (l + 1) at' hi' → w_Pars_numberedWord_j19 T (fun r12 σ13 => bz r12 ∧ post r12 σ13) σ8 (nI w') (if tC b sz (i + 1) = 50 then nI (min 9999 (vlT b sz (tP b sz (i + 1)))) else -1) (nI m) := by
                intro at' hi' m hm hhi hat w5 w4 hpn
                have hbad : ¬ (tC b sz (i + 1) = 50 ∧ 0 ≤ tV b sz (i + 1) ∧ tV b sz (i + 1) ≤ nI hi') → w_Pars_numberedWord_j29 T (fun r12 σ13 => bz r12 ∧ post r12 σ13) σ8 := by
                  intro w2
                  unfold w_Pars_numberedWord_j29
                  refine s_halt (post := fun r σ => bz r ∧ post r σ) hP8 hlt hN (fun τ a q8 q4 => ⟨Or.inl rfl, k0 (i + 1) ?_ τ (a8'.q.trans a) q8 q4⟩)
                  rw [hpn]; unfold pNum; rw [if_neg w2]
                have hle := num_le (b := b) (sz := sz) (i := i + 1) (m := hi') (by omega)
                have hvr := tV_rng (b := b) (sz := sz) (i + 1)
                unfold w_Pars_numberedWord_j19
                by_cases c50' : tC b sz (i + 1) = 50
                · refine ⟨fun z => ?_, fun _ => ⟨fun z => ?_, fun z => hbad (fun w2 => z ?_)⟩⟩
                  · rw [if_pos c50'] at z
                    have := nI_pos' (n := min 9999 (vlT b sz (tP b sz (i + 1)))) (by omega)
                    grind
                  · rw [if_pos c50', nI_ltI (by omega) (by omega)] at z
                    have hv : tV b sz (i + 1) ≤ nI hi' := by unfold tV; rw [nI_leI (by omega) (by omega)]; omega
                    have ne := num_eq c50' (by omega) hv
                    have hlt2 : i + 1 < N := lt_of_c hc (by rw [c50']; decide)
                    rw [ne.1]
                    have pn : pNum (tC b sz) (tV b sz) (i + 1) (l + 1) at' hi' = .inr (i + 1 + 1, l + 1, fun e => some (e (at' + vlT b sz (tP b sz (i + 1))))) := by
                      unfold pNum; rw [if_pos ⟨c50', tV_0 (i + 1), hv⟩]
                      unfold tV; rw [nI_clamp (by omega)]
                    refine s_adv hP8 (fun σ9 a9 c9 hP9 => ?_)
                    have lf : w_Pars_wordStep T σ9 (nI (at' + vlT b sz (tP b sz (i + 1)))) (fun r σ => bz r ∧ (bz r ∧ post r σ)) := s_leafW (i := i) (post := fun r σ => bz r ∧ post r σ) hP9 (a8'.trans a9) (fun k => by rw [c9, c8']) hsi (by omega) hlt2 hN (show _ < 16 by omega) (fun τ hG => ⟨Or.inr rfl, k1 (i + 1 + 1) (l + 1) _ (hpn.trans pn) τ _ _ hG⟩)
                    refine ⟨fun w5' => ?_, fun w5' => ?_⟩
                    · rw [w4 w5', ← nI_add'] at lf; exact lf
                    · rw [w5.1 w5', ← nI_add'] at lf; exact lf
                  · rw [if_pos c50', nI_ltI (by omega) (by omega)]
                    have := w2.2.2
                    unfold tV at this
                    rw [nI_leI (by omega) (by omega)] at this
                    omega
                · have hb2 := hbad (fun w2 => c50' w2.1)
                  rw [if_neg c50']
                  exact ⟨fun _ => hb2, fun z => absurd (by decide) z⟩
              have w5e : nI w' = 5 ↔ w' = 5 := nI_eq (a := w') (b := 5) (by omega) (by decide)
              refine ⟨fun w5 => j19 4 7 8 (by decide) rfl (by decide) ⟨fun z => absurd (w5e.1 z) w5, fun z => absurd z (by decide)⟩ (fun _ => rfl) ?_, fun w5 => j19 12 3 4 (by decide) rfl (by decide) ⟨fun _ => rfl, fun _ => w5e.2 w5⟩ (fun z => absurd (w5e.2 w5) z) ?_⟩
              · have c20 : tC b sz i = 20 := by rw [q2', show w' = 4 by omega]; rfl
                unfold pLeaf; rw [if_pos w, if_neg nl, if_pos c20]
              · have c21 : tC b sz i = 21 := by rw [q2', w5]; rfl
                unfold pLeaf; rw [if_pos w, if_neg nl, if_neg (by rw [c21]; decide), if_pos c21]
            · rw [q2', show (20 : Int32) = nI 20 from rfl, nI_eq (by omega) (by decide)]; omega
            · rw [q2', show (21 : Int32) = nI 21 from rfl, nI_eq (by omega) (by decide)]; omega
        · rw [q1]
          refine ⟨fun z => absurd rfl z, fun _ => ?_⟩
          have c50 : tC b sz i = 50 ∧ tV b sz i ≤ 1000 := by rcases w with w | w; exact w; exact absurd w q2
          have ne := num_eq c50.1 (m := 1000) (by decide) c50.2
          rw [ne.1]
          refine s_leafN (i := i) hP8 a8' c8' hsi (by omega) hlt hN ne.2 (fun τ hG => k1 (i + 1) (l + 1) (fun _ => some (i2l (tV b sz i))) ?_ τ (s + 1) u hG)
          unfold pLeaf
          rw [if_pos w, if_neg nl, if_neg (by rw [c50.1]; decide), if_neg (by rw [c50.1]; decide), if_pos c50.1]
      have nol : 50 ≤ l → pLeaf o (tC b sz) (tV b sz) i l = .inl i := by
        intro w
        unfold pLeaf
        by_cases c : ((tC b sz i = 50 ∧ tV b sz i ≤ 1000) ∨ (fw o ≤ tC b sz i ∧ tC b sz i ≤ lw o))
        · rw [if_pos c, if_pos (by omega)]
        · rw [if_neg c]
      have noc : ¬ ((tC b sz i = 50 ∧ tV b sz i ≤ 1000) ∨ (fw o ≤ tC b sz i ∧ tC b sz i ≤ lw o)) → pLeaf o (tC b sz) (tV b sz) i l = .inl i := by
        intro c; unfold pLeaf; rw [if_neg c]
      refine ⟨fun z => no (nol z), fun z5 => ⟨fun z => no (noc (fun w => ?_)), fun z => ⟨fun z2 => yes z5 (cond.2 ⟨?_, fun w => z2 w.1⟩), fun z2 => ⟨fun z3 => yes z5 (cond.2 ⟨?_, fun w => z3 w.2⟩), fun z3 => no (noc (fun w => (cond.1 w).2 ⟨z2, z3⟩))⟩⟩⟩⟩
      · have := (cond.1 w).1
        have z' : nI 1000 < (if tC b sz i = 50 then nI (min 9999 (vlT b sz (tP b sz i))) else -1) := z
        grind
      · have z' : ¬ nI 1000 < (if tC b sz i = 50 then nI (min 9999 (vlT b sz (tP b sz i))) else -1) := z
        grind
      · have z' : ¬ nI 1000 < (if tC b sz i = 50 then nI (min 9999 (vlT b sz (tP b sz i))) else -1) := z
        grind
    rw [hP.2.2.2.2.2.2]
    cases o with
    | false => exact ⟨fun z => absurd z (by decide), fun _ => j37⟩
    | true => exact ⟨fun _ => j37, fun z => absurd rfl z⟩
  · have z9 : tC b sz i = 191 := (of_decide_eq_true z).trans (by decide)
    have hp : pPart o (tC b sz) (tV b sz) br i l = pBr (tC b sz) 193 br i l := by unfold pPart; rw [if_pos z9]
    rw [hp] at k0 k1
    have hlt : i < N := lt_of_c hc (by rw [z9]; decide)
    exact hb σ i l s u _ hP hlt hl (fun e h τ a q8 q4 => ⟨Or.inl rfl, k0 e h τ a q8 q4⟩) (fun j l' D h τ s' u' hG => ⟨Or.inr rfl, k1 j l' D h τ s' u' hG⟩)
end PX4
