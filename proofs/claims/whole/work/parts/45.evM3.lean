section EVM3
variable {σ τ : DD} {B N : Nat} {c v : Nat → Int32} {o : Bool} {e : Nat → Int64}
theorem ev_leaf {sf : DD → Int32 → (Int64 → DD → Prop) → Prop} {i j : Nat} {D : DS} {a3 : Int32} {x : Int64} {live br : Bool} {post : Int64 → DD → Prop} (hx : D e = some x) (hE : EC σ B N c v o e) (hg : gI σ 0 22 = nI (B + j)) (hb : gI σ 0 24 = bl br)
    (hw : (c i = 20 → ∃ m : Nat, m < 8 ∧ a3 = nI m ∧ i2l (gI σ 27 m) = x) ∧ (c i = 21 → ∃ m : Nat, m < 4 ∧ a3 = nI m ∧ i2l (gI σ 28 m) = x) ∧ (c i = 50 → ∃ m : Nat, m < 6012 ∧ (3212 + nI (B + j)) - 1 = nI m ∧ i2l (gI σ 4 m) = x) ∧ (¬ c i = 20 → ¬ c i = 21 → ¬ c i = 50 → ∃ m : Nat, m < 8 ∧ c i - gI σ 0 8 = nI m ∧ i2l (gI σ 26 m) = x))
    (k : ∀ r τ, Ag evP σ τ → gI τ 0 22 = nI (B + j) → gI τ 0 24 = bl (br || (live && (D e).isNone)) → (live = true → br = false → ∀ x, D e = some x → r = x) → post r τ) : w_M_partOf_j87 sf post σ (bl live) (c i) a3 := by
  have k0 : ∀ r, (live = true → br = false → r = x) → post r σ := by
    intro r hr
    refine k r σ (Ag.refl σ) hg ?_ ?_
    · rw [hb, hx]; cases live <;> cases br <;> rfl
    · intro h1 h2 y hy
      rw [hx] at hy
      injection hy with hy
      rw [← hy]; exact hr h1 h2
  obtain ⟨w1, w2, w3, w4⟩ := hw
  unfold w_M_partOf_j87 w_M_partOf_j112
  refine ⟨fun q => k0 0 (fun h => by rw [h] at q; exact absurd q (by decide)), fun q => ⟨fun q2 => ?_, fun q2 => k0 0 (fun _ h => by rw [hb, h] at q2; exact absurd rfl q2)⟩⟩
  refine ⟨fun q3 => ⟨fun q4 => absurd q3 q4, fun _ => ?_⟩, fun q3 => ⟨fun q4 => ⟨fun q5 => ?_, fun q5 => ?_⟩, fun q4 => ⟨fun _ => ?_, fun q5 => absurd q5 q3⟩⟩⟩
  · obtain ⟨m, h1, h2, h3⟩ := w1 q3
    rw [h2, nI_clamp (by omega)]
    exact ⟨vp_in_nI h1 (by decide), k0 _ (fun _ _ => h3)⟩
  · obtain ⟨m, h1, h2, h3⟩ := w4 q3 q4 q5
    rw [h2, nI_clamp (by omega)]
    exact ⟨vp_in_nI h1 (by decide), k0 _ (fun _ _ => h3)⟩
  · obtain ⟨m, h1, h2, h3⟩ := w3 q5
    rw [hg, h2, nI_clamp (by omega)]
    exact ⟨vp_in_nI h1 (by decide), k0 _ (fun _ _ => h3)⟩
  · obtain ⟨m, h1, h2, h3⟩ := w2 q4
    rw [h2, nI_clamp (by omega)]
    exact ⟨vp_in_nI h1 (by decide), k0 _ (fun _ _ => h3)⟩
theorem nI_toN {x : Int32} (h : 0 ≤ x) : x = nI x.toNatClampNeg ∧ x.toNatClampNeg < 2 ^ 31 := by
  obtain ⟨j, hj, e⟩ := nI_of (x := x) (by grind)
  rw [e, nI_clamp hj]; exact ⟨rfl, hj⟩
theorem ev_part {sf : DD → Int32 → (Int64 → DD → Prop) → Prop} {br0 : Option (Nat → Nat → PR DS)} (hp : ∀ p, br0 = some p → EvP B N c v o e sf p) (prg : PrgO N br0) : EvP B N c v o e (w_M_partOf_o sf) (pPart o c v br0) := by
  intro i l j l' D hi hl hj
  intro σ live br post hE hg hb k
  have e91 : (100 : Int32) + 91 = 191 := by decide
  unfold w_M_partOf_o w_M_sign
  rw [e91]
  unfold pPart at hj
  refine s_passes0 hE hi hg (fun q => ⟨fun z => absurd z (by decide), fun _ => ?_⟩) (fun q => ⟨fun _ => ?_, fun z => absurd rfl z⟩)
  · rw [if_pos q] at hj
    unfold pBr at hj
    have hlt : i < N := lt_of_c hE.2.2.2.2.2.1 (by rw [q]; decide)
    cases br0 with
    | none => simp at hj
    | some p =>
      cases hq : p (i + 1) l with
      | inl x => simp [hq] at hj
      | inr q2 =>
        obtain ⟨j1, l1, A⟩ := q2
        simp only [hq] at hj
        by_cases hc : c j1 = 193
        · rw [if_pos hc] at hj
          simp at hj
          obtain ⟨h1, h2, h3⟩ := hj
          subst h1; subst h3
          refine hp p rfl (i + 1) l j1 l1 A (by omega) hl hq _ live br _ (hE.ag (Ag.put ⟨rfl, Or.inl rfl⟩)) gI_same (by rw [gI_sI]; simpa using hb) ?_
          intro r τ ag g b hv σ29 e29
          subst e29
          rw [g, nI_1]
          refine k r _ ((Ag.put ⟨rfl, Or.inl rfl⟩).trans (ag.trans (Ag.put ⟨rfl, Or.inl rfl⟩))) gI_same ?_ hv
          rw [gI_sI]; simpa using b
        · rw [if_neg hc] at hj; simp at hj
  · rw [if_neg q] at hj
    rw [hg]
    refine s_codeAt hE hi ?_
    intro σ23 e23
    subst e23
    rw [hg, nI_1]
    have hE1 : EC (sI σ 0 22 (nI (B + i + 1))) B N c v o e := hE.ag (Ag.put ⟨rfl, Or.inl rfl⟩)
    have n50 : ∀ m, c m = 50 → m < N := fun m z => lt_of_c hE.2.2.2.2.2.1 (by rw [z]; decide)
    obtain ⟨E1, E2, E3, E4, E5, E6, E7, E8, E9⟩ := hE
    unfold pLeaf at hj
    by_cases hr : (c i = 50 ∧ v i ≤ 1000) ∨ (fw o ≤ c i ∧ c i ≤ lw o)
    · rw [if_pos hr] at hj
      by_cases h50 : l = 50
      · rw [if_pos h50] at hj; simp at hj
      · rw [if_neg h50] at hj
        have num : ∀ (at' hi' : Nat), (hi' = 7 ∨ hi' = 3) → pNum c v (i + 1) (l + 1) at' hi' = .inr (j, l', D) → c (i + 1) = 50 ∧ j = i + 2 ∧ ∃ m : Nat, m ≤ hi' ∧ v (i + 1) = nI m ∧ D e = some (e (at' + m)) := by
          intro at' hi' hh hn
          unfold pNum at hn
          by_cases hc : c (i + 1) = 50 ∧ 0 ≤ v (i + 1) ∧ v (i + 1) ≤ nI hi'
          · rw [if_pos hc] at hn
            simp at hn
            obtain ⟨h1, h2, h3⟩ := hn
            have hm := nI_toN hc.2.1
            refine ⟨hc.1, h1.symm, (v (i + 1)).toNatClampNeg, ?_, hm.1, by rw [← h3]⟩
            have := hc.2.2
            rw [hm.1, nI_leI hm.2 (by omega)] at this
            exact this
          · rw [if_neg hc] at hn; simp at hn
        have go2 : ∀ x : Int64, c (i + 1) = 50 → j = i + 2 → D e = some x → (c i = 20 → ∃ m : Nat, m < 8 ∧ v (i + 1) = nI m ∧ i2l (gI σ 27 m) = x) → (c i = 21 → ∃ m : Nat, m < 4 ∧ v (i + 1) = nI m ∧ i2l (gI σ 28 m) = x) → (c i = 20 ∨ c i = 21) → w_M_partOf_j63 sf post (sI σ 0 22 (nI (B + i + 1))) (bl live) (c i) := by
          intro x h1 h2 h3 h4 h5 h6
          have hlt := n50 _ h1
          unfold w_M_partOf_j63
          rw [gI_same, show (3212 : Int32) = nI 3212 from rfl, nI_add, nI_clamp (by omega)]
          refine ⟨vp_in_nI (by omega) (by decide), ?_⟩
          intro v12 e12 σ14 e14
          have hv : v12 = v (i + 1) := by
            rw [e12, gI_sI, if_neg (by omega), show B + i + 1 = B + (i + 1) from rfl]
            exact E5 (i + 1) hlt
          subst e14
          subst h2
          rw [hv, nI_1]
          refine ev_leaf (j := i + 2) h3 (hE1.ag (Ag.put ⟨rfl, Or.inl rfl⟩)) gI_same (br := br) (by simp [gI_sI]; exact hb) ⟨?_, ?_, ?_, ?_⟩ ?_
          · intro z; obtain ⟨m, y1, y2, y3⟩ := h4 z; exact ⟨m, y1, y2, by simp [gI_sI]; exact y3⟩
          · intro z; obtain ⟨m, y1, y2, y3⟩ := h5 z; exact ⟨m, y1, y2, by simp [gI_sI]; exact y3⟩
          · intro z; rw [z] at h6; exact absurd h6 (by decide)
          · intro z1 z2; exact (h6.elim z1 z2).elim
          · intro r τ ag g b hv
            exact k r τ ((Ag.put ⟨rfl, Or.inl rfl⟩).trans ((Ag.put ⟨rfl, Or.inl rfl⟩).trans ag)) g b hv
        have ho : (c i = 20 ∨ c i = 21) → o = true := by
          intro z
          rcases hr with ⟨h1, -⟩ | ⟨h1, h2⟩
          · rw [h1] at z; exact absurd z (by decide)
          · cases o with
            | true => rfl
            | false => rcases z with z | z <;> rw [z] at h2 <;> exact absurd h2 (by decide)
        by_cases h20 : c i = 20
        · rw [if_pos h20] at hj
          obtain ⟨h1, h2, m, h3, h4, h5⟩ := num 4 7 (Or.inl rfl) hj
          refine ⟨fun _ => ?_, fun z => absurd h20 z⟩
          refine go2 _ h1 h2 h5 (fun _ => ⟨m, by omega, h4, (E9 (ho (Or.inl h20))).1 m (by omega)⟩) (fun z => ?_) (Or.inl h20)
          rw [h20] at z; exact absurd z (by decide)
        · rw [if_neg h20] at hj
          refine ⟨fun z => absurd z h20, fun _ => ?_⟩
          by_cases h21 : c i = 21
          · rw [if_pos h21] at hj
            obtain ⟨h1, h2, m, h3, h4, h5⟩ := num 12 3 (Or.inr rfl) hj
            refine ⟨fun z => absurd h21 z, fun _ => ?_⟩
            exact go2 _ h1 h2 h5 (fun z => absurd z h20) (fun _ => ⟨m, by omega, h4, (E9 (ho (Or.inr h21))).2 m (by omega)⟩) (Or.inr h21)
          · rw [if_neg h21] at hj
            refine ⟨fun _ => ?_, fun z => absurd z h21⟩
            simp only [Sum.inr.injEq, Prod.mk.injEq] at hj
            obtain ⟨h1, h2, h3⟩ := hj
            subst h1
            have fin : ∀ x : Int64, D e = some x → (c i = 50 → i2l (v i) = x) → (¬ c i = 50 → ∃ m : Nat, m < 8 ∧ c i - fw o = nI m ∧ i2l (gI σ 26 m) = x) → w_M_partOf_j87 sf post (sI σ 0 22 (nI (B + i + 1))) (bl live) (c i) 0 := by
              intro x hx hn hw
              refine ev_leaf (j := i + 1) hx hE1 gI_same (br := br) (by simp [gI_sI]; exact hb) ⟨fun z => absurd z h20, fun z => absurd z h21, ?_, ?_⟩ ?_
              · intro z
                have hlt := n50 _ z
                refine ⟨3212 + (B + i), by omega, ?_, ?_⟩
                · rw [show (3212 : Int32) = nI 3212 from rfl, nI_add, show 3212 + (B + (i + 1)) = (3212 + (B + i)) + 1 from by omega, nI_pred]
                · rw [gI_sI, if_neg (by omega), E5 i hlt]; exact hn z
              · intro _ _ z
                obtain ⟨m, y1, y2, y3⟩ := hw z
                refine ⟨m, y1, ?_, ?_⟩
                · rw [gI_sI, if_neg (by omega), E7]; exact y2
                · rw [gI_sI, if_neg (by omega)]; exact y3
              · intro r τ ag g b hv
                exact k r τ ((Ag.put ⟨rfl, Or.inl rfl⟩).trans ag) g b hv
            by_cases hc50 : c i = 50
            · rw [if_pos hc50] at h3
              exact fin (i2l (v i)) (by rw [← h3]) (fun _ => rfl) (fun z => absurd hc50 z)
            · rw [if_neg hc50] at h3
              have hw := hr.resolve_left (fun z => hc50 z.1)
              have hm : ∃ m : Nat, m < (if o then 4 else 8) ∧ c i - fw o = nI m := by
                have h0 : 0 ≤ c i - fw o := by cases o <;> simp only [fw, lw] at hw ⊢ <;> grind
                have h1 : c i - fw o < nI (if o then 4 else 8) := by
                  have e4 : nI 4 = 4 := rfl
                  have e8 : nI 8 = 8 := rfl
                  cases o <;> simp [fw, lw, e4, e8] at hw ⊢ <;> grind
                obtain ⟨g1, g2⟩ := nI_toN h0
                refine ⟨_, ?_, g1⟩
                rw [g1, nI_ltI g2 (by split <;> omega)] at h1
                exact h1
              obtain ⟨m, m1, m2⟩ := hm
              have m8 : m < 8 := by split at m1 <;> omega
              refine fin (e m) (by rw [← h3, m2, nI_clamp (by omega)]) (fun z => absurd z hc50) (fun _ => ⟨m, m8, m2, E8 m m1⟩)
    · rw [if_neg hr] at hj; simp at hj
/-- sums, at every depth -/
theorem ev_sumD (hN : N ≤ 400) (hc : ∀ k, N ≤ k → c k = 0) : ∀ (d n : Nat), d < n → EvP B N c v o e (w_M_sumOf_d n) (pSum o c v d) := by
  intro d
  induction d with
  | zero =>
    intro n hn
    cases n with
    | zero => omega
    | succ n => exact ev_sum hN (ev_term hN (ev_part (br0 := none) (by intro p h; simp at h) (by intro p h; simp at h)) (Prg_part hc (by intro p h; simp at h))) (Prg_seq hc (by decide) (Prg_part hc (by intro p h; simp at h)))
  | succ d ih =>
    intro n hn
    cases n with
    | zero => omega
    | succ n =>
      have pg : PrgO N (some (pSum o c v d)) := by intro p h; simp at h; rw [← h]; exact Prg_sum hc d
      exact ev_sum hN (ev_term hN (ev_part (br0 := some (pSum o c v d)) (by intro p h; simp at h; rw [← h]; exact ih n (by omega)) pg) (Prg_part hc pg)) (Prg_seq hc (by decide) (Prg_part hc pg))
end EVM3
