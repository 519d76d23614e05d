section EVM2
variable {σ τ : DD} {B N : Nat} {c v : Nat → Int32} {o : Bool} {e : Nat → Int64}
theorem ev_sum {tf : DD → Int32 → (Int64 → DD → Prop) → Prop} {item : Nat → Nat → PR DS} (hN : N ≤ 400) (hp : EvP B N c v o e tf item) (prg : Prg N item) : EvP B N c v o e (w_M_sumOf_o tf) (pSeq opS c item) := by
  intro i l j l' D hi hl hj
  intro σ live br post hE hg hb k
  unfold pSeq at hj
  cases hq : item i l with
  | inl x => rw [hq] at hj; simp at hj
  | inr q =>
    obtain ⟨j1, l1, A⟩ := q
    rw [hq] at hj; simp only [] at hj
    have pr := (prg i l hi hl).1 j1 l1 A hq
    unfold w_M_sumOf_o
    refine hp i l j1 l1 A hi hl hq σ live br _ hE hg hb ?_
    intro r1 σ1 ag1 g1 b1 v1
    refine ev_sumL hp prg (by omega) (by omega) (by omega) hj (hE.ag ag1) g1 b1 v1 ?_
    intro r τ ag g b v
    exact k r τ (ag1.trans ag) g b v
theorem ev_termL {tf : DD → Int32 → (Int64 → DD → Prop) → Prop} {item : Nat → Nat → PR DS} (hp : EvP B N c v o e tf item) (prg : Prg N item) {n i l j l' : Nat} {A D : DS} (hi : i ≤ N) (hl : l ≤ 50) (hn : N < i + n) (hj : pJ opM c item n i l A = .inr (j, l', D)) {live br : Bool} {a2 : Int64} {post : Int64 → DD → Prop} (hE : EC σ B N c v o e) (hg : gI σ 0 22 = nI (B + i)) (hb : gI σ 0 24 = bl (br || (live && (A e).isNone))) (hv : live = true → br = false → ∀ x, A e = some x → a2 = x) (k : ∀ r τ, Ag evP σ τ → gI τ 0 22 = nI (B + j) → gI τ 0 24 = bl (br || (live && (D e).isNone)) → (live = true → br = false → ∀ x, D e = some x → r = x) → post r τ) : w_M_termOf_l6 tf post σ (bl live) a2 := by
  unfold w_M_termOf_l6
  refine LoopN (fun n x => ∃ i l A, i ≤ N ∧ l ≤ 50 ∧ N < i + n ∧ pJ opM c item n i l A = .inr (j, l', D) ∧ Ag evP σ x.1 ∧ gI x.1 0 22 = nI (B + i) ∧ gI x.1 0 24 = bl (br || (live && (A e).isNone)) ∧ (live = true → br = false → ∀ y, A e = some y → x.2 = y)) ?_ (n := n) ⟨i, l, A, hi, hl, hn, hj, Ag.refl σ, hg, hb, hv⟩
  rintro n ⟨τ, a⟩ K ⟨i, l, A, hi, hl, hn, hj, ag, hg, hb, hv⟩ ih
  simp only [] at ag hg hb hv
  have hE' := hE.ag ag
  cases n with
  | zero => omega
  | succ n =>
    unfold pJ at hj
    have body : (c i = 142 ∨ c i = 147 ∨ c i = 137) → w_M_termOf_j54 tf (fun σ a2 => K (σ, a2)) post τ (bl live) a := by
      intro ho
      have hlt : i < N := lt_of_c hE.2.2.2.2.2.1 (by rcases ho with h | h | h <;> rw [h] <;> decide)
      have hop : opM (c i) = some (bin (fM (c i))) := by unfold opM; rw [if_pos ho]
      rw [hop] at hj
      simp only [] at hj
      cases hq : item (i + 1) l with
      | inl x => rw [hq] at hj; simp at hj
      | inr q =>
        obtain ⟨j1, l1, C⟩ := q
        rw [hq] at hj; simp only [] at hj
        have pr := (prg (i + 1) l hlt hl).1 j1 l1 C hq
        unfold w_M_termOf_j54
        rw [hg]
        refine s_codeAt hE' hi ?_
        intro σ3 e3
        subst e3
        rw [hg, nI_1]
        refine hp (i + 1) l j1 l1 C (by omega) hl hq (sI τ 0 22 (nI (B + i + 1))) live (br || (live && (A e).isNone)) _ (hE'.ag (Ag.put ⟨rfl, Or.inl rfl⟩)) (gI_same) (by rw [gI_sI]; simpa using hb) ?_
        intro r5 σ6 ag6 g6 b6 v6
        have cm := cmb (fM (c i)) hv v6
        have agT := ag.trans ((Ag.put (P := evP) (σ := τ) (v := nI (B + i + 1)) ⟨rfl, Or.inl rfl⟩).trans ag6)
        have fin : ∀ (σ8 : DD) (x : Int64) (b8 : Bool), Ag evP σ6 σ8 → gI σ8 0 22 = gI σ6 0 22 → gI σ8 0 24 = bl b8 → (b8 || (live && (bnd x).isNone)) = (((br || (live && (A e).isNone)) || (live && (C e).isNone)) || (live && (fM (c i) a r5).isNone)) → (live = true → ((br || (live && (A e).isNone)) || (live && (C e).isNone)) = false → ∀ y, fM (c i) a r5 = some y → b8 = false ∧ bnd x = some y) → w_M_termOf_j160 tf (fun σ a2 => K (σ, a2)) post σ8 (bl live) x := by
          intro σ8 x b8 ag8 g8 hb8 heq hval
          unfold w_M_termOf_j160
          refine s_bounded hb8 ?_
          intro r7 σ7 ag7 g7 b7 v7
          refine ih n (σ7, r7) (Nat.lt_succ_self n) ⟨j1, l1, bin (fM (c i)) A C, by omega, by omega, by omega, hj, ?_, ?_, ?_, ?_⟩
          · exact agT.trans (ag8.trans ag7)
          · rw [g7, g8, g6]
          · rw [b7, heq, cm.1]; rfl
          · intro h1 h2 y hy
            have h3 := cm.2 h1 h2 y hy
            have h4 := hval h1 h3.2 y h3.1
            exact v7 h1 h4.1 y h4.2
        have e42 : (100 : Int32) + 42 = 142 := by decide
        have e47 : (100 : Int32) + 47 = 147 := by decide
        have opn : ∀ (σ8 : DD) (w : Int64) (b8 : Bool), Ag evP σ6 σ8 → gI σ8 0 22 = gI σ6 0 22 → gI σ8 0 24 = bl b8 → (¬ c i = 142 → w ≠ 0) → (∀ x, x = (if c i = 142 then a * w else if c i = 147 then a / w else jlrem a w) → (b8 || (live && (bnd x).isNone)) = (((br || (live && (A e).isNone)) || (live && (C e).isNone)) || (live && (fM (c i) a r5).isNone)) ∧ (live = true → ((br || (live && (A e).isNone)) || (live && (C e).isNone)) = false → ∀ y, fM (c i) a r5 = some y → b8 = false ∧ bnd x = some y)) → w_M_termOf_j121 tf (fun σ a2 => K (σ, a2)) post σ8 (bl live) a (c i) w := by
          intro σ8 w b8 ag8 g8 hb8 hw hx
          unfold w_M_termOf_j121 w_M_sign
          rw [e42, e47]
          refine ⟨fun q => ⟨fun q2 => ⟨hw q, ?_⟩, fun q2 => ⟨hw q, ?_⟩⟩, fun q => ?_⟩
          · have h := hx (jlrem a w) (by rw [if_neg q, if_neg q2])
            exact fin σ8 _ b8 ag8 g8 hb8 h.1 h.2
          · have h := hx (a / w) (by rw [if_neg q, if_pos q2])
            exact fin σ8 _ b8 ag8 g8 hb8 h.1 h.2
          · have h := hx (a * w) (by rw [if_pos q])
            exact fin σ8 _ b8 ag8 g8 hb8 h.1 h.2
        have plain : (c i = 142 ∨ r5 ≠ 0) → w_M_termOf_j121 tf (fun σ a2 => K (σ, a2)) post σ6 (bl live) a (c i) r5 := by
          intro hw
          refine opn σ6 r5 _ (Ag.refl _) rfl b6 (fun q => hw.resolve_left q) ?_
          intro x hx
          have hf : fM (c i) a r5 = bnd x := by
            rw [hx]; unfold fM
            by_cases h42 : c i = 142
            · rw [if_pos h42, if_pos h42]
            · rw [if_neg h42, if_neg h42, if_neg (hw.resolve_left h42)]
          rw [hf]
          exact ⟨rfl, fun _ h y hy => ⟨h, hy⟩⟩
        have zero : ¬ c i = 142 → r5 = 0 → ∀ t1 : Bool, t1 = (((br || (live && (A e).isNone)) || (live && (C e).isNone)) || live) → w_M_termOf_j115 tf (fun σ a2 => K (σ, a2)) post σ6 (bl live) a (c i) (bl t1) := by
          intro h42 h0 t1 ht
          unfold w_M_termOf_j115
          refine ⟨bl_z t1, ?_⟩
          intro σ12 e12
          subst e12
          have hf : fM (c i) a r5 = none := by unfold fM; rw [if_neg h42, if_pos h0]
          refine opn _ 1 t1 (Ag.put ⟨rfl, Or.inr rfl⟩) (by simp [gI_sI]) gI_same (fun _ => by decide) ?_
          intro x hx
          rw [hf]
          refine ⟨?_, ?_⟩
          · rw [ht]; cases live <;> simp
          · intro _ _ y hy; simp at hy
        unfold w_M_sign
        rw [e42, lgc_eq]
        refine ⟨fun q => plain (Or.inl q), fun q => ⟨fun q2 => plain (Or.inr q2), fun q2 => ⟨fun q3 => ?_, fun q3 => ⟨fun q4 => ?_, fun q4 => ?_⟩⟩⟩⟩
        · rw [b6, bl_n] at q3
          exact zero q q2 true (by rw [q3]; simp)
        · rw [b6, bl_0] at q3
          rw [bl_0] at q4
          refine zero q q2 false ?_
          rw [q3, q4]; rfl
        · rw [bl_n] at q4
          refine zero q q2 true ?_
          rw [q4]; simp
    have e42 : (100 : Int32) + 42 = 142 := by decide
    have e47 : (100 : Int32) + 47 = 147 := by decide
    have e37 : (100 : Int32) + 37 = 137 := by decide
    unfold w_M_termOf_b6
    simp only []
    rw [hg]
    refine s_codeAt hE' hi ?_
    unfold w_M_sign
    rw [e42, e47, e37]
    refine ⟨fun q => body (Or.inl q), fun q => ?_⟩
    rw [hg]
    refine s_codeAt hE' hi ⟨fun q2 => body (Or.inr (Or.inl q2)), fun q2 => ?_⟩
    rw [hg]
    refine s_codeAt hE' hi ⟨fun q3 => ?_, fun q3 => body (Or.inr (Or.inr q3))⟩
    have hno : ¬ (c i = 142 ∨ c i = 147 ∨ c i = 137) := by
      rintro (z | z | z)
      · exact q z
      · exact q2 z
      · exact q3 z
    have hop : opM (c i) = none := by unfold opM; rw [if_neg hno]
    rw [hop] at hj
    simp at hj
    obtain ⟨h1, h2, h3⟩ := hj
    subst h1; subst h3
    exact k a τ ag hg hb hv
theorem ev_term {tf : DD → Int32 → (Int64 → DD → Prop) → Prop} {item : Nat → Nat → PR DS} (hN : N ≤ 400) (hp : EvP B N c v o e tf item) (prg : Prg N item) : EvP B N c v o e (w_M_termOf_o tf) (pSeq opM c item) := by
  intro i l j l' D hi hl hj
  intro σ live br post hE hg hb k
  unfold pSeq at hj
  cases hq : item i l with
  | inl x => rw [hq] at hj; simp at hj
  | inr q =>
    obtain ⟨j1, l1, A⟩ := q
    rw [hq] at hj; simp only [] at hj
    have pr := (prg i l hi hl).1 j1 l1 A hq
    unfold w_M_termOf_o
    refine hp i l j1 l1 A hi hl hq σ live br _ hE hg hb ?_
    intro r1 σ1 ag1 g1 b1 v1
    refine ev_termL hp prg (by omega) (by omega) (by omega) hj (hE.ag ag1) g1 b1 v1 ?_
    intro r τ ag g b v
    exact k r τ (ag1.trans ag) g b v
end EVM2
