/-! ===== the model reads a text's tokens and says what they say ===== -/
def evP (o k : Nat) : Prop := o = 0 ∧ (k = 22 ∨ k = 24)
def EC (σ : DD) (B N : Nat) (c v : Nat → Int32) (o : Bool) (e : Nat → Int64) : Prop :=
  gI σ 0 23 = nI (B + N) ∧ N ≤ 400 ∧ B ≤ 2400 ∧ (∀ k, k < N → gI σ 4 (412 + (B + k)) = c k) ∧ (∀ k, k < N → gI σ 4 (3212 + (B + k)) = v k) ∧ (∀ k, N ≤ k → c k = 0) ∧ gI σ 0 8 = fw o ∧ (∀ j, j < (if o then 4 else 8) → i2l (gI σ 26 j) = e j) ∧ (o = true → (∀ j, j < 8 → i2l (gI σ 27 j) = e (4 + j)) ∧ ∀ j, j < 4 → i2l (gI σ 28 j) = e (12 + j))
section EVM
variable {σ τ : DD} {B N : Nat} {c v : Nat → Int32} {o : Bool} {e : Nat → Int64}
theorem EC.ag (h : EC σ B N c v o e) (a : Ag evP σ τ) : EC τ B N c v o e := by
  obtain ⟨h1, h2, h3, h4, h5, h6, h7, h8, h9⟩ := h
  refine ⟨?_, h2, h3, ?_, ?_, h6, ?_, ?_, ?_⟩
  · rw [a.at 0 23 (by simp [evP])]; exact h1
  · intro k hk; rw [a.at 4 _ (by simp [evP])]; exact h4 k hk
  · intro k hk; rw [a.at 4 _ (by simp [evP])]; exact h5 k hk
  · rw [a.at 0 8 (by simp [evP])]; exact h7
  · intro j hj; rw [a.at 26 _ (by simp [evP])]; exact h8 j hj
  · intro ho
    refine ⟨fun j hj => ?_, fun j hj => ?_⟩
    · rw [a.at 27 _ (by simp [evP])]; exact (h9 ho).1 j hj
    · rw [a.at 28 _ (by simp [evP])]; exact (h9 ho).2 j hj
theorem nI_add' (k n : Nat) : (nI k) + nI n = nI (k + n) := nI_add k n
theorem s_codeAt {post : Int32 → DD → Prop} {i : Nat} (h : EC σ B N c v o e) (hi : i ≤ N) (k : post (c i) σ) : w_M_codeAt σ (nI (B + i)) post := by
  obtain ⟨h1, h2, h3, h4, h5, h6, -⟩ := h
  unfold w_M_codeAt
  rw [h1, nI_leI (by omega) (by omega)]
  refine ⟨fun q => ?_, fun q => ?_⟩
  · rw [h6 i (by omega)] at k; exact k
  · rw [show (412 : Int32) = nI 412 from rfl, nI_add, nI_clamp (by omega), h4 i (by omega)]
    exact ⟨vp_in_nI (by omega) (by decide), k⟩
theorem s_passes0 {post : Int32 → DD → Prop} {i : Nat} {x : Int32} (h : EC σ B N c v o e) (hi : i ≤ N) (g : gI σ 0 22 = nI (B + i)) (k1 : c i = x → post 1 (sI σ 0 22 (nI (B + (i + 1))))) (k0 : ¬ c i = x → post 0 σ) : w_M_passes0 σ x post := by
  unfold w_M_passes0 w_M_passes0_j17
  rw [g]
  refine s_codeAt h hi ⟨fun q => ⟨fun _ => ⟨Or.inl rfl, k0 q⟩, fun q2 => absurd rfl q2⟩, fun q => ⟨fun q2 => absurd q2 (by decide), fun _ σ2 e2 => ⟨Or.inr rfl, ?_⟩⟩⟩
  subst e2
  rw [g, nI_1]
  exact k1 q
theorem s_bounded {post : Int64 → DD → Prop} {x : Int64} {live br : Bool} (g : gI σ 0 24 = bl br) (k : ∀ r τ, Ag evP σ τ → gI τ 0 22 = gI σ 0 22 → gI τ 0 24 = bl (br || (live && (bnd x).isNone)) → (live = true → br = false → ∀ y, bnd x = some y → r = y) → post r τ) : w_M_bounded σ x (bl live) post := by
  have key : ∀ r, (live = true → br = false → ∀ y, bnd x = some y → r = y) → (live = true → (bnd x).isNone = false ∨ br = true) → (post r σ) := by
    intro r h1 h2
    refine k r σ (Ag.refl σ) rfl ?_ h1
    rw [g]
    congr 1
    cases live with
    | false => simp
    | true => rcases h2 rfl with h | h <;> rw [h] <;> simp
  have key2 : live = true → (bnd x).isNone = true → post 0 (sI σ 0 24 1) := by
    intro h1 h2
    refine k 0 _ (Ag.put (Or.inr rfl |> fun q => ⟨rfl, q⟩)) (by simp [gI_sI]) ?_ ?_
    · simp [gI_sI, h1, h2, bl]
    · intro _ _ y hy; rw [hy] at h2; simp at h2
  unfold w_M_bounded w_M_bounded_j20 w_M_bounded_j25
  rw [lgc_gt]
  refine ⟨fun q => ?_, fun q => ⟨fun q2 => ?_, fun q2 => ⟨fun q3 => ?_, fun q3 => ?_⟩⟩⟩
  · have hl : live = false := bl_0.1 q
    subst hl
    rw [g, bl_0]
    exact ⟨fun hb => key x (by simp) (by simp), fun hb => key 0 (by simp) (by simp)⟩
  · have hl : live = true := bl_n.1 q
    subst hl
    intro s2 e2; subst e2
    have hb : bnd x = none := by unfold bnd; rw [if_pos (Or.inl q2)]
    exact ⟨fun z => absurd z (by simp [gI_sI]), fun _ => key2 rfl (by rw [hb]; rfl)⟩
  · have hl : live = true := bl_n.1 q
    subst hl
    have hb : bnd x = some x := by
      unfold bnd; rw [if_neg]; rintro (z | z)
      · exact q2 z
      · rw [← lgc_lt] at z; grind
    rw [g, bl_0]
    exact ⟨fun hb2 => key x (by rw [hb]; simp) (by rw [hb]; simp), fun hb2 => key 0 (by simp_all) (by simp_all)⟩
  · have hl : live = true := bl_n.1 q
    subst hl
    intro s2 e2; subst e2
    have hb : bnd x = none := by unfold bnd; rw [if_pos (Or.inr (lgc_lt.1 (by grind)))]
    exact ⟨fun z => absurd z (by simp [gI_sI]), fun _ => key2 rfl (by rw [hb]; rfl)⟩
/-- a method that goes over a sum, from token i to token j -/
def EvS (B N : Nat) (c v : Nat → Int32) (o : Bool) (e : Nat → Int64) (fn : DD → Int32 → (Int64 → DD → Prop) → Prop) (i j : Nat) (D : DS) : Prop := ∀ (σ : DD) (live br : Bool) (post : Int64 → DD → Prop), EC σ B N c v o e → gI σ 0 22 = nI (B + i) → gI σ 0 24 = bl br → (∀ r τ, Ag evP σ τ → gI τ 0 22 = nI (B + j) → gI τ 0 24 = bl (br || (live && (D e).isNone)) → (live = true → br = false → ∀ x, D e = some x → r = x) → post r τ) → fn σ (bl live) post
def EvP (B N : Nat) (c v : Nat → Int32) (o : Bool) (e : Nat → Int64) (fn : DD → Int32 → (Int64 → DD → Prop) → Prop) (p : Nat → Nat → PR DS) : Prop := ∀ i l j l' D, i ≤ N → l ≤ 50 → p i l = .inr (j, l', D) → EvS B N c v o e fn i j D
theorem cmb {live br : Bool} {A C : Option Int64} {a b : Int64} (f : Int64 → Int64 → Option Int64) (h1 : live = true → br = false → ∀ x, A = some x → a = x) (h2 : live = true → (br || (live && A.isNone)) = false → ∀ x, C = some x → b = x) : (((br || (live && A.isNone)) || (live && C.isNone)) || (live && (f a b).isNone)) = (br || (live && (A.bind (fun x => C.bind (fun y => f x y))).isNone)) ∧ (live = true → br = false → ∀ z, A.bind (fun x => C.bind (fun y => f x y)) = some z → f a b = some z ∧ ((br || (live && A.isNone)) || (live && C.isNone)) = false) := by
  cases live <;> cases br <;> cases A <;> cases C <;> simp_all
theorem ev_sumL {tf : DD → Int32 → (Int64 → DD → Prop) → Prop} {item : Nat → Nat → PR DS} (hp : EvP B N c v o e tf item) (prg : Prg N item) {n i l j l' : Nat} {A D : DS} (hi : i ≤ N) (hl : l ≤ 50) (hn : N < i + n) (hj : pJ opS c item n i l A = .inr (j, l', D)) {live br : Bool} {a2 : Int64} {post : Int64 → DD → Prop} (hE : EC σ B N c v o e) (hg : gI σ 0 22 = nI (B + i)) (hb : gI σ 0 24 = bl (br || (live && (A e).isNone))) (hv : live = true → br = false → ∀ x, A e = some x → a2 = x) (k : ∀ r τ, Ag evP σ τ → gI τ 0 22 = nI (B + j) → gI τ 0 24 = bl (br || (live && (D e).isNone)) → (live = true → br = false → ∀ x, D e = some x → r = x) → post r τ) : w_M_sumOf_l6 tf post σ (bl live) a2 := by
  unfold w_M_sumOf_l6
  refine LoopN (fun n x => ∃ i l A, i ≤ N ∧ l ≤ 50 ∧ N < i + n ∧ pJ opS c item n i l A = .inr (j, l', D) ∧ Ag evP σ x.1 ∧ gI x.1 0 22 = nI (B + i) ∧ gI x.1 0 24 = bl (br || (live && (A e).isNone)) ∧ (live = true → br = false → ∀ y, A e = some y → x.2 = y)) ?_ (n := n) ⟨i, l, A, hi, hl, hn, hj, Ag.refl σ, hg, hb, hv⟩
  rintro n ⟨τ, a⟩ K ⟨i, l, A, hi, hl, hn, hj, ag, hg, hb, hv⟩ ih
  simp only [] at ag hg hb hv
  have hE' := hE.ag ag
  cases n with
  | zero => omega
  | succ n =>
    unfold pJ at hj
    have body : (c i = 143 ∨ c i = 145) → w_M_sumOf_j38 tf (fun σ a2 => K (σ, a2)) post τ (bl live) a := by
      intro ho
      have hlt : i < N := lt_of_c hE.2.2.2.2.2.1 (by rcases ho with h | h <;> rw [h] <;> decide)
      have hop : opS (c i) = some (bin (fS (c i))) := by unfold opS; rw [if_pos ho]
      rw [hop] at hj
      simp only [] at hj
      cases hq : item (i + 1) l with
      | inl x => rw [hq] at hj; simp at hj
      | inr q =>
        obtain ⟨j1, l1, C⟩ := q
        rw [hq] at hj; simp only [] at hj
        have pr := (prg (i + 1) l hlt hl).1 j1 l1 C hq
        unfold w_M_sumOf_j38
        rw [hg]
        refine s_codeAt hE' hi ?_
        unfold w_M_sign
        have step : ∀ t0 : Int32, (t0 = 0 ∨ t0 = 1) → (t0 = 1 ↔ c i = 143) → w_M_sumOf_j59 tf (fun σ a2 => K (σ, a2)) post τ (bl live) a t0 := by
          intro t0 hz ht
          unfold w_M_sumOf_j59
          intro σ3 e3
          subst e3
          rw [hg, nI_1]
          refine hp (i + 1) l j1 l1 C (by omega) hl hq (sI τ 0 22 (nI (B + i + 1))) live (br || (live && (A e).isNone)) _ (hE'.ag (Ag.put ⟨rfl, Or.inl rfl⟩)) (gI_same) (by rw [gI_sI]; simpa using hb) ?_
          intro r5 σ6 ag6 g6 b6 v6
          unfold w_M_sumOf_j95
          have fin : ∀ x : Int64, bnd x = fS (c i) a r5 → w_M_bounded σ6 x (bl live) (fun r1 σ2 => K (σ2, r1)) := by
            intro x hx
            refine s_bounded b6 ?_
            intro r7 σ7 ag7 g7 b7 v7
            have cm := cmb (fS (c i)) hv v6
            refine ih n (σ7, r7) (Nat.lt_succ_self n) ⟨j1, l1, bin (fS (c i)) A C, by omega, by omega, by omega, hj, ?_, ?_, ?_, ?_⟩
            · exact ag.trans ((Ag.put ⟨rfl, Or.inl rfl⟩).trans (ag6.trans ag7))
            · rw [g7, g6]
            · rw [b7, hx, cm.1]; rfl
            · intro h1 h2 y hy
              have := cm.2 h1 h2 y hy
              exact v7 h1 this.2 y (hx.trans this.1)
          constructor
          · intro hz0
            refine fin (a - r5) ?_
            have : ¬ c i = 143 := fun q => by have := ht.2 q; rw [hz0] at this; exact absurd this (by decide)
            unfold fS; rw [if_neg this]
          · intro hz1
            refine fin (a + r5) ?_
            have : c i = 143 := ht.1 (hz.resolve_left hz1)
            unfold fS; rw [if_pos this]
        constructor
        · intro q
          exact step 0 (Or.inl rfl) ⟨fun z => absurd z (by decide), fun z => absurd (by rw [z]; rfl) q⟩
        · intro q
          exact step 1 (Or.inr rfl) ⟨fun _ => by rw [q]; rfl, fun _ => rfl⟩
    unfold w_M_sumOf_b6
    simp only []
    rw [hg]
    refine s_codeAt hE' hi ?_
    unfold w_M_sign
    constructor
    · intro q; exact body (Or.inl (by rw [q]; rfl))
    · intro q
      rw [hg]
      refine s_codeAt hE' hi ?_
      constructor
      · intro q2
        have hno : ¬ (c i = 143 ∨ c i = 145) := by
          rintro (z | z)
          · exact q (by rw [z]; rfl)
          · exact q2 (by rw [z]; rfl)
        have hop : opS (c i) = none := by unfold opS; rw [if_neg hno]
        rw [hop] at hj
        simp at hj
        obtain ⟨h1, h2, h3⟩ := hj
        subst h1; subst h3
        exact k a τ ag hg hb hv
      · intro q2; exact body (Or.inr (by rw [q2]; rfl))
end EVM
