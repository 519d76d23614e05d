/-! ===== the model reads a text: it goes as the language is meant ===== -/
def rdP (o k : Nat) : Prop := o = 0 ∧ (k = 19 ∨ k = 20 ∨ k = 21)
def RC (σ : DD) (N : Nat) (c v : Nat → Int32) (q : Nat → Nat) (o : Bool) : Prop := N ≤ 400 ∧ (∀ i, i ≤ N → gI σ 16 i = c i ∧ gI σ 17 i = v i ∧ gI σ 18 i = nI (q i) ∧ q i ≤ 400) ∧ (∀ k, N ≤ k → c k = 0) ∧ gI σ 0 8 = fw o ∧ gI σ 0 9 = lw o
def FA (σ : DD) (i l : Nat) : Prop := gI σ 0 21 = -1 ∧ gI σ 0 19 = nI i ∧ gI σ 0 20 = nI l
def Rd {α : Type} (N : Nat) (c v : Nat → Int32) (q : Nat → Nat) (o : Bool) (fn : DD → (DD → Prop) → Prop) (p : Nat → Nat → PR α) : Prop :=
  (∀ (σ : DD) (post : DD → Prop), ¬ gI σ 0 21 = -1 → post σ → fn σ post) ∧
  ∀ (σ : DD) (i l : Nat) (post : DD → Prop), RC σ N c v q o → FA σ i l → i ≤ N → l ≤ 50 → (∀ e, p i l = .inl e → ∀ τ, Ag rdP σ τ → gI τ 0 21 = nI (q e) → post τ) → (∀ j l' D, p i l = .inr (j, l', D) → ∀ τ, Ag rdP σ τ → FA τ j l' → post τ) → fn σ post
section RM
variable {σ τ : DD} {N i l : Nat} {c v : Nat → Int32} {q : Nat → Nat} {o : Bool}
theorem RC.ag (h : RC σ N c v q o) (a : Ag rdP σ τ) : RC τ N c v q o := by
  refine ⟨h.1, fun i hi => ?_, h.2.2.1, ?_, ?_⟩
  · rw [a.at _ _ (by unfold rdP; omega), a.at _ _ (by unfold rdP; omega), a.at _ _ (by unfold rdP; omega)]; exact h.2.1 i hi
  · rw [a.at _ _ (by unfold rdP; omega)]; exact h.2.2.2.1
  · rw [a.at _ _ (by unfold rdP; omega)]; exact h.2.2.2.2
theorem RC.lt (h : RC σ N c v q o) {x : Int32} (hc : c i = x) (hx : ¬ x = 0) : i < N := Nat.lt_of_not_le (fun z => hx (by rw [← hc]; exact h.2.2.1 i z))
theorem RC.bad (h : RC σ N c v q o) (hi : i ≤ N) : ¬ nI (q i) = -1 := by
  have := (h.2.1 i hi).2.2.2
  exact nI_m1 (by omega)
theorem s_isFine {post : Int32 → DD → Prop} (k1 : gI σ 0 21 = -1 → post 1 σ) (k0 : ¬ gI σ 0 21 = -1 → post 0 σ) : w_M_isFine σ post := ⟨k0, k1⟩
theorem s_fine1 {post : Int32 → DD → Prop} (hF : FA σ i l) (k : post 1 σ) : w_M_isFine σ post := ⟨fun z => absurd hF.1 z, fun _ => k⟩
theorem s_fine0 {post : Int32 → DD → Prop} (hF : ¬ gI σ 0 21 = -1) (k : post 0 σ) : w_M_isFine σ post := ⟨fun _ => k, fun z => absurd z hF⟩
theorem s_faults1 {post : DD → Prop} (h : RC σ N c v q o) (hi : i ≤ N) (hF : FA σ i l) (k : ∀ τ, Ag rdP σ τ → gI τ 0 21 = nI (q i) → ¬ gI τ 0 21 = -1 → post τ) : w_M_faults σ post := by
  have hN := h.1
  unfold w_M_faults
  refine s_fine1 hF ⟨fun z => absurd z (by decide), fun _ => ?_⟩
  rw [hF.2.1, nI_clamp (by omega), (h.2.1 i hi).2.2.1]
  refine ⟨vp_in_nI (by omega) (by decide), fun σ5 e5 => ?_⟩
  subst e5
  exact k _ (Ag.put (by unfold rdP; omega)) gI_same (by rw [gI_same]; exact h.bad hi)
theorem s_faults0 {post : DD → Prop} (hF : ¬ gI σ 0 21 = -1) (k : post σ) : w_M_faults σ post := s_fine0 hF ⟨fun _ => k, fun z => absurd rfl z⟩
theorem s_takes1 {post : Int32 → DD → Prop} {x : Int32} (h : RC σ N c v q o) (hi : i ≤ N) (hF : FA σ i l) (k1 : c i = x → ∀ τ, Ag rdP σ τ → FA τ (i + 1) l → post 1 τ) (k0 : ¬ c i = x → post 0 σ) : w_M_takes0 σ x post := by
  have hN := h.1
  unfold w_M_takes0
  refine s_fine1 hF ⟨fun z => absurd z (by decide), fun _ => ?_⟩
  rw [hF.2.1, nI_clamp (by omega), (h.2.1 i hi).1]
  refine ⟨vp_in_nI (by omega) (by decide), fun z => ?_, fun z => ?_⟩
  · unfold w_M_takes0_j24 w_M_takes0_j25
    exact ⟨fun _ => ⟨Or.inl rfl, k0 z⟩, fun z => absurd rfl z⟩
  · unfold w_M_takes0_j25
    refine ⟨fun z => absurd z (by decide), fun _ σ2 e2 => ⟨Or.inr rfl, ?_⟩⟩
    rw [hF.2.1, nI_1] at e2
    subst e2
    refine k1 z _ (Ag.put (by unfold rdP; omega)) ⟨?_, gI_same, ?_⟩
    · rw [gI_sI, if_neg (by omega)]; exact hF.1
    · rw [gI_sI, if_neg (by omega)]; exact hF.2.2
theorem s_takes0 {post : Int32 → DD → Prop} {x : Int32} (hF : ¬ gI σ 0 21 = -1) (k : post 0 σ) : w_M_takes0 σ x post := by
  unfold w_M_takes0
  refine s_fine0 hF ⟨fun _ => ?_, fun z => absurd rfl z⟩
  unfold w_M_takes0_j24 w_M_takes0_j25
  exact ⟨fun _ => ⟨Or.inl rfl, k⟩, fun z => absurd rfl z⟩
theorem s_must1 {post : DD → Prop} {x : Int32} (h : RC σ N c v q o) (hi : i ≤ N) (hF : FA σ i l) (k1 : c i = x → ∀ τ, Ag rdP σ τ → FA τ (i + 1) l → post τ) (k0 : ¬ c i = x → ∀ τ, Ag rdP σ τ → gI τ 0 21 = nI (q i) → ¬ gI τ 0 21 = -1 → post τ) : w_M_must σ x post := by
  unfold w_M_must
  refine s_takes1 h hi hF (fun z τ a f => ⟨fun _ => k1 z τ a f, fun z => absurd z (by decide)⟩) (fun z => ⟨fun z => absurd rfl z, fun _ => s_faults1 h hi hF (k0 z)⟩)
theorem s_must0 {post : DD → Prop} {x : Int32} (hF : ¬ gI σ 0 21 = -1) (k : post σ) : w_M_must σ x post := by
  unfold w_M_must
  exact s_takes0 hF ⟨fun z => absurd rfl z, fun _ => s_faults0 hF k⟩
theorem s_mustN0 {post : DD → Prop} {x y : Int32} (hF : ¬ gI σ 0 21 = -1) (k : post σ) : w_M_mustNumber σ x y post := by
  unfold w_M_mustNumber w_M_mustNumber_j42
  exact s_fine0 hF ⟨fun _ => s_fine0 hF ⟨fun _ => k, fun z => absurd rfl z⟩, fun z => absurd rfl z⟩
theorem s_mustN1 {post : DD → Prop} {x y : Int32} (h : RC σ N c v q o) (hi : i ≤ N) (hF : FA σ i l) (k1 : c i = 50 → x ≤ v i → v i ≤ y → ∀ τ, Ag rdP σ τ → FA τ (i + 1) l → post τ) (k0 : ¬ (c i = 50 ∧ x ≤ v i ∧ v i ≤ y) → ∀ τ, Ag rdP σ τ → gI τ 0 21 = nI (q i) → post τ) : w_M_mustNumber σ x y post := by
  have hN := h.1
  have bad : ¬ (c i = 50 ∧ x ≤ v i ∧ v i ≤ y) → w_M_mustNumber_j38 post σ := by
    intro z
    unfold w_M_mustNumber_j38 w_M_mustNumber_j42
    exact s_faults1 h hi hF (fun τ a e f => s_fine0 f ⟨fun _ => k0 z τ a e, fun z => absurd rfl z⟩)
  unfold w_M_mustNumber
  refine s_fine1 hF ⟨fun z => absurd z (by decide), fun _ => ?_⟩
  rw [hF.2.1, nI_clamp (by omega), (h.2.1 i hi).1, (h.2.1 i hi).2.1]
  have vi : vp_in (nI i) 401 := vp_in_nI (by omega) (by decide)
  refine ⟨vi, fun z => bad (fun w => z w.1), fun z => ⟨vi, ?_⟩⟩
  unfold w_M_lies
  refine ⟨fun z2 => ⟨fun z => absurd rfl z, fun _ => bad (fun w => by have := w.2.1; grind)⟩, fun z2 => ⟨fun z3 => ⟨fun z => absurd rfl z, fun _ => bad (fun w => by have := w.2.2; grind)⟩, fun z3 => ⟨fun _ => ?_, fun z => absurd z (by decide)⟩⟩⟩
  unfold w_M_mustNumber_j42
  refine s_fine1 hF ⟨fun z => absurd z (by decide), fun _ σ4 e4 => ?_⟩
  rw [hF.2.1, nI_1] at e4
  subst e4
  refine k1 z (by grind) (by grind) _ (Ag.put (by unfold rdP; omega)) ⟨?_, gI_same, ?_⟩
  · rw [gI_sI, if_neg (by omega)]; exact hF.1
  · rw [gI_sI, if_neg (by omega)]; exact hF.2.2
/-- items with signs between them -/
theorem rd_loop {α : Type} {op : Int32 → Option (α → α → α)} {p : Nat → Nat → PR α} {item : DD → (DD → Prop) → Prop} {body : (DD → Prop) → DD → Prop} {post : DD → Prop} (prg : Prg N p) (hop : op 0 = none) (hit : Rd N c v q o item p)
    (hbad : ∀ K σ, ¬ gI σ 0 21 = -1 → post σ → body K σ)
    (hgo : ∀ K σ i l, RC σ N c v q o → FA σ i l → i ≤ N → (op (c i) = none → post σ) → (∀ f, op (c i) = some f → ∀ τ, Ag rdP σ τ → FA τ (i + 1) l → item τ K) → body K σ)
    {A : α} (hC : RC σ N c v q o) (hF : FA σ i l) (hi : i ≤ N) (hl : l ≤ 50) {n : Nat} (hn : N < i + n)
    (k0 : ∀ e, pJ op c p n i l A = .inl e → ∀ τ, Ag rdP σ τ → gI τ 0 21 = nI (q e) → post τ) (k1 : ∀ j l' D, pJ op c p n i l A = .inr (j, l', D) → ∀ τ, Ag rdP σ τ → FA τ j l' → post τ) : Loop body σ := by
  refine LoopN (fun m y => (m = 0 ∧ ¬ gI y 0 21 = -1 ∧ post y) ∨ ∃ i l A n, m = N - i + 1 ∧ N < i + n ∧ RC y N c v q o ∧ FA y i l ∧ i ≤ N ∧ l ≤ 50 ∧ (∀ e, pJ op c p n i l A = .inl e → ∀ τ, Ag rdP y τ → gI τ 0 21 = nI (q e) → post τ) ∧ ∀ j l' D, pJ op c p n i l A = .inr (j, l', D) → ∀ τ, Ag rdP y τ → FA τ j l' → post τ) ?_ (n := N - i + 1) (Or.inr ⟨i, l, A, n, rfl, hn, hC, hF, hi, hl, k0, k1⟩)
  clear hC hF hi hl hn k0 k1
  rintro m υ K hh ih
  rcases hh with ⟨hm, hb, hp⟩ | ⟨i, l, A, n, hm, hn, hC, hF, hi, hl, k0, k1⟩
  · exact hbad K υ hb hp
  obtain ⟨n, rfl⟩ : ∃ n', n = n' + 1 := ⟨n - 1, by omega⟩
  refine hgo K υ i l hC hF hi (fun z => k1 i l A ?_ υ (Ag.refl υ) hF) (fun f z τ a1 hF1 => ?_)
  · unfold pJ; rw [z]
  have hlt : i < N := Nat.lt_of_not_le (fun w => by rw [hC.2.2.1 i w, hop] at z; cases z)
  refine hit.2 τ (i + 1) l K (hC.ag a1) hF1 hlt hl (fun e h2 τ2 a2 b2 => ?_) (fun j l' D h2 τ2 a2 f2 => ?_)
  · have he := (prg (i + 1) l hlt hl).2 e h2
    refine ih 0 _ (by omega) (Or.inl ⟨rfl, ?_, k0 e ?_ τ2 (a1.trans a2) b2⟩)
    · rw [b2]; exact hC.bad he.2
    · unfold pJ; rw [z]; simp only []; rw [h2]
  · have hj := (prg (i + 1) l hlt hl).1 j l' D h2
    have e3 : pJ op c p (n + 1) i l A = pJ op c p n j l' (f A D) := by
      rw [pJ, z]; simp only []; rw [h2]
    refine ih (N - j + 1) _ (by omega) (Or.inr ⟨j, l', f A D, n, rfl, by omega, (hC.ag a1).ag a2, f2, hj.2.1, hj.2.2.2, fun e h3 τ3 a3 b3 => ?_, fun j3 l3 D3 h3 τ3 a3 f3 => ?_⟩)
    · exact k0 e (e3.trans h3) τ3 ((a1.trans a2).trans a3) b3
    · exact k1 j3 l3 D3 (e3.trans h3) τ3 ((a1.trans a2).trans a3) f3
theorem rd_seq {α : Type} {op : Int32 → Option (α → α → α)} {p : Nat → Nat → PR α} {item : DD → (DD → Prop) → Prop} {body : (DD → Prop) → (DD → Prop) → DD → Prop} {fn : DD → (DD → Prop) → Prop} (hN : N ≤ 400) (prg : Prg N p) (hop : op 0 = none) (hit : Rd N c v q o item p)
    (hbad : ∀ post K σ, ¬ gI σ 0 21 = -1 → post σ → body post K σ)
    (hgo : ∀ (post : DD → Prop) K σ i l, RC σ N c v q o → FA σ i l → i ≤ N → (op (c i) = none → post σ) → (∀ f, op (c i) = some f → ∀ τ, Ag rdP σ τ → FA τ (i + 1) l → item τ K) → body post K σ)
    (hfn : ∀ σ post, item σ (fun τ => Loop (body post) τ) → fn σ post) : Rd N c v q o fn (pSeq op c p) := by
  refine ⟨fun σ post hb hp => hfn σ post (hit.1 σ _ hb (Loop.stop (fun K => hbad post K σ hb hp))), fun σ i l post hC hF hi hl k0 k1 => hfn σ post (hit.2 σ i l _ hC hF hi hl (fun e h2 τ a b => ?_) (fun j l' D h2 τ a f => ?_))⟩
  · have he := (prg i l hi hl).2 e h2
    refine Loop.stop (fun K => hbad post K τ ?_ (k0 e ?_ τ a b))
    · rw [b]; exact hC.bad he.2
    · unfold pSeq; rw [h2]
  · have hj := (prg i l hi hl).1 j l' D h2
    have e3 : pSeq op c p i l = pJ op c p 401 j l' D := by unfold pSeq; rw [h2]
    exact rd_loop prg hop hit (hbad post) (hgo post) (hC.ag a) f hj.2.1 hj.2.2.2 (n := 401) (by omega) (fun e h3 τ3 a3 b3 => k0 e (e3.trans h3) τ3 (a.trans a3) b3) (fun j3 l3 D3 h3 τ3 a3 f3 => k1 j3 l3 D3 (e3.trans h3) τ3 (a.trans a3) f3)
theorem rd_sum {tf : DD → Int32 → (DD → Prop) → Prop} {p : Nat → Nat → PR DS} {d : Int32} (hN : N ≤ 400) (prg : Prg N p) (hit : Rd N c v q o (fun σ post => tf σ d post) p) : Rd N c v q o (fun σ post => w_M_readSum_o tf σ d post) (pSeq opS c p) := by
  refine rd_seq (body := fun post K σ => w_M_readSum_b5 tf d K post σ) hN prg (by decide) hit (fun post K σ hb hp => ?_) (fun post K σ i l hC hF hi h0 h1 => ?_) (fun σ post h => h)
  · unfold w_M_readSum_b5 w_M_sign
    exact s_takes0 hb ⟨fun z => absurd rfl z, fun _ => s_takes0 hb ⟨fun _ => hp, fun z => absurd rfl z⟩⟩
  · unfold w_M_readSum_b5 w_M_sign w_M_readSum_j29
    refine s_takes1 hC hi hF (fun z τ a f => ⟨fun _ => h1 (bin (fS (c i))) ?_ τ a f, fun z => absurd z (by decide)⟩) (fun z => ⟨fun z => absurd rfl z, fun _ => s_takes1 hC hi hF (fun z2 τ a f => ⟨fun z => absurd z (by decide), fun _ => h1 (bin (fS (c i))) ?_ τ a f⟩) (fun z2 => ⟨fun _ => h0 ?_, fun z => absurd rfl z⟩)⟩)
    · unfold opS; rw [if_pos (Or.inl (z.trans (by decide)))]
    · unfold opS; rw [if_pos (Or.inr (z2.trans (by decide)))]
    · unfold opS; rw [if_neg (fun w => by rcases w with w | w; exact z (w.trans (by decide)); exact z2 (w.trans (by decide)))]
theorem rd_term {tf : DD → Int32 → (DD → Prop) → Prop} {p : Nat → Nat → PR DS} {d : Int32} (hN : N ≤ 400) (prg : Prg N p) (hit : Rd N c v q o (fun σ post => tf σ d post) p) : Rd N c v q o (fun σ post => w_M_readTerm_o tf σ d post) (pSeq opM c p) := by
  refine rd_seq (body := fun post K σ => w_M_readTerm_b5 tf d K post σ) hN prg (by decide) hit (fun post K σ hb hp => ?_) (fun post K σ i l hC hF hi h0 h1 => ?_) (fun σ post h => h)
  · unfold w_M_readTerm_b5 w_M_sign
    exact s_takes0 hb ⟨fun z => absurd rfl z, fun _ => s_takes0 hb ⟨fun z => absurd rfl z, fun _ => s_takes0 hb ⟨fun _ => hp, fun z => absurd rfl z⟩⟩⟩
  · unfold w_M_readTerm_b5 w_M_sign w_M_readTerm_j41
    refine s_takes1 hC hi hF (fun z τ a f => ⟨fun _ => h1 (bin (fM (c i))) ?_ τ a f, fun z => absurd z (by decide)⟩) (fun z => ⟨fun z => absurd rfl z, fun _ => s_takes1 hC hi hF (fun z2 τ a f => ⟨fun _ => h1 (bin (fM (c i))) ?_ τ a f, fun z => absurd z (by decide)⟩) (fun z2 => ⟨fun z => absurd rfl z, fun _ => s_takes1 hC hi hF (fun z3 τ a f => ⟨fun z => absurd z (by decide), fun _ => h1 (bin (fM (c i))) ?_ τ a f⟩) (fun z3 => ⟨fun _ => h0 ?_, fun z => absurd rfl z⟩)⟩)⟩)
    · unfold opM; rw [if_pos (Or.inl (z.trans (by decide)))]
    · unfold opM; rw [if_pos (Or.inr (Or.inl (z2.trans (by decide))))]
    · unfold opM; rw [if_pos (Or.inr (Or.inr (z3.trans (by decide))))]
    · unfold opM; rw [if_neg (fun w => by rcases w with w | w | w; exact z (w.trans (by decide)); exact z2 (w.trans (by decide)); exact z3 (w.trans (by decide)))]
theorem rd_both {tf : DD → Int32 → (DD → Prop) → Prop} {p : Nat → Nat → PR DB} {d : Int32} (hN : N ≤ 400) (prg : Prg N p) (hit : Rd N c v q o (fun σ post => tf σ d post) p) : Rd N c v q o (fun σ post => w_M_readBoth_o tf σ d post) (pSeq opA c p) := by
  refine rd_seq (body := fun post K σ => w_M_readBoth_b5 tf d K post σ) hN prg (by decide) hit (fun post K σ hb hp => ?_) (fun post K σ i l hC hF hi h0 h1 => ?_) (fun σ post h => h)
  · unfold w_M_readBoth_b5
    exact s_takes0 hb ⟨fun _ => hp, fun z => absurd rfl z⟩
  · unfold w_M_readBoth_b5
    refine s_takes1 hC hi hF (fun z τ a f => ⟨fun z => absurd z (by decide), fun _ => h1 andD ?_ τ a f⟩) (fun z => ⟨fun _ => h0 ?_, fun z => absurd rfl z⟩)
    · unfold opA; rw [if_pos z]
    · unfold opA; rw [if_neg z]
theorem rd_test {tf : DD → Int32 → (DD → Prop) → Prop} {p : Nat → Nat → PR DB} {d : Int32} (hN : N ≤ 400) (prg : Prg N p) (hit : Rd N c v q o (fun σ post => tf σ d post) p) : Rd N c v q o (fun σ post => w_M_readTest_o tf σ d post) (pSeq opO c p) := by
  refine rd_seq (body := fun post K σ => w_M_readTest_b5 tf d K post σ) hN prg (by decide) hit (fun post K σ hb hp => ?_) (fun post K σ i l hC hF hi h0 h1 => ?_) (fun σ post h => h)
  · unfold w_M_readTest_b5
    exact s_takes0 hb ⟨fun _ => hp, fun z => absurd rfl z⟩
  · unfold w_M_readTest_b5
    refine s_takes1 hC hi hF (fun z τ a f => ⟨fun z => absurd z (by decide), fun _ => h1 orD ?_ τ a f⟩) (fun z => ⟨fun _ => h0 ?_, fun z => absurd rfl z⟩)
    · unfold opO; rw [if_pos z]
    · unfold opO; rw [if_neg z]
end RM
