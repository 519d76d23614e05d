/-! ===== the class's parser: items with signs between them ===== -/
theorem fS_p : fS 143 = fX 5 := by
  funext x y; unfold fS fX
  by_cases h : y = 0 <;> simp [h]
theorem fS_m : fS 145 = fX 6 := by
  funext x y; unfold fS fX
  by_cases h : y = 0 <;> simp [h]
theorem fM_t : fM 142 = fX 7 := by
  funext x y; unfold fM fX
  by_cases h : y = 0 <;> simp [h]
theorem fM_d : fM 147 = fX 8 := by
  funext x y; unfold fM fX
  by_cases h : y = 0 <;> simp [h]
theorem fM_r : fM 137 = fX 9 := by
  funext x y; unfold fM fX
  by_cases h : y = 0 <;> simp [h]
theorem tD_inj {A : DB} {e e' : Nat → Int64} (h : tD A e = tD A e') : A e = A e' := by
  unfold tD at h
  cases h1 : A e with
  | none => cases h2 : A e' with
    | none => rfl
    | some y => rw [h1, h2] at h; simp at h
  | some x => cases h2 : A e' with
    | none => rw [h1, h2] at h; simp at h
    | some y =>
      rw [h1, h2] at h
      cases x <;> cases y <;> first | rfl | (simp at h)
def opB (u : Nat) (f : DB → DB → DB) (kd : Nat) : Prop := (kd = 4 ∧ f = orD) ∨ (kd = 3 ∧ f = andD)
theorem opB_dep {u u0 : Nat} {f : DB → DB → DB} {kd : Nat} {A B : DB} (h : opB u0 f kd) (hA : Dep u (tD A)) (hB : Dep u (tD B)) : Dep u (tD (f A B)) := by
  intro e e' he
  have a := tD_inj (hA e e' he)
  have b := tD_inj (hB e e' he)
  rcases h with ⟨-, rfl⟩ | ⟨-, rfl⟩
  · unfold tD orD; rw [a, b]
  · unfold tD andD; rw [a, b]
section PX2
variable {σ : DD} {T : TXT} {b : Nat → Nat} {sz N i l s u i0 l0 s0 u0 : Nat} {o : Bool}
theorem s_landB {post : DD → Prop} (hs : s < 400) (k : ∀ τ, AgX pdQ noL σ τ → gI τ 30 8 = gI σ 30 8 → gI τ 30 4 = gI σ 30 4 → post τ) : w_Pars_land T σ (nI s) post := by
  unfold w_Pars_land
  refine ⟨fun _ => k σ (AgX.refl σ) rfl rfl, fun _ => ⟨fun _ => k σ (AgX.refl σ) rfl rfl, fun _ => ⟨vp_in_nI hs (by decide), vp_in_nI hs (by decide), fun σ2 e2 => ?_⟩⟩⟩
  subst e2
  exact k _ (AgX.put (by unfold pdQ; omega)) (by rw [gI_sI, if_neg (by omega)]) (by rw [gI_sI, if_neg (by omega)])
theorem pd_seqS {op : Int32 → Option (DS → DS → DS)} {p : Nat → Nat → PR DS} {item fn : DD → (Int32 → DD → Prop) → Prop} {body : (DD → Int32 → Int32 → Prop) → (Int32 → DD → Prop) → DD → Int32 → Int32 → Prop} (hN : N ≤ 400) (hc : ∀ k, N ≤ k → tC b sz k = 0) (prg : Prg N p) (hop : op 0 = none) (hit : Pd b sz N o (fun D => D) item p)
    (hbad : ∀ K (post : Int32 → DD → Prop) σ a3, post 0 σ → body K post σ 0 a3)
    (hgo : ∀ (K : DD → Int32 → Int32 → Prop) (post : Int32 → DD → Prop) σ i l s u (t : Nat), t < 400 → PC σ b sz o i l s u → (op (tC b sz i) = none → post 1 σ) → (∀ f (kd : Nat), op (tC b sz i) = some f → f = bin (fX (nI kd)) → (kd = 5 ∨ kd = 6 ∨ kd = 7 ∨ kd = 8 ∨ kd = 9 ∨ kd = 10 ∨ kd = 11 ∨ kd = 12) → w_Tape_advance T σ (fun σ2 => item σ2 (fun r3 σ4 => w_Pars_step T σ4 (nI kd) (nI 0) (fun _ σ6 => K σ6 r3 (nI t + 1))))) → body K post σ 1 (nI t))
    (hfn : ∀ σ (post : Int32 → DD → Prop), item σ (fun r τ => Loop (fun K x => body (fun σ a2 a3 => K (σ, a2, a3)) post x.1 x.2.1 x.2.2) (τ, r, 0)) → fn σ post) : Pd b sz N o (fun D => D) fn (pSeq op (tC b sz) p) := by
  intro σ i0 l0 s0 u0 post hP hi0 hl0 k0 k1
  refine hfn σ post (hit σ i0 l0 s0 u0 _ hP hi0 hl0 (fun e h2 τ a q8 q4 => Loop.stop (fun K => hbad _ _ _ _ (k0 e (by unfold pSeq; rw [h2]) τ a q8 q4))) (fun j l' D h2 τ s' u' hG => ?_))
  have hj := (prg i0 l0 hi0 hl0).1 j l' D h2
  have eR : pSeq op (tC b sz) p i0 l0 = pJ op (tC b sz) p 401 j l' D := by unfold pSeq; rw [h2]
  rw [eR] at k0 k1
  generalize hR : pJ op (tC b sz) p 401 j l' D = R at k0 k1
  refine LoopN (fun m y => (m = 0 ∧ y.2.1 = 0 ∧ post 0 y.1) ∨ ∃ i l s u A n t, m = N - i + 1 ∧ N < i + n ∧ i ≤ N ∧ l ≤ 50 ∧ y.2.1 = 1 ∧ y.2.2 = nI t ∧ t < i ∧ PG σ y.1 b sz o i0 l0 s0 u0 i l s u A ∧ pJ op (tC b sz) p n i l A = R) ?_ (n := N - j + 1) (Or.inr ⟨j, l', s', u', D, 401, 0, rfl, by omega, hj.2.1, hj.2.2.2, rfl, rfl, by omega, hG, hR⟩)
  clear hR hG hj h2
  rintro m ⟨υ, a2, a3⟩ K hh ih
  simp only [] at hh ⊢
  rcases hh with ⟨hm, e2, hp⟩ | ⟨i, l, s, u, A, n, t, hm, hn, hi, hl, e2, e3, ht, hG, hR⟩
  · subst e2; exact hbad _ _ _ _ hp
  subst e2; subst e3
  obtain ⟨n, rfl⟩ : ∃ n', n = n' + 1 := ⟨n - 1, by omega⟩
  have hPu := hG.2.1
  refine hgo _ post υ i l s u t (by omega) hPu (fun z => k1 i l A ?_ υ s u hG) (fun f kd z hf hk => ?_)
  · rw [← hR]; unfold pJ; rw [z]
  have hlt : i < N := Nat.lt_of_not_le (fun w => by rw [hc i w, hop] at z; cases z)
  have prg1 := prg (i + 1) l hlt hl
  refine s_adv hPu (fun τ1 a1 c1 hP1 => hit τ1 (i + 1) l s u _ hP1 hlt hl (fun e h2 τ2 ag q8 q4 => s_stepB q4 (fun r τ3 a4 g8 g4 => ?_)) (fun j l' B h2 τ2 s2 u2 hG2 => ?_))
  · refine ih 0 _ (by omega) (Or.inl ⟨rfl, rfl, k0 e ?_ τ3 (((hG.1.trans a1).q.trans ag).trans a4) (g8.trans q8) g4⟩)
    rw [← hR]; unfold pJ; rw [z]; simp only []; rw [h2]
  · have hj := prg1.1 j l' B h2
    have hs2 := hG2.2.2.2.1
    have hsi := hPu.2.2.2.2.2.1
    refine s_step hG2.2.1.2.2.1 (by omega) (fun τ3 a4 e4 => ?_)
    rw [nI_1]
    refine ih (N - j + 1) _ (by omega) (Or.inr ⟨j, l', s2 + 1, u2, f A B, n, t + 1, rfl, by omega, hj.2.1, hj.2.2.2, rfl, rfl, by omega, ?_, ?_⟩)
    · rw [hf]; exact PG.two hN hj.2.1 hG a1 c1 hG2 a4 e4 hk
    · rw [← hR, pJ, z]; simp only []; rw [h2]
theorem pd_seqT {op : Int32 → Option (DB → DB → DB)} {p : Nat → Nat → PR DB} {item fn : DD → (Int32 → DD → Prop) → Prop} {body : (DD → Int32 → Int32 → Prop) → (Int32 → DD → Prop) → DD → Int32 → Int32 → Prop} (hN : N ≤ 400) (hc : ∀ k, N ≤ k → tC b sz k = 0) (prg : Prg N p) (hop : op 0 = none) (hit : Pd b sz N o tD item p)
    (hbad : ∀ K (post : Int32 → DD → Prop) σ a3, post 0 σ → body K post σ 0 a3)
    (hgo : ∀ (K : DD → Int32 → Int32 → Prop) (post : Int32 → DD → Prop) σ i l s u (t : Nat), t < 400 → PC σ b sz o i l s u → (op (tC b sz i) = none → post 1 σ) → (∀ f (kd : Nat), op (tC b sz i) = some f → opB 0 f kd → w_Pars_step T σ (nI kd) (nI 0) (fun r6 σ7 => w_Tape_advance T σ7 (fun σ9 => item σ9 (fun r10 σ11 => w_Pars_land T σ11 r6 (fun σ13 => K σ13 r10 (nI t + 1)))))) → body K post σ 1 (nI t))
    (hfn : ∀ σ (post : Int32 → DD → Prop), item σ (fun r τ => Loop (fun K x => body (fun σ a2 a3 => K (σ, a2, a3)) post x.1 x.2.1 x.2.2) (τ, r, 0)) → fn σ post) : Pd b sz N o tD fn (pSeq op (tC b sz) p) := by
  intro σ i0 l0 s0 u0 post hP hi0 hl0 k0 k1
  refine hfn σ post (hit σ i0 l0 s0 u0 _ hP hi0 hl0 (fun e h2 τ a q8 q4 => Loop.stop (fun K => hbad _ _ _ _ (k0 e (by unfold pSeq; rw [h2]) τ a q8 q4))) (fun j l' D h2 τ s' u' hG => ?_))
  have hj := (prg i0 l0 hi0 hl0).1 j l' D h2
  have eR : pSeq op (tC b sz) p i0 l0 = pJ op (tC b sz) p 401 j l' D := by unfold pSeq; rw [h2]
  rw [eR] at k0 k1
  generalize hR : pJ op (tC b sz) p 401 j l' D = R at k0 k1
  refine LoopN (fun m y => (m = 0 ∧ y.2.1 = 0 ∧ post 0 y.1) ∨ ∃ i l s u A n t, m = N - i + 1 ∧ N < i + n ∧ i ≤ N ∧ l ≤ 50 ∧ y.2.1 = 1 ∧ y.2.2 = nI t ∧ t < i ∧ PG σ y.1 b sz o i0 l0 s0 u0 i l s u (tD A) ∧ pJ op (tC b sz) p n i l A = R) ?_ (n := N - j + 1) (Or.inr ⟨j, l', s', u', D, 401, 0, rfl, by omega, hj.2.1, hj.2.2.2, rfl, rfl, by omega, hG, hR⟩)
  clear hR hG hj h2
  rintro m ⟨υ, a2, a3⟩ K hh ih
  simp only [] at hh ⊢
  rcases hh with ⟨hm, e2, hp⟩ | ⟨i, l, s, u, A, n, t, hm, hn, hi, hl, e2, e3, ht, hG, hR⟩
  · subst e2; exact hbad _ _ _ _ hp
  subst e2; subst e3
  obtain ⟨n, rfl⟩ : ∃ n', n = n' + 1 := ⟨n - 1, by omega⟩
  have hPu := hG.2.1
  have hsi := hPu.2.2.2.2.2.1
  refine hgo _ post υ i l s u t (by omega) hPu (fun z => k1 i l A ?_ υ s u hG) (fun f kd z hf => ?_)
  · rw [← hR]; unfold pJ; rw [z]
  have hlt : i < N := Nat.lt_of_not_le (fun w => by rw [hc i w, hop] at z; cases z)
  have prg1 := prg (i + 1) l hlt hl
  have hk16 : kd < 16 := by rcases hf with h | h <;> omega
  refine s_step hPu.2.2.1 (by omega) (fun τ0 a0 e0 => ?_)
  have a0' : AgX (fun o k => o = 32 ∨ (o = 30 ∧ k = 4)) noL υ τ0 := by rw [e0]; exact (AgX.put (by omega)).set (by omega)
  have hA0 : TA τ0 b sz i := hPu.1.ag a0' (by omega) (by omega)
  refine s_advance hA0 (fun τ1 a1 hA1 => ?_)
  have hP1 : PC τ1 b sz o (i + 1) l (s + 1) u := by
    refine ⟨hA1, ?_, ?_, ?_, hPu.2.2.2.2.1, by omega, ?_⟩
    · rw [a1.i _ _ (by unfold tpQ; omega), a0'.i _ _ (by omega)]; exact hPu.2.1
    · rw [a1.i _ _ (by unfold tpQ; omega), e0, gI_same]
    · rw [a1.i _ _ (by unfold tpQ; omega), a0'.i _ _ (by omega)]; exact hPu.2.2.2.1
    · rw [a1.i _ _ (by unfold tpQ; omega), a0'.i _ _ (by omega)]; exact hPu.2.2.2.2.2.2
  refine hit τ1 (i + 1) l (s + 1) u _ hP1 hlt hl (fun e h2 τ2 ag q8 q4 => s_landB (by omega) (fun τ3 a4 g8 g4 => ?_)) (fun j l' B h2 τ2 s2 u2 hG2 => ?_)
  · refine ih 0 _ (by omega) (Or.inl ⟨rfl, rfl, k0 e ?_ τ3 ((((hG.1.trans a0).trans (tp_pd a1)).q.trans ag).trans a4) (g8.trans q8) ?_⟩)
    · rw [← hR]; unfold pJ; rw [z]; simp only []; rw [h2]
    · obtain ⟨s', w1, w2⟩ := q4
      exact ⟨s', w1, g4.trans w2⟩
  · have hj := prg1.1 j l' B h2
    refine s_land (R := tD (f A B)) hN hj.2.1 hlt hG e0 a0 (tp_pd a1) (fun k => a1.i _ _ (by unfold tpQ; omega)) hG2 hk16 (fun cd sA sB q1 q2 => ?_) (fun dA dB => opB_dep hf dA dB) (fun τ5 hG5 => ?_)
    · have := hG.2.2.2.2.1
      rcases hf with ⟨rfl, rfl⟩ | ⟨rfl, rfl⟩
      · exact seg_or sA sB (by omega) q1 q2
      · exact seg_and sA sB (by omega) q1 q2
    · rw [nI_1]
      refine ih (N - j + 1) _ (by omega) (Or.inr ⟨j, l', s2, u2, f A B, n, t + 1, rfl, by omega, hj.2.1, hj.2.2.2, rfl, rfl, by omega, hG5, ?_⟩)
      rw [← hR, pJ, z]; simp only []; rw [h2]
end PX2
