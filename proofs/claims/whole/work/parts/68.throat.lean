def onN (s : Nat) : Nat := (ones8 (nI s)).toNatClampNeg
theorem onN_e {s : Nat} (h : s < 256) : ones8 (nI s) = nI (onN s) ∧ onN s ≤ 8 := by
  have := rng_n (ones8_in h) (by decide)
  exact ⟨this.1, this.2.2⟩
theorem onN_in {s n : Nat} (hn : n ≤ 4) (h1 : 1 ≤ s) (h : s < 2 ^ n) : 1 ≤ onN s ∧ onN s ≤ n := by
  have key : ∀ n, n < 5 → ∀ s, s < 16 → 1 ≤ s → s < 2 ^ n → 1 ≤ onN s ∧ onN s ≤ n := by
    intro n hn s hs
    refine co_dec (N := 5) (P := fun n => ∀ s, s < 16 → 1 ≤ s → s < 2 ^ n → 1 ≤ onN s ∧ onN s ≤ n) (by decide +kernel) hn s hs
  have : 2 ^ n ≤ 2 ^ 4 := Nat.pow_le_pow_right (by decide) hn
  exact key n (by omega) s (by omega) h1 h
section TH
variable (f : Nat → Bool)
def thF (best : Option Nat) (s : Nat) : Option Nat := if (match best with
  | none => true
  | some b => decide (onN s < onN b)) && f s then some s else best
def thI : Nat → Option Nat
  | 0 => none
  | i + 1 => if i = 0 then none else thF f (thI i) i
/-- the lowest of the fewest -/
def thB (n : Nat) (b : Nat) : Prop := 1 ≤ b ∧ b < n ∧ f b = true ∧ ∀ s, 1 ≤ s → s < n → f s = true → onN b < onN s ∨ (onN b = onN s ∧ b ≤ s)
theorem thI_char : ∀ n, (∀ b, thI f n = some b → thB f n b) ∧ (thI f n = none → ∀ s, 1 ≤ s → s < n → f s = false) := by
  intro n
  induction n with
  | zero => exact ⟨by intro b h; simp [thI] at h, by intro _ s _ h; omega⟩
  | succ n ih =>
    unfold thI
    by_cases h0 : n = 0
    · rw [if_pos h0]
      exact ⟨by intro b h; simp at h, by intro _ s h1 h2; omega⟩
    · rw [if_neg h0]
      unfold thF
      cases ht : thI f n with
      | none =>
        have hno := ih.2 ht
        simp only [Bool.true_and]
        cases hf : f n with
        | false =>
          refine ⟨by intro b h; simp at h, ?_⟩
          intro _ s h1 h2
          by_cases hs : s = n
          · rw [hs]; exact hf
          · exact hno s h1 (by omega)
        | true =>
          refine ⟨?_, by intro h; simp at h⟩
          intro b h
          simp at h
          subst h
          refine ⟨by omega, by omega, hf, ?_⟩
          intro s h1 h2 h3
          by_cases hs : s = n
          · right; rw [hs]; exact ⟨rfl, Nat.le_refl _⟩
          · rw [hno s h1 (by omega)] at h3; simp at h3
      | some b =>
        obtain ⟨b1, b2, b3, b4⟩ := ih.1 b ht
        simp only []
        by_cases hc : (decide (onN n < onN b) && f n) = true
        · rw [if_pos hc]
          simp only [Bool.and_eq_true, decide_eq_true_eq] at hc
          refine ⟨?_, by intro h; simp at h⟩
          intro b' h
          injection h with h
          subst h
          refine ⟨by omega, by omega, hc.2, ?_⟩
          intro s h1 h2 h3
          by_cases hs : s = n
          · right; rw [hs]; exact ⟨rfl, Nat.le_refl _⟩
          · have := b4 s h1 (by omega) h3
            left; omega
        · rw [if_neg hc]
          refine ⟨?_, by intro h; simp at h⟩
          intro b' h
          injection h with h
          subst h
          refine ⟨b1, by omega, b3, ?_⟩
          intro s h1 h2 h3
          by_cases hs : s = n
          · subst hs
            simp only [Bool.and_eq_true, decide_eq_true_eq, not_and] at hc
            have : ¬ onN s < onN b := fun w => hc w h3
            omega
          · exact b4 s h1 (by omega) h3
theorem thI_uniq {n b : Nat} (h : thB f n b) : thI f n = some b := by
  cases ht : thI f n with
  | none =>
    have := (thI_char f n).2 ht b h.1 h.2.1
    rw [h.2.2.1] at this; simp at this
  | some c =>
    have hc := (thI_char f n).1 c ht
    have h1 := h.2.2.2 c hc.1 hc.2.1 hc.2.2.1
    have h2 := hc.2.2.2 b h.1 h.2.1 h.2.2.1
    congr 1; omega
theorem thI_none {n : Nat} (h : ∀ s, 1 ≤ s → s < n → f s = false) : thI f n = none := by
  cases ht : thI f n with
  | none => rfl
  | some c =>
    have hc := (thI_char f n).1 c ht
    have hcf := hc.2.2.1
    rw [h c hc.1 hc.2.1] at hcf
    simp at hcf
end TH
def clash (K : Nat → Int32) (l : List Nat) : Bool := l.any (fun a => l.any (fun b => gsy K a b))
def shF (K : Nat → Int32) (d : Nat) (l : List Nat) (s : Nat) : Bool := shr K d (bOf (nI s)) l (fun _ => 0)
def throatS (K : Nat → Int32) (d : Nat) (a1 a2 : Int32) : Int32 := if actsB K a1 && !decide (a1 = 0) && inB a2 0 1 then (if clash K (lst (nA K) a1.toNatClampNeg) then -1 else match thI (shF K d (lst (nA K) a1.toNatClampNeg)) (2 ^ nR K) with
  | none => -1
  | some s => if a2 = 0 then ones8 (nI s) else nI s) else -1
section THM
variable {σ τ : DD} {T : TXT} {K : Nat → Int32} {L : List RD}
theorem gsy_sym (hI : KI K) {a b : Nat} (ha : a < 8) (hb : b < 8) : gsy K a b = gsy K b a := by
  unfold gsy; rw [(hI.gs ha hb).2.1]
theorem gsy_irr (hI : KI K) {a : Nat} (ha : a < 8) : gsy K a a = false := by
  unfold gsy; rw [(hI.gs ha ha).2.2]; rfl
theorem clash_f (hI : KI K) {l : List Nat} (hl : ∀ a, a ∈ l → a < 8) (h : ∀ (i j a b : Nat), j < i → l[i]? = some a → l[j]? = some b → gsy K a b = false) : clash K l = false := by
  unfold clash
  rw [List.any_eq_false]
  intro a ha
  simp only [Bool.not_eq_true]
  rw [List.any_eq_false]
  intro b hb
  simp only [Bool.not_eq_true]
  obtain ⟨i, hi, ei⟩ := List.getElem_of_mem ha
  obtain ⟨j, hj, ej⟩ := List.getElem_of_mem hb
  have gi : l[i]? = some a := by rw [List.getElem?_eq_some_iff]; exact ⟨hi, ei⟩
  have gj : l[j]? = some b := by rw [List.getElem?_eq_some_iff]; exact ⟨hj, ej⟩
  by_cases hij : j < i
  · exact h i j a b hij gi gj
  · by_cases hji : i < j
    · rw [gsy_sym hI (hl a ha) (hl b hb)]; exact h j i b a hji gj gi
    · have : i = j := by omega
      subst this
      rw [gi] at gj
      injection gj with gj
      subst gj
      exact gsy_irr hI (hl a ha)
theorem clash_t {l : List Nat} {i j a b : Nat} (hi : l[i]? = some a) (hj : l[j]? = some b) (h : gsy K a b = true) : clash K l = true := by
  unfold clash
  rw [List.any_eq_true]
  refine ⟨a, List.mem_of_getElem? hi, ?_⟩
  rw [List.any_eq_true]
  exact ⟨b, List.mem_of_getElem? hj, h⟩
def thP (o p : Nat) : Prop := qP o p ∨ o = 40 ∨ lsP o p
theorem s_Mthroats {d0 : Nat} {a1 a2 : Int32} {post : Int32 → DD → Prop} (hS : MS σ K L) (hday : gI σ 4 395 = nI d0) (hd0 : d0 ≤ 999) (hsp : ∀ r, r < 4 → gI σ 40 r = 0) (k : ∀ τ, PM σ τ → MS τ K L → post (throatS K d0 a1 a2) τ) : w_M_throats σ a1 a2 post := by
  have hI := hS.2.1
  have ha8 := hI.a
  have hr4 := hI.r
  unfold throatS at k
  unfold w_M_throats
  refine s_areActs hS.1.1 hI (br0 (fun h1 => ?_) (fun h1 => ?_))
  · rw [h1] at k; exact k σ (PM.refl σ) hS
  refine ⟨fun h0 => ?_, fun h0 => ?_⟩
  · rw [h1, decide_eq_true h0] at k; exact k σ (PM.refl σ) hS
  refine s_lies (br1 (fun h2 => ?_) (fun h2 => ?_))
  rotate_left
  · rw [h1, decide_eq_false h0, h2] at k; exact k σ (PM.refl σ) hS
  rw [h1, decide_eq_false h0, h2] at k
  simp only [Bool.not_false, Bool.and_true, if_true] at k
  obtain ⟨m, hm, e1⟩ := actsB_e hI h1
  subst e1
  have hp8 := pow8 ha8.2
  rw [nI_clamp (by omega)] at k
  refine s_lists hS hm ?_
  intro υ agl h40 hrow
  have hS1 : MS υ K L := hS.ag agl (by unfold lsP; omega) (by unfold lsP; omega) (by unfold lsP; omega) (by unfold lsP; omega)
  have hlA : ∀ a, a ∈ lst (nA K) m → a < nA K := fun a ha => (lst_mem.1 ha).1
  have hl8 : (lst (nA K) m).length ≤ 8 := by have := lstI_len (N := nA K) (m := m) (nA K); exact Nat.le_trans this ha8.2
  generalize lst (nA K) m = l at h40 hrow hlA hl8 k
  have agT : Ag thP σ υ := agl.mono (fun o p h => Or.inr (Or.inr h))
  have day1 : ∀ υ', Ag thP σ υ' → gI υ' 4 395 = nI d0 := fun υ' a => by rw [a.at 4 395 (by unfold thP qP lsP; omega)]; exact hday
  -- what the call leaves alone
  have fin : ∀ υ', Ag thP σ υ' → (∀ r, gI υ' 40 r = gI σ 40 r) → PM σ υ' := by
    intro υ' a h o p hp
    by_cases ho : o = 40
    · subst ho; exact h p
    · exact a.at o p (by unfold thP qP lsP; unfold pers at hp; omega)
  unfold w_M_throats_l30
  refine LoopN (fun c y => ∃ i, c = l.length - i ∧ i ≤ l.length ∧ y.1 = υ ∧ y.2 = nI i ∧ ∀ (i' j a b : Nat), i' < i → j < i' → l[i']? = some a → l[j]? = some b → gsy K a b = false) ?_ (n := l.length) ⟨0, rfl, Nat.zero_le _, rfl, rfl, by omega⟩
  rintro c ⟨υ0, a3⟩ KK ⟨i, hc, hi, eu, e3, hno⟩ ih
  simp only [] at eu e3 hno ⊢
  subst eu; subst e3
  unfold w_M_throats_b30
  rw [h40, nI_leI (by omega) (by omega)]
  have s40 : ∀ r, gI υ0 40 r = gI σ 40 r := fun r => agl.at 40 r (by unfold lsP; omega)
  refine ⟨fun z => ?_, fun z => ?_⟩
  · have hcf : clash K l = false := clash_f hI (fun a ha => by have := hlA a ha; omega) (fun i' j a b h1 h2 h3 => hno i' j a b (by rw [List.getElem?_eq_some_iff] at h2; have := h2.1; omega) h1 h2 h3)
    rw [hcf] at k
    simp only [Bool.false_eq_true, if_false] at k
    have hpw : 2 ^ nR K ≤ 2 ^ 4 := Nat.pow_le_pow_right (by decide) hr4.2
    have hpw1 : 1 ≤ 2 ^ nR K := Nat.one_le_two_pow
    unfold w_M_throats_l86
    refine LoopN (fun c y => ∃ s, c = 2 ^ nR K - s ∧ 1 ≤ s ∧ s ≤ 2 ^ nR K ∧ Ag thP σ y.1 ∧ MS y.1 K L ∧ LstM y.1 l ∧ (∀ r, gI y.1 40 r = gI σ 40 r) ∧ y.2.2 = nI s ∧ y.2.1 = (match thI (shF K d0 l) s with | none => -1 | some b => nI b)) ?_ (n := 2 ^ nR K - 1) ⟨1, rfl, Nat.le_refl _, hpw1, agT, hS1, ⟨h40, hrow⟩, s40, rfl, rfl⟩
    rintro c ⟨υ, b, a4⟩ KK2 ⟨s, hc, hs1, hs, ag, hSu, hlm, hs40, e4, hb⟩ ih2
    simp only [] at ag hSu hlm hs40 e4 hb ⊢
    subst e4
    unfold w_M_throats_b86
    rw [hSu.1.1 400 (by unfold dyn; omega), hr4.1, jshl_1 (by omega), nI_leI (by omega) (by omega)]
    have tch := thI_char (shF K d0 l) s
    refine ⟨fun z2 => ?_, fun z2 => ?_⟩
    · have hse : s = 2 ^ nR K := by omega
      rw [← hse] at k
      have kk := k υ (fin υ ag hs40) hSu
      cases ht : thI (shF K d0 l) s with
      | none =>
        rw [ht] at hb kk
        simp only [] at hb kk
        exact ⟨fun w => absurd hb w, fun _ => kk⟩
      | some b' =>
        rw [ht] at hb kk
        simp only [] at hb kk
        have hbb := tch.1 b' ht
        refine ⟨fun _ => ⟨fun w => ?_, fun w => ?_⟩, fun w => absurd w (by rw [hb]; exact nI_m1 (by have := hbb.2.1; omega))⟩
        · rw [if_neg w] at kk; rw [hb]; exact kk
        · rw [if_pos w] at kk
          rw [hb]; exact s_ones kk
    · have nx : ∀ υ' b', Ag thP σ υ' → MS υ' K L → LstM υ' l → (∀ r, gI υ' 40 r = gI σ 40 r) → b' = (match thI (shF K d0 l) (s + 1) with | none => -1 | some b => nI b) → KK2 (υ', b', nI s + 1) := by
        intro υ' b' q1 q2 q3 q4 q5
        rw [nI_1]
        exact ih2 (2 ^ nR K - (s + 1)) _ (by omega) ⟨s + 1, rfl, by omega, by omega, q1, q2, q3, q4, rfl, q5⟩
      have hstep : thI (shF K d0 l) (s + 1) = thF (shF K d0 l) (thI (shF K d0 l) s) s := by
        rw [thI, if_neg (by omega)]
      have j118 : (match thI (shF K d0 l) s with | none => True | some b => onN s < onN b) → w_M_throats_j118 (fun σ a3 a4 => KK2 (σ, a3, a4)) post υ a2 b (nI s) := by
        intro hbet
        unfold w_M_throats_j118 w_M_shares
        refine s_shares hI hd0 (by omega) hl8 hlA l.length 0 12 (fun _ => 0) υ _ (by omega) (by omega) hSu (day1 υ ag) hlm (fun r hr => ⟨by rw [hs40, hsp r (by omega)]; rfl, by omega⟩) ?_
        intro τ agt hSt ht htx
        have agt' : Ag thP σ τ := ag.trans (agt.mono (by intro o p h; rcases h with h | h; exact Or.inl h; exact Or.inr (Or.inl h)))
        have hlmt : LstM τ l := by
          refine ⟨?_, ?_⟩
          · rw [agt.at 0 40 (by unfold shP qP; omega)]; exact hlm.1
          · intro j x hx; rw [agt.at 39 j (by unfold shP qP; omega)]; exact hlm.2 j x hx
        have h40t : ∀ r, gI τ 40 r = gI σ 40 r := by
          intro r
          by_cases hr : r < nR K
          · rw [ht r hr, hsp r (by omega)]; rfl
          · rw [htx r (by omega)]; exact hs40 r
        rw [List.drop_zero]
        refine br0 (fun hf => nx τ b agt' hSt hlmt h40t ?_) (fun hf => nx τ (nI s) agt' hSt hlmt h40t ?_)
        · rw [hstep, hb]
          have hf' : shF K d0 l s = false := hf
          unfold thF
          rw [hf', Bool.and_false]; simp
        · rw [hstep]
          have hf' : shF K d0 l s = true := hf
          unfold thF
          rw [hf']
          cases hts : thI (shF K d0 l) s with
          | none => simp
          | some b' =>
            rw [hts] at hbet
            simp only [] at hbet
            simp [hbet]
      cases hts : thI (shF K d0 l) s with
      | none =>
        rw [hts] at hb j118
        simp only [] at hb j118
        exact ⟨fun _ => j118 trivial, fun w => absurd hb w⟩
      | some b' =>
        rw [hts] at hb j118
        simp only [] at hb j118
        have hbb := tch.1 b' hts
        have o1 := onN_e (s := s) (by omega)
        have o2 := onN_e (s := b') (by have := hbb.2.1; omega)
        refine ⟨fun w => absurd w (by rw [hb]; exact nI_m1 (by have := hbb.2.1; omega)), fun _ => ?_⟩
        refine s_ones ?_
        rw [hb]
        refine s_ones ?_
        rw [o1.1, o2.1, nI_leI (by omega) (by omega)]
        refine ⟨fun w => nx υ _ ag hSu hlm hs40 ?_, fun w => by rw [← hb]; exact j118 (by omega)⟩
        rw [hstep, hts]
        unfold thF
        simp only []
        have hd' : decide (onN s < onN b') = false := decide_eq_false (by omega)
        simp [hd']
  · unfold w_M_throats_l41
    refine LoopN (fun c y => ∃ j, c = i - j ∧ j ≤ i ∧ y.1 = υ0 ∧ y.2 = nI j ∧ ∀ (j' a b : Nat), j' < j → l[i]? = some a → l[j']? = some b → gsy K a b = false) ?_ (n := i) ⟨0, rfl, Nat.zero_le _, rfl, rfl, by omega⟩
    rintro c' ⟨υ1, a4⟩ KK2 ⟨j, hc', hj, eu1, e4, hno2⟩ ih2
    simp only [] at eu1 e4 hno2 ⊢
    subst eu1; subst e4
    unfold w_M_throats_b41
    rw [nI_leI (by omega) (by omega)]
    refine ⟨fun w => ?_, fun w => ?_⟩
    · rw [nI_1]
      refine ih (l.length - (i + 1)) _ (by omega) ⟨i + 1, rfl, by omega, rfl, rfl, ?_⟩
      intro i' j' a b h1 h2 h3 h4
      by_cases hii : i' = i
      · subst hii; exact hno2 j' a b (by omega) h3 h4
      · exact hno i' j' a b (by omega) h2 h3 h4
    · obtain ⟨a, ha, hal⟩ := get_lt (L := l) (i := i) (by omega)
      obtain ⟨b, hb, hbl⟩ := get_lt (L := l) (i := j) (by omega)
      have hA := hlA a hal
      have hB := hlA b hbl
      rw [nI_clamp (by omega), nI_clamp (by omega), hrow i a ha, hrow j b hb]
      refine ⟨vp_in_nI (by omega) (by decide), vp_in_nI (by omega) (by decide), s_gainsays hS1.1.1 (by omega) (by omega) (br0 (fun hg => ?_) (fun hg => ?_))⟩
      · rw [nI_1]
        refine ih2 (i - (j + 1)) _ (by omega) ⟨j + 1, rfl, by omega, rfl, rfl, ?_⟩
        intro j' a' b' h1 h2 h3
        by_cases hjj : j' = j
        · subst hjj
          rw [ha] at h2; rw [hb] at h3
          injection h2 with h2; injection h3 with h3
          subst h2; subst h3; exact hg
        · exact hno2 j' a' b' (by omega) h2 h3
      · rw [clash_t ha hb hg] at k
        exact k _ (fin _ agT s40) hS1
end THM
