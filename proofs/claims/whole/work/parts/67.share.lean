/-! ===== the fewest throats ===== -/
def lst (N m : Nat) : List Nat := (List.range N).filter (bOf (nI m))
def lstI (N m i : Nat) : List Nat := (List.range i).filter (bOf (nI m))
theorem lstI_succ (N m i : Nat) : lstI N m (i + 1) = lstI N m i ++ (if bOf (nI m) i then [i] else []) := by
  unfold lstI
  rw [List.range_succ, List.filter_append]
  congr 1
  by_cases h : bOf (nI m) i = true
  · simp [h]
  · simp [h]
theorem lst_mem {N m a : Nat} : a ∈ lst N m ↔ a < N ∧ bOf (nI m) a = true := by
  unfold lst; rw [List.mem_filter, List.mem_range]
theorem lstI_len {N m : Nat} : ∀ i, (lstI N m i).length ≤ i := by
  intro i
  unfold lstI
  exact Nat.le_trans (List.length_filter_le ..) (by simp)
def voi (K : Nat → Int32) (r : Nat) : Nat := (K (96 + 2 * r)).toNatClampNeg
theorem voi_e {K : Nat → Int32} (hI : KI K) {r : Nat} (hr : r < nR K) : K (96 + 2 * r) = nI (voi K r) ∧ voi K r ≤ 99 := ⟨(rng_n (hI.rd hr).1 (by decide)).1, (rng_n (hI.rd hr).1 (by decide)).2.2⟩
/-- whether these acts can be shared out -/
def shr (K : Nat → Int32) (d : Nat) (set : Nat → Bool) : List Nat → (Nat → Nat) → Bool
  | [], _ => true
  | a :: l, s => (List.range (nR K)).any (fun r => (set r && !barN K a r (d % 7) && decide (s r + takN K a r (d % 7) ≤ voi K r)) && shr K d set l (upU s r (s r + takN K a r (d % 7))))
theorem any_range_succ {p : Nat → Bool} (n : Nat) : (List.range (n + 1)).any p = ((List.range n).any p || p n) := by
  rw [List.range_succ, List.any_append]; simp
theorem bOf_bit {m n i : Nat} (hm : m < 2 ^ n) (hn : n ≤ 16) (hi : i < 32) : jshr (nI m) (nI i) &&& 1 = bl (decide (i < n) && bOf (nI m) i) := by
  conv => lhs; rw [bits_of hm hn]
  exact bits_bit _ hn hi
section SH
variable {σ τ : DD} {T : TXT} {K : Nat → Int32} {L : List RD}
theorem s_isIn {m n i : Nat} {post : Int32 → DD → Prop} (hm : m < 2 ^ n) (hn : n ≤ 16) (hi : i < n) (k : post (bl (bOf (nI m) i)) σ) : w_M_isIn σ (nI m) (nI i) post := by
  unfold w_M_isIn
  rw [bOf_bit hm hn (by omega), decide_eq_true hi, Bool.true_and]
  cases h : bOf (nI m) i with
  | false => rw [h] at k; exact ⟨fun _ => k, fun z => absurd z (by decide)⟩
  | true => rw [h] at k; exact ⟨fun z => absurd rfl z, fun _ => k⟩
def lsP (o p : Nat) : Prop := o = 39 ∨ (o = 0 ∧ p = 40)
theorem MS.ag {P : Nat → Nat → Prop} (h : MS σ K L) (a : Ag P σ τ) (h4 : ∀ p, ¬ P 4 p) (h29 : ∀ p, ¬ P 29 p) (h0 : ¬ P 0 29) (h1 : ¬ P 0 1) : MS τ K L := ⟨⟨h.1.1.ag a h4, h.1.2.ag a h29 h0 h1⟩, h.2.1, h.2.2.1.ag a h4, h.2.2.2⟩
theorem s_lists {m : Nat} {post : DD → Prop} (hS : MS σ K L) (hm : m < 2 ^ nA K) (k : ∀ τ, Ag lsP σ τ → gI τ 0 40 = nI (lst (nA K) m).length → rowIs τ 39 (lst (nA K) m) → post τ) : w_M_lists σ (nI m) post := by
  have hI := hS.2.1
  have ha8 := hI.a
  unfold w_M_lists
  intro σ10 e10
  unfold w_M_lists_l7
  refine LoopN (fun c y => ∃ i, c = nA K - i ∧ i ≤ nA K ∧ Ag lsP σ y.1 ∧ y.2 = nI i ∧ gI y.1 0 40 = nI (lstI (nA K) m i).length ∧ rowIs y.1 39 (lstI (nA K) m i)) ?_ (n := nA K) ⟨0, rfl, Nat.zero_le _, ?_, rfl, ?_, ?_⟩
  · rintro c ⟨υ, a2⟩ KK ⟨i, hc, hi, ag, e2, h40, hrow⟩ ih
    simp only [] at ag e2 h40 hrow ⊢
    subst e2
    unfold w_M_lists_b7
    have hl := lstI_len (N := nA K) (m := m) i
    rw [ag.at 4 399 (by unfold lsP; omega), hS.1.1 399 (by unfold dyn; omega), ha8.1, nI_leI (by omega) (by omega)]
    refine ⟨fun z => ?_, fun z => ?_⟩
    · have : i = nA K := by omega
      subst this
      exact k υ ag h40 hrow
    · refine s_isIn hm (by omega) (by omega) (br1 (fun hb => ?_) (fun hb => ?_))
      · rw [h40, nI_clamp (by omega)]
        refine ⟨vp_in_nI (by omega) (by decide), fun σ5 e5 σ8 e8 => ?_⟩
        rw [nI_1]
        refine ih (nA K - (i + 1)) _ (by omega) ⟨i + 1, rfl, by omega, ?_, rfl, ?_, ?_⟩
        · subst e5; subst e8; exact (ag.set (Or.inl rfl)).set (Or.inr ⟨rfl, rfl⟩)
        · subst e5; subst e8
          rw [gI_same, gI_sI, if_neg (by omega), h40, nI_1, lstI_succ, if_pos hb, List.length_append]; rfl
        · rw [lstI_succ, if_pos hb]
          intro j x hx
          subst e5; subst e8
          rw [gI_sI, if_neg (by omega), gI_sI]
          by_cases hj : j < (lstI (nA K) m i).length
          · rw [List.getElem?_append_left hj] at hx
            rw [if_neg (by omega)]; exact hrow j x hx
          · rw [List.getElem?_append_right (by omega)] at hx
            have hj0 : j - (lstI (nA K) m i).length = 0 := by
              rw [List.getElem?_eq_some_iff] at hx
              have := hx.1
              simp at this; omega
            rw [hj0] at hx
            simp at hx
            rw [if_pos ⟨rfl, by omega⟩, hx]
      · rw [nI_1]
        refine ih (nA K - (i + 1)) _ (by omega) ⟨i + 1, rfl, by omega, ag, rfl, ?_, ?_⟩
        · rw [lstI_succ, hb]; simpa using h40
        · rw [lstI_succ, hb]; simpa using hrow
  · subst e10; exact Ag.put (Or.inr ⟨rfl, rfl⟩)
  · subst e10; exact gI_same
  · intro j x hx; simp [lstI] at hx
def shP (o p : Nat) : Prop := qP o p ∨ o = 40
/-- the list of acts, as the model has it -/
def LstM (σ : DD) (l : List Nat) : Prop := gI σ 0 40 = nI l.length ∧ rowIs σ 39 l
theorem s_shares (hI : KI K) {d0 set : Nat} {l : List Nat} (hd : d0 ≤ 999) (hset : set < 2 ^ nR K) (hl8 : l.length ≤ 8) (hlA : ∀ a, a ∈ l → a < nA K) : ∀ m k fuel (s : Nat → Nat) (σ : DD) (post : Int32 → DD → Prop), k + m = l.length → m < fuel → MS σ K L → gI σ 4 395 = nI d0 → LstM σ l → (∀ r, r < nR K → gI σ 40 r = nI (s r) ∧ s r ≤ 99) → (∀ τ, Ag shP σ τ → MS τ K L → (∀ r, r < nR K → gI τ 40 r = nI (s r)) → (∀ r, nR K ≤ r → gI τ 40 r = gI σ 40 r) → post (bl (shr K d0 (bOf (nI set)) (l.drop k) s)) τ) → w_M_shares_d fuel σ (nI k) (nI set) post := by
  have ha8 := hI.a
  have hr4 := hI.r
  intro m
  induction m with
  | zero =>
    intro k fuel s σ post hk hf hS hday hlm hs kk
    cases fuel with
    | zero => omega
    | succ fuel =>
      show w_M_shares_o (w_M_shares_d fuel) σ (nI k) (nI set) post
      unfold w_M_shares_o
      rw [hlm.1]
      have : k = l.length := by omega
      subst this
      refine ⟨fun z => absurd rfl z, fun _ => ?_⟩
      rw [List.drop_length] at kk
      exact kk σ (Ag.refl σ) hS (fun r hr => (hs r hr).1) (fun _ _ => rfl)
  | succ m ihm =>
    intro k fuel s σ post hk hf hS hday hlm hs kk
    cases fuel with
    | zero => omega
    | succ fuel =>
      show w_M_shares_o (w_M_shares_d fuel) σ (nI k) (nI set) post
      unfold w_M_shares_o
      rw [hlm.1, nI_eq (by omega) (by omega)]
      refine ⟨fun _ => ?_, fun z => by omega⟩
      obtain ⟨a, ha, hal⟩ := get_lt (L := l) (i := k) (by omega)
      have haA := hlA a hal
      have hdr : l.drop k = a :: l.drop (k + 1) := by
        have hkl : k < l.length := by omega
        rw [List.drop_eq_getElem_cons hkl]
        rw [List.getElem?_eq_some_iff] at ha
        rw [ha.2]
      rw [hdr, shr] at kk
      generalize hF : (fun r => (bOf (nI set) r && !barN K a r (d0 % 7) && decide (s r + takN K a r (d0 % 7) ≤ voi K r)) && shr K d0 (bOf (nI set)) (l.drop (k + 1)) (upU s r (s r + takN K a r (d0 % 7)))) = F at kk
      unfold w_M_shares_l12
      refine LoopN (fun c y => ∃ r, c = nR K - r ∧ r ≤ nR K ∧ Ag shP σ y.1 ∧ MS y.1 K L ∧ (∀ r, r < nR K → gI y.1 40 r = nI (s r)) ∧ (∀ r, nR K ≤ r → gI y.1 40 r = gI σ 40 r) ∧ y.2 = nI r ∧ (List.range r).any F = false) ?_ (n := nR K) ⟨0, rfl, Nat.zero_le _, Ag.refl σ, hS, fun r hr => (hs r hr).1, fun _ _ => rfl, rfl, rfl⟩
      rintro c ⟨υ, a3⟩ KK ⟨r, hc, hr, ag, hSu, hsu, hsx, e3, hany⟩ ih
      simp only [] at ag hSu hsu hsx e3 hany ⊢
      subst e3
      unfold w_M_shares_b12
      rw [hSu.1.1 400 (by unfold dyn; omega), hr4.1, nI_leI (by omega) (by omega)]
      have lstu : ∀ υ', Ag shP σ υ' → LstM υ' l ∧ gI υ' 4 395 = nI d0 := by
        intro υ' a'
        refine ⟨⟨?_, ?_⟩, ?_⟩
        · rw [a'.at 0 40 (by unfold shP qP; omega)]; exact hlm.1
        · intro j x hx; rw [a'.at 39 j (by unfold shP qP; omega)]; exact hlm.2 j x hx
        · rw [a'.at 4 395 (by unfold shP qP; omega)]; exact hday
      refine ⟨fun z => ?_, fun z => ?_⟩
      · have : r = nR K := by omega
        subst this
        have := kk υ ag hSu hsu hsx
        rw [hany] at this
        exact this
      · have nx : ∀ υ', Ag shP υ υ' → MS υ' K L → (∀ r, r < nR K → gI υ' 40 r = nI (s r)) → (∀ r, nR K ≤ r → gI υ' 40 r = gI σ 40 r) → F r = false → KK (υ', nI r + 1) := by
          intro υ' a' hS' hs' hsx' hF'
          rw [nI_1]
          refine ih (nR K - (r + 1)) _ (by omega) ⟨r + 1, rfl, by omega, ag.trans a', hS', hs', hsx', rfl, ?_⟩
          rw [any_range_succ, hany, hF']; rfl
        have hFr : F r = ((bOf (nI set) r && !barN K a r (d0 % 7) && decide (s r + takN K a r (d0 % 7) ≤ voi K r)) && shr K d0 (bOf (nI set)) (l.drop (k + 1)) (upU s r (s r + takN K a r (d0 % 7)))) := by rw [← hF]
        refine s_isIn hset (by omega) (by omega) (br0 (fun hb => nx υ (Ag.refl υ) hSu hsu hsx (by rw [hFr, hb]; rfl)) (fun hb => ?_))
        have hin8 : vp_in (nI k) 8 := vp_in_nI (by omega) (by decide)
        have hin4 : vp_in (nI r) 4 := vp_in_nI (by omega) (by decide)
        have l1 := lstu υ ag
        rw [nI_clamp (n := k) (by omega), l1.1.2 k a ha, l1.2]
        refine ⟨hin8, s_barred hSu.1 hI haA (by omega) (by omega) ?_⟩
        intro υ1 ag1 hQ1
        have hS1 := hSu.q ag1 hQ1
        have sg1 := ag1.mono (fun o p (h : qP o p) => (Or.inl h : shP o p))
        have l2 := lstu υ1 (ag.trans sg1)
        have hs1 : ∀ r, gI υ1 40 r = gI υ 40 r := fun r => ag1.at 40 r (by unfold qP; omega)
        refine br0 (fun hb1 => ?_) (fun hb1 => nx υ1 sg1 hS1 (fun r hr => by rw [hs1]; exact hsu r hr) (fun r hr => by rw [hs1]; exact hsx r hr) (by rw [hFr, hb1]; simp))
        rw [l2.1.2 k a ha, l2.2]
        refine ⟨hin8, s_takes hS1.1 hI haA (by omega) (by omega) ?_⟩
        intro υ2 ag2 hQ2
        have hS2 := hS1.q ag2 hQ2
        have sg2 := sg1.trans (ag2.mono (fun o p (h : qP o p) => (Or.inl h : shP o p)))
        have hs2 : ∀ r, gI υ2 40 r = gI υ 40 r := fun r => by rw [ag2.at 40 r (by unfold qP; omega)]; exact hs1 r
        have htk := (takN_e hI (r := r) (w := d0 % 7) haA).2
        have hv := voi_e hI (r := r) (by omega)
        have hsr := (hs r (by omega)).2
        rw [nI_clamp (n := r) (by omega), show (96 : Int32) = nI 96 from rfl, show (2 : Int32) = nI 2 from rfl, pk_mul, nI_add, nI_clamp (by omega), hs2, hsu r (by omega), hS2.1.1 (96 + 2 * r) (dyn_lt (by omega)), hv.1, nI_add, nI_leI (by omega) (by omega)]
        refine ⟨hin4, vp_in_nI (by omega) (by decide), fun hle => ⟨hin4, hin4, fun σ16 e16 => ?_⟩, fun hle => nx υ2 sg2 hS2 (fun r hr => by rw [hs2]; exact hsu r hr) (fun r hr => by rw [hs2]; exact hsx r hr) (by rw [hFr, decide_eq_false hle]; simp)⟩
        have ag16 : Ag (fun o p => o = 40) υ2 σ16 := by subst e16; exact Ag.put rfl
        have sg16 := sg2.trans (ag16.mono (fun o p h => Or.inr h))
        have hS16 := hS2.ag ag16 (by omega) (by omega) (by omega) (by omega)
        have l3 := lstu σ16 (ag.trans sg16)
        rw [nI_1]
        refine ihm (k + 1) fuel (upU s r (s r + takN K a r (d0 % 7))) σ16 _ (by omega) (by omega) hS16 l3.2 l3.1 ?_ ?_
        · intro r' hr'
          subst e16
          rw [gI_sI]
          unfold upU
          by_cases hrr : r' = r
          · rw [if_pos ⟨rfl, hrr⟩, if_pos hrr]; exact ⟨rfl, by omega⟩
          · rw [if_neg (fun x => hrr x.2), if_neg hrr, hs2]; exact ⟨hsu r' hr', (hs r' hr').2⟩
        · intro τ agt hSt ht htx
          refine ⟨hin4, hin4, fun σ22 e22 => ?_⟩
          rw [ht r (by omega), show upU s r (s r + takN K a r (d0 % 7)) r = s r + takN K a r (d0 % 7) from by unfold upU; rw [if_pos rfl], pk_sub (by omega), Nat.add_sub_cancel] at e22
          have ag22 : Ag (fun o p => o = 40) τ σ22 := by subst e22; exact Ag.put rfl
          have sgT := sg16.trans (agt.trans (ag22.mono (fun o p h => Or.inr h)))
          have hS22 := hSt.ag ag22 (by omega) (by omega) (by omega) (by omega)
          have hsf : ∀ r', r' < nR K → gI σ22 40 r' = nI (s r') := by
            intro r' hr'
            subst e22
            rw [gI_sI]
            by_cases hrr : r' = r
            · rw [if_pos ⟨rfl, hrr⟩, hrr]
            · rw [if_neg (fun x => hrr x.2), ht r' hr']; unfold upU; rw [if_neg hrr]
          have hsfx : ∀ r', nR K ≤ r' → gI σ22 40 r' = gI σ 40 r' := by
            intro r' hr'
            subst e22
            rw [gI_sI, if_neg (by omega), htx r' hr']
            subst e16
            rw [gI_sI, if_neg (by omega), hs2]; exact hsx r' hr'
          refine br0 (fun hb2 => nx σ22 sgT hS22 hsf hsfx (by rw [hFr, hb2, Bool.and_false])) (fun hb2 => ?_)
          have := kk σ22 (ag.trans sgT) hS22 hsf hsfx
          have hT : (List.range (nR K)).any F = true := by
            rw [List.any_eq_true]
            refine ⟨r, List.mem_range.2 (by omega), ?_⟩
            rw [hFr, hb, hb1, decide_eq_true hle, hb2]; rfl
          rw [hT] at this
          exact this
end SH
