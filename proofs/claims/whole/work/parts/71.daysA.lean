def cfL (K : Nat → Int32) (l : List Nat) (i j : Nat) : Bool := gsy K (l.getD i 0) (l.getD j 0)
def dayS (K : Nat → Int32) (a1 a2 : Int32) : Int32 := if actsB K a1 && !decide (a1 = 0) && inB a2 (-1) (ones8 a1 - 1) then (if a2 = -1 then nI (dsR (cfL K (lst (nA K) a1.toNatClampNeg)) (lst (nA K) a1.toNatClampNeg).length ((lst (nA K) a1.toNatClampNeg).length - 1) 1).1 else nI ((dsR (cfL K (lst (nA K) a1.toNatClampNeg)) (lst (nA K) a1.toNatClampNeg).length ((lst (nA K) a1.toNatClampNeg).length - 1) 1).2.getD a2.toNatClampNeg 0)) else -1
theorem rowIs_snoc {σ : DD} {o d : Nat} {pre : List Nat} (h : rowIs σ o pre) : rowIs (sI σ o pre.length (nI d)) o (pre ++ [d]) := by
  intro j y hy
  rw [gI_sI]
  by_cases hj : j < pre.length
  · rw [List.getElem?_append_left hj] at hy
    rw [if_neg (by omega)]; exact h j y hy
  · rw [List.getElem?_append_right (by omega)] at hy
    have hj0 : j - pre.length = 0 := by
      rw [List.getElem?_eq_some_iff] at hy
      have := hy.1
      simp at this; omega
    rw [hj0] at hy
    simp at hy
    rw [if_pos ⟨rfl, by omega⟩, hy]
theorem rowIs_pre {σ : DD} {o : Nat} {pre suf : List Nat} (h : rowIs σ o (pre ++ suf)) : rowIs σ o pre := by
  intro j y hy
  have hj : j < pre.length := by rw [List.getElem?_eq_some_iff] at hy; exact hy.1
  exact h j y (by rw [List.getElem?_append_left hj]; exact hy)
theorem getD_some {l : List Nat} {i x : Nat} (h : l[i]? = some x) : l.getD i 0 = x := by rw [List.getD_eq_getElem?_getD, h]; rfl
theorem get_getD {l : List Nat} {i : Nat} (h : i < l.length) : l[i]? = some (l.getD i 0) := by
  rw [List.getD_eq_getElem?_getD, List.getElem?_eq_getElem h]; rfl
theorem range_find_succ {β : Type} (f : Nat → Option β) (n : Nat) : (List.range (n + 1)).findSome? f = ((List.range n).findSome? f).or (f n) := by
  rw [List.range_succ, List.findSome?_append]; congr 1; simp only [List.findSome?_cons, List.findSome?_nil]; cases f n <;> rfl
theorem range_find_some {β : Type} {f : Nat → Option β} {n i : Nat} {r : β} (hn : (List.range i).findSome? f = none) (hf : f i = some r) (hi : i < n) : (List.range n).findSome? f = some r := by
  have key : ∀ j, i < j → (List.range j).findSome? f = some r := by
    intro j
    induction j with
    | zero => intro h; omega
    | succ j ih =>
      intro h
      rw [range_find_succ]
      by_cases hij : i = j
      · subst hij; rw [hn, hf]; rfl
      · rw [ih (by omega)]; rfl
  exact key n hi
section DDA
variable {σ τ : DD} {T : TXT} {K : Nat → Int32} {L : List RD}
theorem s_parts (hI : KI K) {n : Nat} {l : List Nat} (hn : n ≤ 8) (hl8 : l.length ≤ 8) (hlA : ∀ a, a ∈ l → a < nA K) : ∀ m fuel (pre : List Nat) (σ : DD) (post : Int32 → DD → Prop), pre.length + m = l.length → m < fuel → MK σ K → LstM σ l → rowIs σ 42 pre → (∀ x, x ∈ pre → x < 8) → (∀ τ, Ag (fun o _ => o = 42) σ τ → (ptR (cfL K l) (fun _ => n) m pre = none → rowIs τ 42 pre → post 0 τ) ∧ (∀ r, ptR (cfL K l) (fun _ => n) m pre = some r → rowIs τ 42 r → post 1 τ)) → w_M_parts_d fuel σ (nI pre.length) (nI n) post := by
  have ha8 := hI.a
  intro m
  induction m with
  | zero =>
    intro fuel pre σ post hk hf hK hlm hrow hx8 kk
    cases fuel with
    | zero => omega
    | succ fuel =>
      show w_M_parts_o (w_M_parts_d fuel) σ (nI pre.length) (nI n) post
      unfold w_M_parts_o
      rw [hlm.1, nI_eq (by omega) (by omega)]
      refine ⟨fun z => by omega, fun _ => ?_⟩
      exact (kk σ (Ag.refl σ)).2 pre rfl hrow
  | succ m ihm =>
    intro fuel pre σ post hk hf hK hlm hrow hx8 kk
    cases fuel with
    | zero => omega
    | succ fuel =>
      show w_M_parts_o (w_M_parts_d fuel) σ (nI pre.length) (nI n) post
      unfold w_M_parts_o
      rw [hlm.1, nI_eq (by omega) (by omega)]
      refine ⟨fun _ => ?_, fun z => by omega⟩
      rw [ptR] at kk
      generalize hF : (fun d => if okD (cfL K l) pre d then ptR (cfL K l) (fun _ => n) m (pre ++ [d]) else none) = F at kk
      unfold w_M_parts_l12
      refine LoopN (fun c y => ∃ d, c = n - d ∧ d ≤ n ∧ Ag (fun o _ => o = 42) σ y.1 ∧ rowIs y.1 42 pre ∧ y.2 = nI d ∧ (List.range d).findSome? F = none) ?_ (n := n) ⟨0, rfl, Nat.zero_le _, Ag.refl σ, hrow, rfl, rfl⟩
      rintro c ⟨υ, a3⟩ KK ⟨d, hc, hd, ag, hru, e3, hnone⟩ ih
      simp only [] at ag hru e3 hnone ⊢
      subst e3
      have keep : ∀ υ', Ag (fun o _ => o = 42) σ υ' → MK υ' K ∧ LstM υ' l := by
        intro υ' a'
        refine ⟨hK.ag a' (by omega), ?_, ?_⟩
        · rw [a'.at 0 40 (by omega)]; exact hlm.1
        · intro j x hx; rw [a'.at 39 j (by omega)]; exact hlm.2 j x hx
      unfold w_M_parts_b12
      rw [nI_leI (by omega) (by omega)]
      refine ⟨fun z => ?_, fun z => ?_⟩
      · have : d = n := by omega
        subst this
        exact (kk υ ag).1 hnone hru
      · have hFd : F d = if okD (cfL K l) pre d then ptR (cfL K l) (fun _ => n) m (pre ++ [d]) else none := by rw [← hF]
        have nx : ∀ υ', Ag (fun o _ => o = 42) υ υ' → rowIs υ' 42 pre → F d = none → KK (υ', nI d + 1) := by
          intro υ' a' hr' hf'
          rw [nI_1]
          refine ih (n - (d + 1)) _ (by omega) ⟨d + 1, rfl, by omega, ag.trans a', hr', rfl, ?_⟩
          rw [range_find_succ, hnone, hf']; rfl
        have j78 : ∀ b : Bool, (b = true → okD (cfL K l) pre d = true) → (b = false → okD (cfL K l) pre d = false) → w_M_parts_j78 (w_M_parts_d fuel) (fun σ a3 => KK (σ, a3)) post υ (nI pre.length) (nI n) (nI d) (bl b) := by
          intro b hb1 hb0
          unfold w_M_parts_j78
          refine br1 (fun hb => ?_) (fun hb => nx υ (Ag.refl υ) hru (by rw [hFd, if_neg (by rw [hb0 hb]; simp)]))
          rw [nI_clamp (by omega)]
          refine ⟨vp_in_nI (by omega) (by decide), fun σ2 e2 => ?_⟩
          have ag2 : Ag (fun o _ => o = 42) υ σ2 := by subst e2; exact Ag.put rfl
          have hk2 := keep σ2 (ag.trans ag2)
          have hlen : (pre ++ [d]).length = pre.length + 1 := by simp
          rw [nI_1, ← hlen]
          refine ihm fuel (pre ++ [d]) σ2 _ (by rw [hlen]; omega) (by omega) hk2.1 hk2.2 (by subst e2; exact rowIs_snoc hru) (by intro x hx; rcases List.mem_append.1 hx with w | w; exact hx8 x w; simp at w; omega) ?_
          intro τ agt
          rw [if_pos (hb1 hb)] at hFd
          refine ⟨fun hn hr' => ⟨fun _ => nx τ (ag2.trans agt) (rowIs_pre hr') (by rw [hFd]; exact hn), fun w => absurd rfl w⟩, fun r hr hrow' => ⟨fun w => absurd w (by decide), fun _ => ?_⟩⟩
          exact (kk τ (ag.trans (ag2.trans agt))).2 r (range_find_some hnone (by rw [hFd]; exact hr) (by omega)) hrow'
        obtain ⟨ak, hak, hakl⟩ := get_lt (L := l) (i := pre.length) (by omega)
        have hAk := hlA ak hakl
        unfold w_M_parts_l23
        refine LoopN (fun c y => ∃ (o : Nat) (b : Bool), c = pre.length - o + (if b then 1 else 0) ∧ o ≤ pre.length ∧ y.1 = υ ∧ y.2.2 = nI o ∧ y.2.1 = bl b ∧ (b = true → ∀ i, i < o → ¬ (pre.getD i 0 = d ∧ cfL K l i pre.length = true)) ∧ (b = false → okD (cfL K l) pre d = false)) ?_ (n := pre.length + 1) ⟨0, true, rfl, Nat.zero_le _, rfl, rfl, rfl, by intro _ i hi; omega, by simp⟩
        rintro c' ⟨υ', a4, a5⟩ KK2 ⟨o, b, hc', ho, eu, e5, e4, hb1, hb0⟩ ih2
        simp only [] at eu e5 e4 hb1 hb0 ⊢
        subst eu; subst e5; subst e4
        unfold w_M_parts_b23
        rw [nI_leI (by omega) (by omega)]
        refine ⟨fun w => ?_, fun w => ?_⟩
        · have hoe : o = pre.length := by omega
          subst hoe
          exact j78 b (fun hb => (okD_iff _ _ _).2 (hb1 hb)) hb0
        · refine br0 (fun hb => ?_) (fun hb => ?_)
          · exact j78 b (fun h => by rw [hb] at h; simp at h) hb0
          · obtain ⟨ao, hao, haol⟩ := get_lt (L := l) (i := o) (by omega)
            have hAo := hlA ao haol
            have hg := hru o (pre.getD o 0) (get_getD (by omega))
            have hpx : pre.getD o 0 < 8 := hx8 _ (List.mem_of_getElem? (get_getD (by omega)))
            have hku := keep υ' ag
            have hin8 : vp_in (nI o) 8 := vp_in_nI (by omega) (by decide)
            have ecf : cfL K l o pre.length = gsy K ao ak := by unfold cfL; rw [getD_some hao, getD_some hak]
            unfold w_M_parts_j65 w_M_parts_j70
            rw [nI_clamp (n := o) (by omega), hg, nI_eq (by omega) (by omega), hku.2.2 o ao hao, nI_clamp (by omega), hku.2.2 pre.length ak hak]
            have go : ¬ (pre.getD o 0 = d ∧ cfL K l o pre.length = true) → KK2 (υ', 1, nI o + 1) := by
              intro hh
              rw [nI_1]
              rw [hb, if_pos rfl] at hc'
              refine ih2 (pre.length - (o + 1) + 1) _ (by omega) ⟨o + 1, true, by simp, by omega, rfl, rfl, rfl, ?_, by simp⟩
              intro _ i hi
              by_cases hio : i = o
              · subst hio; exact hh
              · exact hb1 hb i (by omega)
            refine ⟨hin8, fun w2 => go (fun x => w2 x.1), fun w2 => ⟨hin8, vp_in_nI (by omega) (by decide), s_gainsays hku.1 (by omega) (by omega) (br1 (fun hg2 => ?_) (fun hg2 => ?_))⟩⟩
            · rw [nI_1]
              rw [hb, if_pos rfl] at hc'
              refine ih2 (pre.length - (o + 1)) _ (by omega) ⟨o + 1, false, by simp, by omega, rfl, rfl, rfl, by simp, fun _ => ?_⟩
              cases hk3 : okD (cfL K l) pre d with
              | false => rfl
              | true => exact absurd ⟨w2, by rw [ecf]; exact hg2⟩ ((okD_iff _ _ _).1 hk3 o (by omega))
            · exact go (fun x => by rw [ecf, hg2] at x; exact absurd x.2 (by decide))
theorem lst_pos {m : Nat} (hI : KI K) (hm : m < 2 ^ nA K) (h0 : ¬ nI m = 0) : 1 ≤ (lst (nA K) m).length := by
  have ha8 := hI.a
  cases hl : lst (nA K) m with
  | cons a l => simp
  | nil =>
    exfalso
    apply h0
    have e0b := bits_of hm (show nA K ≤ 16 by omega)
    rw [e0b, bits_eq0 (by omega)]
    intro i hi
    cases hb : bOf (nI m) i with
    | false => rfl
    | true =>
      have : i ∈ lst (nA K) m := lst_mem.2 ⟨hi, hb⟩
      rw [hl] at this; simp at this
theorem lst_ones {m : Nat} (hI : KI K) (hm : m < 2 ^ nA K) : ones8 (nI m) = nI (lst (nA K) m).length := by
  have ha8 := hI.a
  have e0b := bits_of hm (show nA K ≤ 16 by omega)
  conv => lhs; rw [e0b]
  rw [ones_cnt _ ha8.2]
  congr 1
  have : ∀ i, cntB (bOf (nI m)) i = (lstI (nA K) m i).length := by
    intro i
    induction i with
    | zero => rfl
    | succ i ih =>
      rw [cntB, ih, lstI_succ, List.length_append]
      by_cases hb : bOf (nI m) i = true
      · rw [if_pos hb, if_pos hb]; rfl
      · rw [if_neg hb, if_neg hb]; rfl
  exact this (nA K)
theorem dsR_2 {cf : Nat → Nat → Bool} {t : Nat} : ∀ f n, 1 ≤ n → n + f = t → t ≤ 8 → (dsR cf t f n).1 ≤ 8 ∧ (dsR cf t f n).2.length = t ∧ ∀ x, x ∈ (dsR cf t f n).2 → x < 8 := by
  intro f
  induction f with
  | zero =>
    intro n h1 h2 h3
    have hn : n = t := by omega
    subst hn
    unfold dsR
    cases hp : ptR cf (fun _ => n) n [] with
    | none => exact absurd hp (pt_full cf n)
    | some r =>
      have := pt_len cf (fun _ => n) (fun _ => h3) n [] r (by simp) hp
      simp only [List.length_nil, Option.getD_some] at *
      exact ⟨h3, by omega, this.2⟩
  | succ f ih =>
    intro n h1 h2 h3
    unfold dsR
    cases hp : ptR cf (fun _ => n) t [] with
    | none => exact ih (n + 1) (by omega) (by omega) h3
    | some r =>
      have := pt_len cf (fun _ => n) (fun _ => by omega) t [] r (by simp) hp
      simp only [List.length_nil] at *
      exact ⟨by omega, by omega, this.2⟩
theorem s_Mdays {a1 a2 : Int32} {post : Int32 → DD → Prop} (hS : MS σ K L) (k : ∀ τ, PM σ τ → MS τ K L → post (dayS K a1 a2) τ) : w_M_days σ a1 a2 post := by
  have hI := hS.2.1
  have ha8 := hI.a
  unfold dayS at k
  unfold w_M_days
  refine s_areActs hS.1.1 hI (br0 (fun h1 => ?_) (fun h1 => ?_))
  · rw [h1] at k; exact k σ (PM.refl σ) hS
  refine ⟨fun h0 => ?_, fun h0 => ?_⟩
  · rw [h1, decide_eq_true h0] at k; exact k σ (PM.refl σ) hS
  refine s_ones (s_lies (br1 (fun h2 => ?_) (fun h2 => ?_)))
  rotate_left
  · rw [h1, decide_eq_false h0, h2] at k; exact k σ (PM.refl σ) hS
  rw [h1, decide_eq_false h0, h2] at k
  simp only [Bool.not_false, Bool.and_true, if_true] at k
  obtain ⟨m, hm, e1⟩ := actsB_e hI h1
  subst e1
  have hp8 := pow8 ha8.2
  rw [nI_clamp (by omega)] at k
  rw [lst_ones hI hm] at h2
  have hpos := lst_pos hI hm h0
  refine s_lists hS hm ?_
  intro υ agl h40 hrow
  have hS1 : MS υ K L := hS.ag agl (by unfold lsP; omega) (by unfold lsP; omega) (by unfold lsP; omega) (by unfold lsP; omega)
  have hlA : ∀ a, a ∈ lst (nA K) m → a < nA K := fun a ha => (lst_mem.1 ha).1
  have hl8 : (lst (nA K) m).length ≤ 8 := by have := lstI_len (N := nA K) (m := m) (nA K); exact Nat.le_trans this ha8.2
  generalize lst (nA K) m = l at h40 hrow hlA hl8 k h2 hpos
  have hR2 := dsR_2 (cf := cfL K l) (t := l.length) (l.length - 1) 1 (Nat.le_refl _) (by omega) hl8
  generalize hR : dsR (cfL K l) l.length (l.length - 1) 1 = R at k hR2
  unfold w_M_days_l35
  refine LoopN (fun c y => ∃ n f, c = f ∧ 1 ≤ n ∧ n + f = l.length ∧ Ag (fun o _ => o = 42) υ y.1 ∧ y.2 = nI n ∧ dsR (cfL K l) l.length f n = R) ?_ (n := l.length - 1) ⟨1, l.length - 1, rfl, Nat.le_refl _, by omega, Ag.refl υ, rfl, hR⟩
  rintro c ⟨υ1, a3⟩ KK ⟨n, f, hcf, hn1, hnf, ag, e3, hds⟩ ih
  simp only [] at ag e3 hds ⊢
  subst e3; subst hcf
  unfold w_M_days_b35 w_M_parts
  have hlm1 : LstM υ1 l := ⟨by rw [ag.at 0 40 (by omega)]; exact h40, fun j x hx => by rw [ag.at 39 j (by omega)]; exact hrow j x hx⟩
  refine s_parts hI (n := n) (by omega) hl8 hlA l.length 12 [] υ1 _ (by simp) (by omega) (hS1.1.1.ag ag (by omega)) hlm1 (by intro j x hx; simp at hx) (by simp) ?_
  intro τ agt
  have agT : Ag (fun o _ => o = 42) υ τ := ag.trans agt
  have hSt : MS τ K L := hS1.ag agT (by omega) (by omega) (by omega) (by omega)
  have hPM : PM σ τ := (PM.ag agl (by intro o p; unfold lsP pers; omega)).trans (PM.ag agT (by intro o p h; subst h; unfold pers; omega))
  have kk := k τ hPM hSt
  refine ⟨fun hn _ => ⟨fun w => absurd rfl w, fun _ => ?_⟩, fun r hr hrow' => ⟨fun _ => ?_, fun w => absurd w (by decide)⟩⟩
  · cases c with
    | zero =>
      exfalso
      have : n = l.length := by omega
      subst this
      exact pt_full (cfL K l) l.length hn
    | succ c =>
      rw [nI_1]
      refine ih c _ (by omega) ⟨n + 1, c, rfl, by omega, by omega, agT, rfl, ?_⟩
      rw [dsR, hn] at hds
      exact hds
  · have hRn : R = (n, r) := by
      rw [← hds]
      cases c with
      | zero => rw [dsR, hr]; rfl
      | succ c => rw [dsR, hr]
    rw [hRn] at kk hR2
    simp only [] at kk hR2
    have h2' := inB_e h2
    refine ⟨fun w => ?_, fun w => ?_⟩
    · rw [if_neg w] at kk
      obtain ⟨e5, h5b⟩ := nI_toN (x := a2) (by grind)
      have hlt : a2.toNatClampNeg < l.length := by
        have := h2'.2
        rw [e5, show nI l.length - 1 = nI (l.length - 1) from pk_sub (a := l.length) (b := 1) (by omega), nI_leI h5b (by omega)] at this
        omega
      rw [hrow' _ _ (get_getD (by omega))]
      refine ⟨?_, kk⟩
      rw [e5]; exact vp_in_nI (by omega) (by decide)
    · rw [if_pos w] at kk; exact kk
theorem s_isQuiet (hI : KI K) {l pre : List Nat} {d : Nat} {post : Int32 → DD → Prop} (hS : XS σ T K L) (hl : LstX σ l) (hl8 : l.length ≤ 8) (hlA : ∀ a, a ∈ l → a < nA K) (hk : pre.length < l.length) (hrow : rowIs σ 94 (pre ++ [d])) (hx8 : ∀ x, x ∈ pre → x < 8) (hd : d < 8) (k : post (bl (okD (cfL K l) pre d)) σ) : w_Shar_isQuiet T σ (nI pre.length) post := by
  have ha8 := hI.a
  unfold w_Shar_isQuiet w_Shar_isQuiet_l2
  refine LoopN (fun c y => ∃ j, c = pre.length - j ∧ j ≤ pre.length ∧ y.1 = σ ∧ y.2 = nI j ∧ ∀ i, i < j → ¬ (pre.getD i 0 = d ∧ cfL K l i pre.length = true)) ?_ (n := pre.length) ⟨0, rfl, Nat.zero_le _, rfl, rfl, by omega⟩
  rintro c ⟨υ, a2⟩ KK ⟨j, hc, hj, eu, e2, hno⟩ ih
  simp only [] at eu e2 hno ⊢
  subst eu; subst e2
  unfold w_Shar_isQuiet_b2
  rw [nI_leI (by omega) (by omega)]
  refine ⟨fun z => ?_, fun z => ?_⟩
  · have : j = pre.length := by omega
    subst this
    rw [(okD_iff _ _ _).2 hno] at k; exact k
  · obtain ⟨ak, hak, hakl⟩ := get_lt (L := l) (i := pre.length) (by omega)
    obtain ⟨aj, haj, hajl⟩ := get_lt (L := l) (i := j) (by omega)
    have hAk := hlA ak hakl
    have hAj := hlA aj hajl
    have ecf : cfL K l j pre.length = gsy K ak aj := by unfold cfL; rw [getD_some haj, getD_some hak]; exact gsy_sym hI (by omega) (by omega)
    have gj : gI υ 94 j = nI (pre.getD j 0) := hrow j _ (by rw [List.getElem?_append_left (by omega)]; exact get_getD (by omega))
    have gk : gI υ 94 pre.length = nI d := hrow pre.length d (by rw [List.getElem?_append_right (Nat.le_refl _), Nat.sub_self]; rfl)
    have hpx : pre.getD j 0 < 8 := hx8 _ (List.mem_of_getElem? (get_getD (by omega)))
    rw [nI_clamp (n := pre.length) (by omega), hl.2 pre.length ak hak, nI_clamp (n := ak) (by omega), hS.1.1.gs (by omega), nI_clamp (n := j) (by omega), hl.2 j aj haj, bits_bit _ (by omega) (by omega), decide_eq_true (show aj < 8 by omega), Bool.true_and]
    unfold w_Shar_isQuiet_j38
    rw [nI_clamp (n := j) (by omega), nI_clamp (n := pre.length) (by omega), gj, gk, nI_eq (by omega) (by omega)]
    have nx : ¬ (pre.getD j 0 = d ∧ cfL K l j pre.length = true) → KK (υ, nI j + 1) := by
      intro hh
      rw [nI_1]
      refine ih (pre.length - (j + 1)) _ (by omega) ⟨j + 1, rfl, by omega, rfl, rfl, ?_⟩
      intro i hi
      by_cases hij : i = j
      · subst hij; exact hh
      · exact hno i (by omega)
    refine ⟨vp_in_nI (by omega) (by decide), vp_in_nI (by omega) (by decide), vp_in_nI (by omega) (by decide), br0 (fun hg => ⟨fun _ => nx (fun x => by rw [ecf, hg] at x; exact absurd x.2 (by decide)), fun w => absurd rfl w⟩) (fun hg => ⟨fun w => absurd w (by decide), fun _ => ⟨vp_in_nI (by omega) (by decide), vp_in_nI (by omega) (by decide), fun w => nx (fun x => w x.1), fun w => ?_⟩⟩)⟩
    have : okD (cfL K l) pre d = false := by
      cases hk3 : okD (cfL K l) pre d with
      | false => rfl
      | true => exact absurd ⟨w, by rw [ecf]; exact hg⟩ ((okD_iff _ _ _).1 hk3 j (by omega))
    rw [this] at k; exact k
theorem s_spread (hI : KI K) {n : Nat} {l : List Nat} (hn : n ≤ 8) (hl8 : l.length ≤ 8) (hlA : ∀ a, a ∈ l → a < nA K) : ∀ m fuel (pre : List Nat) (σ : DD) (post : Int32 → DD → Prop), pre.length + m = l.length → m < fuel → XS σ T K L → LstX σ l → rowIs σ 94 pre → (∀ x, x ∈ pre → x < 8) → (∀ τ, AgX (fun o _ => o = 94) (fun _ => False) σ τ → (ptR (cfL K l) (fun k => min n (k + 1)) m pre = none → rowIs τ 94 pre → post 0 τ) ∧ (∀ r, ptR (cfL K l) (fun k => min n (k + 1)) m pre = some r → rowIs τ 94 r → post 1 τ)) → w_Shar_spreadFrom_d T fuel σ (nI pre.length) (nI n) post := by
  have ha8 := hI.a
  intro m
  induction m with
  | zero =>
    intro fuel pre σ post hk hf hS hlm hrow hx8 kk
    cases fuel with
    | zero => omega
    | succ fuel =>
      show w_Shar_spreadFrom_o T (w_Shar_spreadFrom_d T fuel) σ (nI pre.length) (nI n) post
      unfold w_Shar_spreadFrom_o
      rw [hlm.1, nI_ltI (by omega) (by omega)]
      refine ⟨fun z => by omega, fun _ => ?_⟩
      exact (kk σ (AgX.refl σ)).2 pre rfl hrow
  | succ m ihm =>
    intro fuel pre σ post hk hf hS hlm hrow hx8 kk
    cases fuel with
    | zero => omega
    | succ fuel =>
      show w_Shar_spreadFrom_o T (w_Shar_spreadFrom_d T fuel) σ (nI pre.length) (nI n) post
      unfold w_Shar_spreadFrom_o
      rw [hlm.1, nI_ltI (by omega) (by omega)]
      refine ⟨fun _ => ?_, fun z => by omega⟩
      rw [ptR] at kk
      generalize hF : (fun d => if okD (cfL K l) pre d then ptR (cfL K l) (fun k => min n (k + 1)) m (pre ++ [d]) else none) = F at kk
      unfold w_Shar_spreadFrom_l12
      refine LoopN (fun c y => ∃ d, c = n - d ∧ d ≤ min n (pre.length + 1) ∧ AgX (fun o _ => o = 94) (fun _ => False) σ y.1 ∧ rowIs y.1 94 pre ∧ y.2 = nI d ∧ (List.range d).findSome? F = none) ?_ (n := n) ⟨0, rfl, Nat.zero_le _, AgX.refl σ, hrow, rfl, rfl⟩
      rintro c ⟨υ, a3⟩ KK ⟨d, hc, hd, ag, hru, e3, hnone⟩ ih
      simp only [] at ag hru e3 hnone ⊢
      subst e3
      have hdn : d ≤ n ∧ d ≤ pre.length + 1 := by omega
      have keep : ∀ υ', AgX (fun o _ => o = 94) (fun _ => False) σ υ' → XS υ' T K L ∧ LstX υ' l := by
        intro υ' a'
        refine ⟨hS.ag a' (by omega) (by omega) (by omega) (by omega), ?_, ?_⟩
        · rw [a'.i 90 6 (by omega)]; exact hlm.1
        · intro j x hx; rw [a'.i 93 j (by omega)]; exact hlm.2 j x hx
      unfold w_Shar_spreadFrom_b12
      rw [nI_leI (by omega) (by omega), nI_ltI (by omega) (by omega)]
      refine ⟨fun z => ?_, fun z => ⟨fun z2 => ?_, fun z2 => ?_⟩⟩
      · have : d = min n (pre.length + 1) := by omega
        rw [this] at hnone
        exact (kk υ ag).1 hnone hru
      · have : d = min n (pre.length + 1) := by omega
        rw [this] at hnone
        exact (kk υ ag).1 hnone hru
      · have hFd : F d = if okD (cfL K l) pre d then ptR (cfL K l) (fun k => min n (k + 1)) m (pre ++ [d]) else none := by rw [← hF]
        have nx : ∀ υ', AgX (fun o _ => o = 94) (fun _ => False) υ υ' → rowIs υ' 94 pre → F d = none → KK (υ', nI d + 1) := by
          intro υ' a' hr' hf'
          rw [nI_1]
          refine ih (n - (d + 1)) _ (by omega) ⟨d + 1, rfl, by omega, ag.trans a', hr', rfl, ?_⟩
          rw [range_find_succ, hnone, hf']; rfl
        rw [nI_clamp (by omega)]
        refine ⟨vp_in_nI (by omega) (by decide), fun σ3 e3 => ?_⟩
        have ag3 : AgX (fun o _ => o = 94) (fun _ => False) υ σ3 := by subst e3; exact AgX.put rfl
        have hk3 := keep σ3 (ag.trans ag3)
        have hrow3 : rowIs σ3 94 (pre ++ [d]) := by subst e3; exact rowIs_snoc hru
        refine s_isQuiet hI hk3.1 hk3.2 hl8 hlA (by omega) hrow3 hx8 (by omega) (br0 (fun hb => nx σ3 ag3 (rowIs_pre hrow3) (by rw [hFd, if_neg (by rw [hb]; simp)])) (fun hb => ?_))
        have hlen : (pre ++ [d]).length = pre.length + 1 := by simp
        rw [nI_1, ← hlen]
        refine ihm fuel (pre ++ [d]) σ3 _ (by rw [hlen]; omega) (by omega) hk3.1 hk3.2 hrow3 (by intro x hx; rcases List.mem_append.1 hx with w | w; exact hx8 x w; simp at w; omega) ?_
        intro τ agt
        rw [if_pos hb] at hFd
        refine ⟨fun hn hr' => ⟨fun _ => nx τ (ag3.trans agt) (rowIs_pre hr') (by rw [hFd]; exact hn), fun w => absurd rfl w⟩, fun r hr hrow' => ⟨fun w => absurd w (by decide), fun _ => ?_⟩⟩
        exact (kk τ (ag.trans (ag3.trans agt))).2 r (range_find_some hnone (by rw [hFd]; exact hr) (by omega)) hrow'
theorem s_Xdays {a1 a2 : Int32} {post : Int32 → DD → Prop} (hS : XS σ T K L) (k : ∀ τ, AgX scrX scrL σ τ → XS τ T K L → post (dayS K a1 a2) τ) : w_Face_days T σ a1 a2 post := by
  have hI := hS.1.2.2
  have ha8 := hI.a
  unfold dayS at k
  unfold w_Face_days
  refine ⟨fun h0 => ?_, fun h0 => ?_⟩
  · rw [decide_eq_true h0] at k
    have kk := k σ (AgX.refl σ) hS
    simpa using kk
  rw [decide_eq_false h0] at k
  refine s_XareActs hS.1.1 hI (br0 (fun h1 => ?_) (fun h1 => ?_))
  · rw [h1] at k; exact k σ (AgX.refl σ) hS
  rw [h1] at k
  obtain ⟨m, hm, e1⟩ := actsB_e hI h1
  subst e1
  have hp8 := pow8 ha8.2
  have hpos := lst_pos hI hm h0
  rw [nI_clamp (by omega), lst_ones hI hm] at k
  have hl8 : (lst (nA K) m).length ≤ 8 := by have := lstI_len (N := nA K) (m := m) (nA K); exact Nat.le_trans this ha8.2
  have no : inB a2 (-1) (nI (lst (nA K) m).length - 1) = false → post (-1) σ := by
    intro h
    have kk := k σ (AgX.refl σ) hS
    rw [h] at kk; simpa using kk
  refine ⟨fun z => no (decide_eq_false (by grind)), fun z1 => s_bitCount (by omega) ?_⟩
  rw [lst_ones hI hm]
  have hb8 := nI_in8 hl8
  have hb1 : 1 ≤ nI (lst (nA K) m).length := by rw [show (1 : Int32) = nI 1 from rfl]; exact nI_le hpos (by omega)
  refine ⟨fun z2 => ?_, fun z2 => no (decide_eq_false (by grind))⟩
  have h2 : inB a2 (-1) (nI (lst (nA K) m).length - 1) = true := decide_eq_true (by grind)
  rw [h2] at k
  simp only [Bool.not_false, Bool.and_true, if_true] at k
  unfold w_Shar_fewestDays
  refine s_Xlist hS hm ?_
  intro υ agl hl
  have hlA : ∀ a, a ∈ lst (nA K) m → a < nA K := fun a ha => (lst_mem.1 ha).1
  generalize lst (nA K) m = l at hl hlA hl8 k h2 hpos z2 hb8 hb1
  have hS1 := hS.ag agl (by unfold xlP; omega) (by unfold xlP; omega) (by unfold xlP; omega) (by unfold xlP; omega)
  have hR2 := dsR_2 (cf := cfL K l) (t := l.length) (l.length - 1) 1 (Nat.le_refl _) (by omega) hl8
  generalize hR : dsR (cfL K l) l.length (l.length - 1) 1 = R at k hR2
  have h2' := inB_e h2
  have fin : ∀ τ r, AgX (fun o _ => o = 94) (fun _ => False) υ τ → rowIs τ 94 r → R.2 = r → (∀ v, v = nI R.1 → (¬ a2 = (-1) → vp_in a2 8 ∧ post (gI τ 94 a2.toNatClampNeg) τ) ∧ (a2 = (-1) → post v τ)) := by
    intro τ r agt hr hRr v hv
    have kk := k τ ((agl.mono (by intro o p h; unfold xlP at h; unfold scrX; omega) (fun o h => h.elim)).trans (agt.mono (by intro o p h; unfold scrX; omega) (fun o h => h.elim))) (hS1.ag agt (by omega) (by omega) (by omega) (by omega))
    refine ⟨fun w => ?_, fun w => ?_⟩
    · rw [if_neg w] at kk
      obtain ⟨e5, h5b⟩ := nI_toN (x := a2) (by grind)
      have hlt : a2.toNatClampNeg < l.length := by
        have := h2'.2
        rw [e5, show nI l.length - 1 = nI (l.length - 1) from pk_sub (a := l.length) (b := 1) (by omega), nI_leI h5b (by omega)] at this
        omega
      rw [hRr] at kk hR2
      rw [hr _ _ (get_getD (by omega))]
      refine ⟨?_, kk⟩
      rw [e5]; exact vp_in_nI (by omega) (by decide)
    · rw [if_pos w] at kk; rw [hv]; exact kk
  unfold w_Shar_fewestDays_l7
  refine LoopN (fun c y => ∃ n f, c = f ∧ 1 ≤ n ∧ n + f = l.length ∧ AgX (fun o _ => o = 94) (fun _ => False) υ y.1 ∧ y.2 = nI n ∧ dsR (cfL K l) l.length f n = R) ?_ (n := l.length - 1) ⟨1, l.length - 1, rfl, Nat.le_refl _, by omega, AgX.refl υ, rfl, hR⟩
  rintro c ⟨υ1, a3⟩ KK ⟨n, f, hcf, hn1, hnf, ag, e3, hds⟩ ih
  simp only [] at ag e3 hds ⊢
  subst e3; subst hcf
  have hSu := hS1.ag ag (by omega) (by omega) (by omega) (by omega)
  have hlu : LstX υ1 l := ⟨by rw [ag.i 90 6 (by omega)]; exact hl.1, fun j x hx => by rw [ag.i 93 j (by omega)]; exact hl.2 j x hx⟩
  have heq := pt_eq (cfL K l) n l.length [] (by simp)
  unfold w_Shar_fewestDays_b7 w_Shar_spreadFrom
  rw [hlu.1, nI_leI (by omega) (by omega)]
  refine ⟨fun w => ?_, fun w => ?_⟩
  · have hnl : n = l.length := by omega
    have hc0 : c = 0 := by omega
    subst hc0
    rw [← hnl]
    refine s_spread hI (n := n) (by omega) hl8 hlA l.length 12 [] υ1 _ (by simp) (by omega) hSu hlu (by intro j x hx; simp at hx) (by simp) ?_
    intro τ agt
    rw [← heq]
    have t90 : gI τ 90 6 = nI l.length := by rw [agt.i 90 6 (by omega)]; exact hlu.1
    refine ⟨fun hn _ => ?_, fun r hr hrow' => ?_⟩
    · exfalso
      subst hnl
      exact pt_full (cfL K l) l.length hn
    · have hRn : R = (n, r) := by rw [← hds, dsR, hr]; rfl
      rw [t90]
      exact fin τ r (ag.trans agt) hrow' (by rw [hRn]) _ (by rw [hRn, hnl])
  · refine s_spread hI (n := n) (by omega) hl8 hlA l.length 12 [] υ1 _ (by simp) (by omega) hSu hlu (by intro j x hx; simp at hx) (by simp) ?_
    intro τ agt
    rw [← heq]
    refine ⟨fun hn _ => ⟨fun _ => ?_, fun w2 => absurd rfl w2⟩, fun r hr hrow' => ⟨fun w2 => absurd w2 (by decide), fun _ => ?_⟩⟩
    · cases c with
      | zero => omega
      | succ c =>
        rw [nI_1]
        refine ih c _ (by omega) ⟨n + 1, c, rfl, by omega, by omega, ag.trans agt, rfl, ?_⟩
        rw [dsR, hn] at hds
        exact hds
    · have hRn : R = (n, r) := by
        rw [← hds]
        cases c with
        | zero => rw [dsR, hr]; rfl
        | succ c => rw [dsR, hr]
      exact fin τ r (ag.trans agt) hrow' (by rw [hRn]) _ (by rw [hRn])
end DDA
