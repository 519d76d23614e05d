/-! ===== the model tries mornings ===== -/
def lgP (o p : Nat) : Prop := o = 4 ∧ ((111 ≤ p ∧ p < 363) ∨ p = 401)
section MM
variable {σ τ : DD} {K : Nat → Int32} {L : List RD}
theorem dyn_lg {p : Nat} (h : ¬ dyn p) : ¬ lgP 4 p := by unfold lgP; unfold dyn at h; omega
theorem CM.ag {P : Nat → Nat → Prop} (h : CM σ K) (a : Ag P σ τ) (h29 : ∀ p, ¬ P 29 p) (h0 : ¬ P 0 29) (h1 : ¬ P 0 1) : CM τ K := by
  refine ⟨h.1.ag a h0 h1, ?_⟩
  rw [a.at 0 29 h0, a.at 0 1 h1]
  intro hv hh aa r w g1 g3 ga gr gw
  rw [a.at 29 _ (h29 _)]
  exact h.2 hv hh aa r w g1 g3 ga gr gw
theorem MK.lg (h : MK σ K) {P : Nat → Nat → Prop} (a : Ag P σ τ) (hp : ∀ p, ¬ dyn p → ¬ P 4 p) : MK τ K := fun p q => (a.at 4 p (hp p q)).trans (h p q)
theorem s_logs {a r d : Nat} {post : DD → Prop} (hS : MS σ K L) (ha : a < nA K) (hr : r < nR K) (hd : d < 2000) (hl : L.length < 84) (k : ∀ τ, Ag lgP σ τ → MS τ K (L ++ [(a, r, d)]) → post τ) : w_M_logs σ (nI a) (nI r) (nI d) post := by
  obtain ⟨hQ, hI, hM, hL⟩ := hS
  unfold w_M_logs
  intro v1 e1
  rw [hM.1, show (111 : Int32) = nI 111 from rfl, show (3 : Int32) = nI 3 from rfl, pk_mul, nI_add] at e1
  subst e1
  rw [nI_1, show nI (111 + 3 * L.length) + 2 = nI (111 + 3 * L.length + 2) from nI_add _ 2, nI_clamp (by omega), nI_clamp (by omega), nI_clamp (by omega)]
  refine ⟨vp_in_nI (by omega) (by decide), fun σ3 e3 => ⟨vp_in_nI (by omega) (by decide), fun σ6 e6 => ⟨vp_in_nI (by omega) (by decide), fun σ9 e9 σ12 e12 => ?_⟩⟩⟩
  have ag : Ag lgP σ σ12 := by
    subst e3; subst e6; subst e9; subst e12
    exact ((((Ag.put ⟨rfl, by omega⟩).set ⟨rfl, by omega⟩).set ⟨rfl, by omega⟩).set ⟨rfl, by omega⟩)
  refine k σ12 ag ⟨⟨hQ.1.lg ag (fun p => dyn_lg), hQ.2.ag ag (by unfold lgP; omega) (by unfold lgP; omega) (by unfold lgP; omega)⟩, hI, ⟨?_, ?_, ?_⟩, ?_⟩
  · subst e3; subst e6; subst e9; subst e12
    rw [gI_same, gI_sI, if_neg (by omega), gI_sI, if_neg (by omega), gI_sI, if_neg (by omega), hM.1, nI_1, List.length_append]; rfl
  · rw [List.length_append]; simp; omega
  · intro i x hx
    have hget : (i < L.length ∧ L[i]? = some x) ∨ (i = L.length ∧ x = (a, r, d)) := by
      by_cases hi : i < L.length
      · left; rw [List.getElem?_append_left hi] at hx; exact ⟨hi, hx⟩
      · right
        rw [List.getElem?_append_right (by omega)] at hx
        have : i - L.length = 0 := by
          rw [List.getElem?_eq_some_iff] at hx
          have := hx.1
          simp at this; omega
        rw [this] at hx
        simp at hx
        exact ⟨by omega, hx.symm⟩
    subst e3; subst e6; subst e9; subst e12
    rcases hget with ⟨hi, hx2⟩ | ⟨hi, hx2⟩
    · have := hM.2.2 i x hx2
      refine ⟨?_, ?_, ?_⟩
      · rw [gI_sI, if_neg (by omega), gI_sI, if_neg (by omega), gI_sI, if_neg (by omega), gI_sI, if_neg (by omega)]; exact this.1
      · rw [gI_sI, if_neg (by omega), gI_sI, if_neg (by omega), gI_sI, if_neg (by omega), gI_sI, if_neg (by omega)]; exact this.2.1
      · rw [gI_sI, if_neg (by omega), gI_sI, if_neg (by omega), gI_sI, if_neg (by omega), gI_sI, if_neg (by omega)]; exact this.2.2
    · subst hi; subst hx2
      refine ⟨?_, ?_, ?_⟩
      · rw [gI_sI, if_neg (by omega), gI_sI, if_neg (by omega), gI_sI, if_neg (by omega), gI_sI, if_pos ⟨rfl, rfl⟩]
      · rw [gI_sI, if_neg (by omega), gI_sI, if_neg (by omega), gI_sI, if_pos ⟨rfl, rfl⟩]
      · rw [gI_sI, if_neg (by omega), gI_sI, if_pos ⟨rfl, rfl⟩]
  · intro x hx
    rcases List.mem_append.1 hx with w | w
    · exact hL x w
    · simp at w; subst w; exact ⟨ha, hr, hd⟩
theorem MS.pop {x : RD} (hS : MS σ K (L ++ [x])) : MS (sI σ 4 401 (gI σ 4 401 - 1)) K L := by
  obtain ⟨hQ, hI, hM, hL⟩ := hS
  have ag : Ag lgP σ (sI σ 4 401 (gI σ 4 401 - 1)) := Ag.put ⟨rfl, by omega⟩
  have h84 := hM.2.1
  rw [List.length_append] at h84
  simp at h84
  refine ⟨⟨hQ.1.lg ag (fun p => dyn_lg), hQ.2.ag ag (by unfold lgP; omega) (by unfold lgP; omega) (by unfold lgP; omega)⟩, hI, ⟨?_, by omega, ?_⟩, fun y hy => hL y (List.mem_append_left _ hy)⟩
  · rw [gI_same, hM.1, List.length_append]
    exact nI_pred _
  · intro i y hy
    have hi : i < L.length := by rw [List.getElem?_eq_some_iff] at hy; exact hy.1
    rw [gI_sI, if_neg (by omega), gI_sI, if_neg (by omega), gI_sI, if_neg (by omega)]
    exact hM.2.2 i y (by rw [List.getElem?_append_left hi]; exact hy)
/-- until when each act holds, by the log -/
def Ut (K : Nat → Int32) (L : List RD) (a : Nat) : Nat := unt K L a 1999
theorem lat_big {a d d' : Nat} (h : ∀ x, x ∈ L → x.2.2 ≤ d ∧ x.2.2 ≤ d') : lat L a d = lat L a d' := by
  unfold lat
  have : ∀ (M : List RD) b, (∀ x, x ∈ M → x ∈ L) → M.foldl (latF a d) b = M.foldl (latF a d') b := by
    intro M
    induction M with
    | nil => intro b _; rfl
    | cons z M ih =>
      intro b hM
      have hz := h z (hM z (List.mem_cons_self ..))
      have : latF a d b z = latF a d' b z := by
        unfold latF
        by_cases hc : z.1 = a ∧ z.2.2 ≤ d ∧ (∀ y, b = some y → y.2.2 ≤ z.2.2)
        · rw [if_pos hc, if_pos ⟨hc.1, hz.2, hc.2.2⟩]
        · rw [if_neg hc, if_neg (fun w => hc ⟨w.1, hz.1, w.2.2⟩)]
      rw [List.foldl_cons, List.foldl_cons, this]
      exact ih _ (fun x hx => hM x (List.mem_cons_of_mem _ hx))
  exact this L none (fun _ h => h)
theorem unt_U {a d : Nat} (h : ∀ x, x ∈ L → x.2.2 ≤ d) (hd : d ≤ 1999) : unt K L a d = Ut K L a := by
  unfold Ut unt
  rw [lat_big (d' := 1999) (fun x hx => ⟨h x hx, by have := h x hx; omega⟩)]
theorem U_snoc {a r t : Nat} (h : ∀ x, x ∈ L → x.2.2 ≤ t) (ht : t ≤ 1999) : Ut K (L ++ [(a, r, t)]) = upU (Ut K L) a (t + lasN K a r (t % 7)) := by
  funext b
  unfold Ut upU unt lat
  rw [List.foldl_append]
  simp only [List.foldl_cons, List.foldl_nil]
  by_cases hb : b = a
  · subst hb
    rw [if_pos rfl]
    have : latF b 1999 (L.foldl (latF b 1999) none) (b, r, t) = some (b, r, t) := by
      unfold latF
      rw [if_pos]
      exact ⟨rfl, ht, fun y hy => h y (lat_mem (L := L) hy).1⟩
    rw [this]
  · rw [if_neg hb]
    have : latF b 1999 (L.foldl (latF b 1999) none) (a, r, t) = L.foldl (latF b 1999) none := by
      unfold latF
      rw [if_neg]
      intro w; exact hb w.1.symm
    rw [this]
theorem canB_plan {P : List RD} {a r t : Nat} (h : ∀ x, x ∈ P → x.2.2 < t) : canB K (L ++ P) a r t = canB K L a r t := by
  have hc : clr K (L ++ P) a t = clr K L a t := by
    unfold clr
    rw [List.all_append]
    have : P.all (clrX K a t) = true := by
      rw [List.all_eq_true]
      intro x hx
      have := h x hx
      unfold clrX
      simp [show ¬ x.2.2 = t from by omega]
    rw [this, Bool.and_true]
  have hl : left K (L ++ P) r t = left K L r t := by
    unfold left
    rw [List.foldl_append]
    generalize List.foldl (lefF K r t) (K (96 + 2 * r)) L = z
    have : ∀ (M : List RD) (z : Int32), (∀ x, x ∈ M → x.2.2 < t) → M.foldl (lefF K r t) z = z := by
      intro M
      induction M with
      | nil => intro z _; rfl
      | cons x M ih =>
        intro z hM
        have hx := hM x (List.mem_cons_self ..)
        have : lefF K r t z x = z := by unfold lefF; rw [if_neg (by omega)]; simp
        rw [List.foldl_cons, this]
        exact ih z (fun y hy => hM y (List.mem_cons_of_mem _ hy))
    exact this P z h
  unfold canB
  rw [hc, hl]
def ndF (K : Nat → Int32) (a : Nat) : Option Nat := if nA K ≤ a ∨ K (4 * a + 3) = -1 then none else some (K (4 * a + 3)).toNatClampNeg
theorem ok_can (hI : KI K) {P : List RD} {a r d0 k : Nat} (ha : a < nA K) (h0 : ∀ x, x ∈ L → x.2.2 ≤ d0) (h : ∀ x, x ∈ P → x.2.2 < d0 + k) (hd : d0 + k ≤ 1999) : can K (L ++ P) a r (d0 + k) = okR d0 (fun k a => canB K L a r (d0 + k)) (ndF K) k a (Ut K (L ++ P)) := by
  have ha8 := hI.a
  rw [can_B, canB_plan h]
  unfold okR
  congr 1
  unfold ndOk ndF
  by_cases hn : K (4 * a + 3) = -1
  · rw [decide_eq_true hn, if_pos (Or.inr hn)]; rfl
  · obtain ⟨m, hm, em⟩ := (hI.act ha).2.2.2.resolve_left hn
    rw [decide_eq_false hn, if_neg (by rintro (w | w); omega; exact hn w), Bool.false_or]
    simp only []
    rw [em, nI_clamp (by omega), hold_unt, unt_U _ hd]
    intro x hx
    rcases List.mem_append.1 hx with w | w
    · have := h0 x w; omega
    · have := h x w; omega
theorem goal_held (hI : KI K) {r d0 n m0 m1 : Nat} (h : ∀ x, x ∈ L → x.2.2 ≤ d0 + n) (hd : d0 + n ≤ 1999) (h0 : m0 < 2 ^ nA K) (h1 : m1 < 2 ^ nA K) : (held K L (d0 + n) &&& nI m0 = nI m0 ∧ held K L (d0 + n) &&& nI m1 = 0) ↔ goalR n (nA K) d0 (bOf (nI m0)) (bOf (nI m1)) (Ut K L) = true := by
  have ha8 := hI.a
  unfold held
  have e0 := bits_of h0 (by omega)
  have e1 := bits_of h1 (by omega)
  generalize bOf (nI m0) = p at e0
  generalize bOf (nI m1) = q at e1
  rw [e0, e1, bits_and _ _ (by omega), bits_and _ _ (by omega), bits_eq0 (by omega)]
  unfold goalR
  rw [List.all_eq_true]
  have hh : ∀ a, hold K L a (d0 + n) = hE n d0 (Ut K L) a := by
    intro a; rw [hold_unt, unt_U h hd]; rfl
  constructor
  · rintro ⟨x1, x2⟩ a ha
    rw [List.mem_range] at ha
    have y1 := bits_inj (by omega) x1 a ha
    have y2 := x2 a ha
    rw [hh] at y1 y2
    revert y1 y2
    generalize p a = pa
    generalize q a = qa
    generalize hE n d0 (Ut K L) a = xa
    cases pa <;> cases qa <;> cases xa <;> simp
  · intro hg
    refine ⟨bits_congr _ ?_, ?_⟩
    · intro a ha
      have := hg a (List.mem_range.2 ha)
      rw [hh]
      revert this
      generalize p a = pa
      generalize q a = qa
      generalize hE n d0 (Ut K L) a = xa
      cases pa <;> cases qa <;> cases xa <;> simp
    · intro a ha
      have := hg a (List.mem_range.2 ha)
      rw [hh]
      revert this
      generalize p a = pa
      generalize q a = qa
      generalize hE n d0 (Ut K L) a = xa
      cases pa <;> cases qa <;> cases xa <;> simp
def mP (o p : Nat) : Prop := qP o p ∨ (o = 0 ∧ p = 32) ∨ o = 31 ∨ o = 32 ∨ lgP o p
theorem qP_m {o p : Nat} (h : qP o p) : mP o p := Or.inl h
theorem lgP_m {o p : Nat} (h : lgP o p) : mP o p := Or.inr (Or.inr (Or.inr (Or.inr h)))
def rowIs (σ : DD) (o : Nat) (l : List Nat) : Prop := ∀ i x, l[i]? = some x → gI σ o i = nI x
theorem upR_le {used : Nat} {pre : List Nat} : ∀ (l : List (List Nat)) (acc : Nat × List Nat), (l.foldl (upR used pre) acc).1 ≤ acc.1 := by
  intro l
  induction l with
  | nil => intro acc; exact Nat.le_refl _
  | cons x l ih =>
    intro acc
    refine Nat.le_trans (ih _) ?_
    unfold upR
    split
    · simp only []; omega
    · exact Nat.le_refl _
abbrev vRm (K : Nat → Int32) (L : List RD) (n r m0 m1 d0 : Nat) : Nat → Nat → (Nat → Nat) → List (List Nat) := vR n (nA K) d0 (fun k a => canB K L a r (d0 + k)) (fun k a => lasN K a r ((d0 + k) % 7)) (ndF K) (bOf (nI m0)) (bOf (nI m1))
abbrev vSm (K : Nat → Int32) (L : List RD) (n r m0 m1 d0 : Nat) : Nat → Nat → (Nat → Nat) → Nat → List (List Nat) := vS n (nA K) d0 (fun k a => canB K L a r (d0 + k)) (fun k a => lasN K a r ((d0 + k) % 7)) (ndF K) (bOf (nI m0)) (bOf (nI m1))
theorem vRm_S (K : Nat → Int32) (L : List RD) (n r m0 m1 d0 m k : Nat) (U : Nat → Nat) : vRm K L n r m0 m1 d0 (m + 1) k U = vSm K L n r m0 m1 d0 m k U (nA K) ++ (vRm K L n r m0 m1 d0 m (k + 1) U).map (100 :: ·) := rfl
theorem vSm_succ (K : Nat → Int32) (L : List RD) (n r m0 m1 d0 m k : Nat) (U : Nat → Nat) (i : Nat) : vSm K L n r m0 m1 d0 m k U (i + 1) = vSm K L n r m0 m1 d0 m k U i ++ (if okR d0 (fun k a => canB K L a r (d0 + k)) (ndF K) k i U then (vRm K L n r m0 m1 d0 m (k + 1) (upU U i (d0 + k + lasN K i r ((d0 + k) % 7)))).map (i :: ·) else []) := vS_succ _ _ _ _ _ _ _ _ m k U i
/-- the setting of a search -/
def MSet (σ : DD) (n r m0 m1 d0 : Nat) : Prop := gI σ 0 33 = nI n ∧ gI σ 0 34 = nI r ∧ gI σ 0 35 = nI m0 ∧ gI σ 0 36 = nI m1 ∧ gI σ 4 395 = nI d0
theorem MSet.ag {n r m0 m1 d0 : Nat} (h : MSet σ n r m0 m1 d0) (a : Ag mP σ τ) : MSet τ n r m0 m1 d0 := by
  unfold MSet
  rw [a.at 0 33 (by unfold mP qP lgP; omega), a.at 0 34 (by unfold mP qP lgP; omega), a.at 0 35 (by unfold mP qP lgP; omega), a.at 0 36 (by unfold mP qP lgP; omega), a.at 4 395 (by unfold mP qP lgP; omega)]
  exact h
theorem s_tries (hI : KI K) {n r m0 m1 d0 : Nat} (hr : r < nR K) (hn : n ≤ 5) (hd0 : d0 ≤ 999) (h0 : m0 < 2 ^ nA K) (h1 : m1 < 2 ^ nA K) (hLd : ∀ x, x ∈ L → x.2.2 ≤ d0) (hL24 : L.length ≤ 24) : ∀ m k fuel used (P : List RD) (acc : Nat × List Nat) (pre : List Nat) (σ : DD) (post : DD → Prop), k + m = n → m < fuel → used ≤ k → P.length ≤ k → pre.length = k → (∀ x, x ∈ P → d0 ≤ x.2.2 ∧ x.2.2 < d0 + k) → MS σ K (L ++ P) → MSet σ n r m0 m1 d0 → acc.1 ≤ 1000000 → gI σ 0 32 = nI acc.1 → rowIs σ 32 acc.2 → rowIs σ 31 pre → (∀ τ, Ag mP σ τ → MS τ K (L ++ P) → gI τ 0 32 = nI ((vRm K L n r m0 m1 d0 m k (Ut K (L ++ P))).foldl (upR used pre) acc).1 → rowIs τ 32 ((vRm K L n r m0 m1 d0 m k (Ut K (L ++ P))).foldl (upR used pre) acc).2 → rowIs τ 31 pre → post τ) → w_M_triesMorning_d fuel σ (nI k) (nI used) post := by
  have ha8 := hI.a
  intro m
  induction m with
  | zero =>
    intro k fuel used P acc pre σ post hk hf hu hPl hpre hP hS hset hacc h32 hr32 hr31 kk
    cases fuel with
    | zero => omega
    | succ fuel =>
      show w_M_triesMorning_o (w_M_triesMorning_d fuel) σ (nI k) (nI used) post
      unfold w_M_triesMorning_o
      obtain ⟨s33, s34, s35, s36, s395⟩ := hset
      have hset : MSet σ n r m0 m1 d0 := ⟨s33, s34, s35, s36, s395⟩
      intro v24 e24
      rw [s395, nI_add] at e24
      subst e24
      have hkn : k = n := by omega
      subst hkn
      have hdays : ∀ x, x ∈ L ++ P → x.2.2 ≤ d0 + k := by
        intro x hx
        rcases List.mem_append.1 hx with w | w
        · have := hLd x w; omega
        · have := hP x w; omega
      rw [h32, nI_ltI (by omega) (by omega), s33]
      refine ⟨fun q => ⟨fun z => absurd rfl z, fun _ => ?_⟩, fun q => ?_⟩
      · refine s_heldOn hS (by omega) ?_
        intro τ ag hS1
        have set1 := hset.ag (ag.mono (fun o p => qP_m))
        have hg := goal_held hI (r := r) (L := L ++ P) (d0 := d0) (n := k) hdays (by omega) h0 h1
        rw [set1.2.2.1, set1.2.2.2.1]
        unfold vRm vR at kk
        have no : goalR k (nA K) d0 (bOf (nI m0)) (bOf (nI m1)) (Ut K (L ++ P)) ≠ true → post τ := by
          intro hno
          rw [if_neg hno] at kk
          refine kk τ (ag.mono (fun o p => qP_m)) hS1 ?_ ?_ ?_
          · rw [ag.at 0 32 (by unfold qP; omega)]; exact h32
          · intro i x hx; rw [ag.at 32 i (by unfold qP; omega)]; exact hr32 i x hx
          · intro i x hx; rw [ag.at 31 i (by unfold qP; omega)]; exact hr31 i x hx
        refine ⟨fun z => no (fun h => z (hg.2 h).1), fun z => ⟨fun z2 => ?_, fun z2 => no (fun h => z2 (hg.2 h).2)⟩⟩
        have hyes := hg.1 ⟨z, z2⟩
        rw [if_pos hyes] at kk
        simp only [List.foldl_cons, List.foldl_nil] at kk
        have hup : upR used pre acc [] = (used, pre) := by
          unfold upR
          rw [show cntR [] = 0 from rfl, Nat.add_zero, if_pos q, List.append_nil]
        rw [hup] at kk
        intro σ32 e32
        unfold w_M_triesMorning_l68
        refine LoopN (fun c y => ∃ i, c = k - i ∧ i ≤ k ∧ Ag mP σ y.1 ∧ MS y.1 K (L ++ P) ∧ y.2 = nI i ∧ gI y.1 0 32 = nI used ∧ (∀ j, j < i → gI y.1 32 j = gI y.1 31 j) ∧ ∀ j, gI y.1 31 j = gI σ 31 j) ?_ (n := k) ⟨0, rfl, Nat.zero_le _, ?_, ?_, rfl, ?_, by omega, ?_⟩
        · rintro c ⟨υ, a5⟩ KK ⟨i, hc, hi, agu, hSu, e5, g32, hcp, g31⟩ ih
          simp only [] at agu hSu e5 g32 hcp g31 ⊢
          subst e5
          unfold w_M_triesMorning_b68
          rw [(hset.ag agu).1, nI_leI (by omega) (by omega)]
          refine ⟨fun z3 => ?_, fun z3 => ?_⟩
          · have hik : i = k := by omega
            subst hik
            refine kk υ agu hSu g32 ?_ ?_
            · intro j x hx
              have hj : j < pre.length := by rw [List.getElem?_eq_some_iff] at hx; exact hx.1
              rw [hcp j (by omega), g31]; exact hr31 j x hx
            · intro j x hx; rw [g31]; exact hr31 j x hx
          · rw [nI_clamp (by omega)]
            have hin : vp_in (nI i) 5 := vp_in_nI (by omega) (by decide)
            refine ⟨hin, hin, fun σ3 e3 => ?_⟩
            subst e3
            have ag3 : Ag mP υ (sI υ 32 i (gI υ 31 i)) := Ag.put (Or.inr (Or.inr (Or.inr (Or.inl rfl))))
            refine ih (k - (i + 1)) _ (by omega) ⟨i + 1, rfl, by omega, agu.trans ag3, ?_, nI_1 i, ?_, ?_, ?_⟩
            · refine ⟨⟨hSu.1.1.lg (P := fun o p => o = 32) (Ag.put rfl) (by omega), hSu.1.2.ag (P := fun o p => o = 32) (Ag.put rfl) (by omega) (by omega) (by omega)⟩, hI, hSu.2.2.1.ag (P := fun o p => o = 32) (Ag.put rfl) (by omega), hSu.2.2.2⟩
            · rw [gI_sI, if_neg (by omega)]; exact g32
            · intro j hj
              rw [gI_sI, gI_sI]
              by_cases hji : j = i
              · subst hji; simp
              · rw [if_neg (by omega), if_neg (by omega)]; exact hcp j (by omega)
            · intro j; rw [gI_sI, if_neg (by omega)]; exact g31 j
        · subst e32
          exact (ag.mono (fun o p => qP_m)).set (Or.inr (Or.inl ⟨rfl, rfl⟩))
        · subst e32
          refine ⟨⟨hS1.1.1.lg (P := fun o p => o = 0 ∧ p = 32) (Ag.put ⟨rfl, rfl⟩) (by omega), hS1.1.2.ag (P := fun o p => o = 0 ∧ p = 32) (Ag.put ⟨rfl, rfl⟩) (by omega) (by omega) (by omega)⟩, hI, hS1.2.2.1.ag (P := fun o p => o = 0 ∧ p = 32) (Ag.put ⟨rfl, rfl⟩) (by omega), hS1.2.2.2⟩
        · subst e32; exact gI_same
        · intro j; subst e32; rw [gI_sI, if_neg (by omega), ag.at 31 j (by unfold qP; omega)]
      · refine kk σ (Ag.refl σ) hS ?_ ?_ hr31
        · rw [fold_prune _ acc (by intro row _; omega)]; exact h32
        · rw [fold_prune _ acc (by intro row _; omega)]; exact hr32
  | succ m ihm =>
    intro k fuel used P acc pre σ post hk hf hu hPl hpre hP hS hset hacc h32 hr32 hr31 kk
    cases fuel with
    | zero => omega
    | succ fuel =>
      show w_M_triesMorning_o (w_M_triesMorning_d fuel) σ (nI k) (nI used) post
      unfold w_M_triesMorning_o
      obtain ⟨s33, s34, s35, s36, s395⟩ := hset
      have hset : MSet σ n r m0 m1 d0 := ⟨s33, s34, s35, s36, s395⟩
      intro v24 e24
      rw [s395, nI_add] at e24
      subst e24
      have hdays : ∀ x, x ∈ L ++ P → x.2.2 ≤ d0 + k := by
        intro x hx
        rcases List.mem_append.1 hx with w | w
        · have := hLd x w; omega
        · have := hP x w; omega
      rw [h32, nI_ltI (by omega) (by omega), s33]
      refine ⟨fun q => ⟨fun _ => ?_, fun z => by rw [nI_eq (by omega) (by omega)] at z; omega⟩, fun q => ?_⟩
      · rw [vRm_S, List.foldl_append, fold_map_100] at kk
        have hlen : (L ++ P).length < 84 := by rw [List.length_append]; omega
        unfold w_M_triesMorning_l101
        refine LoopN (fun c y => ∃ i, c = nA K - i ∧ i ≤ nA K ∧ Ag mP σ y.1 ∧ MS y.1 K (L ++ P) ∧ y.2 = nI i ∧ gI y.1 0 32 = nI ((vSm K L n r m0 m1 d0 m k (Ut K (L ++ P)) i).foldl (upR used pre) acc).1 ∧ rowIs y.1 32 ((vSm K L n r m0 m1 d0 m k (Ut K (L ++ P)) i).foldl (upR used pre) acc).2 ∧ rowIs y.1 31 pre) ?_ (n := nA K) ⟨0, rfl, Nat.zero_le _, Ag.refl σ, hS, rfl, h32, hr32, hr31⟩
        rintro c ⟨υ, a4⟩ KK ⟨i, hc, hi, agu, hSu, e4, g32, gr32, gr31⟩ ih
        simp only [] at agu hSu e4 g32 gr32 gr31 ⊢
        subst e4
        have setu := hset.ag agu
        have hin : vp_in (nI k) 5 := vp_in_nI (by omega) (by decide)
        have rowS : ∀ (υ' : DD) (x : Nat), rowIs υ' 31 pre → rowIs (sI υ' 31 k (nI x)) 31 (pre ++ [x]) := by
          intro υ' x hr j y hy
          rw [gI_sI]
          by_cases hj : j < pre.length
          · rw [List.getElem?_append_left hj] at hy
            rw [if_neg (by omega)]; exact hr j y hy
          · rw [List.getElem?_append_right (by omega)] at hy
            have hj0 : j - pre.length = 0 := by
              rw [List.getElem?_eq_some_iff] at hy
              have := hy.1
              simp at this; omega
            rw [hj0] at hy
            simp at hy
            rw [if_pos ⟨rfl, by omega⟩, hy]
        have rowP : ∀ (υ' : DD) (x : Nat), rowIs υ' 31 (pre ++ [x]) → rowIs υ' 31 pre := by
          intro υ' x hr j y hy
          have hj : j < pre.length := by rw [List.getElem?_eq_some_iff] at hy; exact hy.1
          exact hr j y (by rw [List.getElem?_append_left hj]; exact hy)
        have setR : ∀ (υ' : DD) (v : Int32), MS υ' K (L ++ P) → MS (sI υ' 31 k v) K (L ++ P) := by
          intro υ' v h
          exact ⟨⟨h.1.1.lg (P := fun o p => o = 31) (Ag.put rfl) (by omega), h.1.2.ag (P := fun o p => o = 31) (Ag.put rfl) (by omega) (by omega) (by omega)⟩, hI, h.2.2.1.ag (P := fun o p => o = 31) (Ag.put rfl) (by omega), h.2.2.2⟩
        unfold w_M_triesMorning_b101
        rw [hSu.1.1 399 (by unfold dyn; omega), ha8.1, nI_leI (by omega) (by omega), nI_clamp (by omega)]
        refine ⟨fun z => ?_, fun z => ?_⟩
        · have hin' : i = nA K := by omega
          subst hin'
          refine ⟨hin, fun σ7 e7 => ?_⟩
          subst e7
          rw [nI_1, show (100 : Int32) = nI 100 from rfl]
          have ag7 : Ag mP υ (sI υ 31 k (nI 100)) := Ag.put (Or.inr (Or.inr (Or.inl rfl)))
          refine ihm (k + 1) fuel used P _ (pre ++ [100]) _ _ (by omega) (by omega) (by omega) (by omega) (by simp; omega) (fun x hx => by have := hP x hx; omega) (setR υ _ hSu) (setu.ag ag7) (Nat.le_trans (upR_le _ _) hacc) (by rw [gI_sI, if_neg (by omega)]; exact g32) (by intro j x hx; rw [gI_sI, if_neg (by omega)]; exact gr32 j x hx) (rowS υ 100 gr31) ?_
          intro τ ag hSt t32 tr32 tr31
          exact kk τ (agu.trans (ag7.trans ag)) hSt t32 tr32 (rowP τ 100 tr31)
        · rw [setu.2.1]
          refine s_canRead hSu (by omega) hr (by omega) ?_
          intro υ1 ag1 hS1
          have agm := ag1.mono (fun o p => qP_m)
          have hok := ok_can hI (L := L) (P := P) (a := i) (r := r) (d0 := d0) (k := k) (by omega) hLd (fun x hx => (hP x hx).2) (by omega)
          refine ⟨fun z2 => ⟨hin, fun σ15 e15 => ?_⟩, fun z2 => ?_⟩
          · rw [bl_n, hok] at z2
            subst e15
            have ag15 : Ag mP υ1 (sI υ1 31 k (nI i)) := Ag.put (Or.inr (Or.inr (Or.inl rfl)))
            rw [((setu.ag agm).ag ag15).2.1]
            refine s_logs (setR υ1 _ hS1) (by omega) hr (by omega) hlen ?_
            intro υ2 ag2 hS2
            have agl := ag2.mono (fun o p => lgP_m)
            rw [nI_1, nI_1]
            rw [List.append_assoc] at hS2
            refine ihm (k + 1) fuel (used + 1) (P ++ [(i, r, d0 + k)]) ((vSm K L n r m0 m1 d0 m k (Ut K (L ++ P)) i).foldl (upR used pre) acc) (pre ++ [i]) _ _ (by omega) (by omega) (by omega) (by simp; omega) (by simp; omega) ?_ hS2 (((setu.ag agm).ag ag15).ag agl) (Nat.le_trans (upR_le _ _) hacc) ?_ ?_ ?_ ?_
            · intro x hx
              rcases List.mem_append.1 hx with w | w
              · have := hP x w; omega
              · simp at w; subst w; simp
            · rw [ag2.at 0 32 (by unfold lgP; omega), gI_sI, if_neg (by omega), ag1.at 0 32 (by unfold qP; omega)]; exact g32
            · intro j x hx
              rw [ag2.at 32 j (by unfold lgP; omega), gI_sI, if_neg (by omega), ag1.at 32 j (by unfold qP; omega)]; exact gr32 j x hx
            · intro j x hx
              rw [ag2.at 31 j (by unfold lgP; omega)]
              refine rowS υ1 i ?_ j x hx
              intro j x hx; rw [ag1.at 31 j (by unfold qP; omega)]; exact gr31 j x hx
            · intro τ ag hSt t32 tr32 tr31
              intro σ22 e22
              rw [nI_1]
              have e1 : Ut K (L ++ (P ++ [(i, r, d0 + k)])) = upU (Ut K (L ++ P)) i (d0 + k + lasN K i r ((d0 + k) % 7)) := by
                rw [← List.append_assoc]; exact U_snoc hdays (by omega)
              rw [e1] at t32 tr32
              have hvs : (vSm K L n r m0 m1 d0 m k (Ut K (L ++ P)) (i + 1)).foldl (upR used pre) acc = (vRm K L n r m0 m1 d0 m (k + 1) (upU (Ut K (L ++ P)) i (d0 + k + lasN K i r ((d0 + k) % 7)))).foldl (upR (used + 1) (pre ++ [i])) ((vSm K L n r m0 m1 d0 m k (Ut K (L ++ P)) i).foldl (upR used pre) acc) := by
                rw [vSm_succ, List.foldl_append, if_pos z2, fold_map_a (by omega)]
              subst e22
              rw [← List.append_assoc] at hSt
              have agp : Ag mP τ (sI τ 4 401 (gI τ 4 401 - 1)) := Ag.put (lgP_m ⟨rfl, by omega⟩)
              refine ih (nA K - (i + 1)) _ (by omega) ⟨i + 1, rfl, by omega, agu.trans (agm.trans (ag15.trans (agl.trans (ag.trans agp)))), hSt.pop, rfl, ?_, ?_, ?_⟩
              · rw [hvs, gI_sI, if_neg (by omega)]; exact t32
              · rw [hvs]; intro j x hx; rw [gI_sI, if_neg (by omega)]; exact tr32 j x hx
              · intro j x hx; rw [gI_sI, if_neg (by omega)]; exact rowP τ i tr31 j x hx
          · rw [bl_0, hok] at z2
            rw [nI_1]
            refine ih (nA K - (i + 1)) _ (by omega) ⟨i + 1, rfl, by omega, agu.trans agm, hS1, rfl, ?_, ?_, ?_⟩
            · rw [vSm_succ, z2]; simp only [Bool.false_eq_true, if_false, List.append_nil]
              rw [ag1.at 0 32 (by unfold qP; omega)]; exact g32
            · rw [vSm_succ, z2]; simp only [Bool.false_eq_true, if_false, List.append_nil]
              intro j x hx; rw [ag1.at 32 j (by unfold qP; omega)]; exact gr32 j x hx
            · intro j x hx; rw [ag1.at 31 j (by unfold qP; omega)]; exact gr31 j x hx
      · refine kk σ (Ag.refl σ) hS ?_ ?_ hr31
        · rw [fold_prune _ acc (by intro row _; omega)]; exact h32
        · rw [fold_prune _ acc (by intro row _; omega)]; exact hr32
end MM
