theorem cntB_set {p : Nat → Bool} {a : Nat} : ∀ n, cntB (fun i => p i || decide (i = a)) n = cntB p n + (if a < n ∧ p a = false then 1 else 0) := by
  intro n
  induction n with
  | zero => simp [cntB]
  | succ n ih =>
    unfold cntB
    rw [ih]
    by_cases h : n = a
    · subst h
      cases hp : p n <;> simp
    · have h1 : decide (n = a) = false := decide_eq_false h
      rw [h1, Bool.or_false]
      have h2 : (a < n + 1 ∧ p a = false) ↔ (a < n ∧ p a = false) := by constructor <;> rintro ⟨x, y⟩ <;> exact ⟨by omega, y⟩
      simp only [h2]
      omega
theorem cntB_full {p : Nat → Bool} : ∀ n, n ≤ cntB p n → ∀ i, i < n → p i = true := by
  intro n
  induction n with
  | zero => intro _ i hi; omega
  | succ n ih =>
    intro h i hi
    unfold cntB at h
    have hle := cntB_le (p := p) n
    by_cases hin : i = n
    · subst hin
      cases hp : p i with
      | true => rfl
      | false => rw [hp] at h; simp at h; omega
    · refine ih ?_ i (by omega)
      split at h <;> omega
theorem cntB_congr {p q : Nat → Bool} : ∀ n, (∀ i, i < n → p i = q i) → cntB p n = cntB q n := by
  intro n
  induction n with
  | zero => intro _; rfl
  | succ n ih => intro h; unfold cntB; rw [ih (fun i hi => h i (by omega)), h n (by omega)]
section SX
variable {σ τ : DD} {T : TXT} {K : Nat → Int32} {L : List RD}
/-- what is needed is closed -/
def Clo (K : Nat → Int32) (p : Nat → Bool) (ne : Nat → Bool) : Prop := ∀ a m, (p a || ne a) = true → ndF K a = some m → ne m = true
theorem ndF_lt (hI : KI K) {a m : Nat} (h : ndF K a = some m) : a < nA K ∧ m < nA K ∧ K (4 * a + 3) = nI m := by
  have ha8 := hI.a
  unfold ndF at h
  split at h
  · simp at h
  · rename_i hc
    simp only [not_or] at hc
    obtain ⟨q, hq, eq⟩ := (hI.act (a := a) (by omega)).2.2.2.resolve_left hc.2
    rw [eq, nI_clamp (by omega)] at h
    injection h with h
    subst h
    exact ⟨by omega, hq, eq⟩
theorem s_findNeeded {n m0 m1 d0 : Nat} {post : DD → Prop} (hS : XS σ T K L) (hp : PL σ K n m0 m1 d0) (h0 : m0 < 2 ^ nA K) (h1 : m1 < 2 ^ nA K) (k : ∀ ne, Clo K (fun a => bOf (nI m0) a || bOf (nI m1) a) ne → ∀ τ, AgX (fun o p => o = 70 ∧ p = 12) (fun _ => False) σ τ → gI τ 70 12 = bits ne (nA K) → post τ) : w_Morn_findNeeded T σ post := by
  have hI := hS.1.2.2
  have ha8 := hI.a
  have e0 := bits_of h0 (by omega)
  have e1 := bits_of h1 (by omega)
  generalize bOf (nI m0) = p0 at e0 k
  generalize bOf (nI m1) = p1 at e1 k
  have keep : ∀ υ, AgX (fun o p => o = 70 ∧ p = 12) (fun _ => False) σ υ → XS υ T K L ∧ gI υ 70 8 = bits p0 (nA K) ∧ gI υ 70 9 = bits p1 (nA K) := by
    intro υ a
    refine ⟨hS.ag a (by omega) (by omega) (by omega) (by omega), ?_, ?_⟩
    · rw [a.i 70 8 (by omega), hp.1]; exact e0
    · rw [a.i 70 9 (by omega), hp.2.1]; exact e1
  unfold w_Morn_findNeeded
  intro σ9 e9
  have ag9 : AgX (fun o p => o = 70 ∧ p = 12) (fun _ => False) σ σ9 := by subst e9; exact AgX.put ⟨rfl, rfl⟩
  unfold w_Morn_findNeeded_l7
  refine LoopN (fun c y => ∃ i ne, c = nA K - i ∧ i ≤ nA K ∧ AgX (fun o p => o = 70 ∧ p = 12) (fun _ => False) σ y.1 ∧ y.2 = nI i ∧ gI y.1 70 12 = bits ne (nA K) ∧ (Clo K (fun a => p0 a || p1 a) ne ∨ i ≤ cntB ne (nA K))) ?_ (n := nA K) ⟨0, fun _ => false, rfl, Nat.zero_le _, ag9, rfl, ?_, Or.inr (Nat.zero_le _)⟩
  · rintro c ⟨υ, a1⟩ KK ⟨i, ne, hc, hi, ag, ea, h12, hcl⟩ ih
    simp only [] at ag ea h12 hcl ⊢
    subst ea
    obtain ⟨hSu, -, -⟩ := keep υ ag
    unfold w_Morn_findNeeded_b7
    rw [hSu.1.1.na, ha8.1, nI_leI (by omega) (by omega)]
    refine ⟨fun z => ?_, fun z => ?_⟩
    · refine k ne ?_ υ ag h12
      rcases hcl with w | w
      · exact w
      · intro a m _ hm
        exact cntB_full (nA K) (by omega) m (ndF_lt hI hm).2.1
    · unfold w_Morn_findNeeded_l20
      refine LoopN (fun c y => ∃ j ne', c = nA K - j ∧ j ≤ nA K ∧ AgX (fun o p => o = 70 ∧ p = 12) (fun _ => False) σ y.1 ∧ y.2 = nI j ∧ gI y.1 70 12 = bits ne' (nA K) ∧ (((∀ b, b < nA K → ne' b = ne b) ∧ ∀ a m, a < j → (p0 a || p1 a || ne a) = true → ndF K a = some m → ne m = true) ∨ (cntB ne (nA K) + 1 ≤ cntB ne' (nA K) ∧ ¬ Clo K (fun a => p0 a || p1 a) ne))) ?_ (n := nA K) ⟨0, ne, rfl, Nat.zero_le _, ag, rfl, h12, Or.inl ⟨fun _ _ => rfl, by omega⟩⟩
      rintro c' ⟨υ', a2⟩ KK' ⟨j, ne', hc', hj, ag', ea', h12', hinv⟩ ih'
      simp only [] at ag' ea' h12' hinv ⊢
      subst ea'
      obtain ⟨hSu', g8, g9⟩ := keep υ' ag'
      unfold w_Morn_findNeeded_b20
      rw [hSu'.1.1.na, ha8.1, nI_leI (by omega) (by omega)]
      refine ⟨fun z2 => ?_, fun z2 => ?_⟩
      · rw [nI_1]
        refine ih (nA K - (i + 1)) _ (by omega) ⟨i + 1, ne', rfl, by omega, ag', rfl, h12', ?_⟩
        rcases hinv with ⟨w1, w2⟩ | ⟨w1, w2⟩
        · left
          intro a m hm1 hm2
          have hlt := ndF_lt hI hm2
          rw [w1 m hlt.2.1]
          rw [w1 a hlt.1] at hm1
          exact w2 a m (by omega) hm1 hm2
        · right
          rcases hcl with w | w
          · exact absurd w w2
          · omega
      · refine s_trait 3 rfl hSu'.1.1 hI (by omega) (by omega) ?_
        have nx : ∀ υ2 ne2, AgX (fun o p => o = 70 ∧ p = 12) (fun _ => False) σ υ2 → gI υ2 70 12 = bits ne2 (nA K) → (((∀ b, b < nA K → ne2 b = ne b) ∧ ∀ a m, a < j + 1 → (p0 a || p1 a || ne a) = true → ndF K a = some m → ne m = true) ∨ (cntB ne (nA K) + 1 ≤ cntB ne2 (nA K) ∧ ¬ Clo K (fun a => p0 a || p1 a) ne)) → KK' (υ2, nI j + 1) := fun υ2 ne2 q1 q2 q3 => ih' (nA K - (j + 1)) (υ2, nI j + 1) (by omega) ⟨j + 1, ne2, rfl, by omega, q1, nI_1 j, q2, q3⟩
        have stay : ((p0 j || p1 j || ne j) = true → ∀ m, ndF K j = some m → ne m = true) → KK' (υ', nI j + 1) := by
          intro hs
          refine nx υ' ne' ag' h12' ?_
          rcases hinv with ⟨w1, w2⟩ | w
          · left
            refine ⟨w1, ?_⟩
            intro a m ha hr hm
            by_cases haj : a = j
            · subst haj; exact hs hr m hm
            · exact w2 a m (by omega) hr hm
          · right; exact w
        have h12n : ∀ q, q < nA K → jshr (gI υ' 70 8 ||| gI υ' 70 9 ||| gI υ' 70 12) (nI q) &&& 1 = bl (p0 q || p1 q || ne' q) := by
          intro q hq
          rw [g8, g9, h12', bits_or _ _ (by omega), bits_or _ _ (by omega), bits_bit _ (by omega) (by omega)]
          simp [hq]
        refine ⟨fun z3 => stay (fun _ m hm => by rw [(ndF_lt hI hm).2.2] at z3; exact absurd z3 (nI_m1 (by have := (ndF_lt hI hm).2.1; omega))), fun z3 => ?_⟩
        obtain ⟨m, hm, em⟩ := (hI.act (a := j) (by omega)).2.2.2.resolve_left z3
        have hnd : ndF K j = some m := by
          unfold ndF
          rw [if_neg (by rintro (w | w); omega; exact z3 w), em, nI_clamp (by omega)]
        rw [h12n j (by omega)]
        refine br0 (fun hb => ?_) (fun hb => ?_)
        · rcases hinv with ⟨w1, w2⟩ | w
          · refine stay (fun hr => ?_)
            rw [← w1 j (by omega), hb] at hr
            exact absurd hr (by decide)
          · exact nx υ' ne' ag' h12' (Or.inr w)
        · intro σ6 e6
          rw [h12', em, bits_set (by omega) hm] at e6
          refine nx σ6 (fun i => ne' i || decide (i = m)) ?_ ?_ ?_
          · subst e6; exact ag'.set ⟨rfl, rfl⟩
          · subst e6; exact gI_same
          · have hcs := cntB_set (p := ne') (a := m) (nA K)
            rcases hinv with ⟨w1, w2⟩ | ⟨w1, w2⟩
            · by_cases hnm : ne m = true
              · left
                refine ⟨?_, ?_⟩
                · intro b hb2
                  rw [w1 b hb2]
                  by_cases hbm : b = m
                  · subst hbm; rw [hnm]; rfl
                  · simp [hbm]
                · intro a m' ha hr hm'
                  by_cases haj : a = j
                  · subst haj; rw [hnd] at hm'; injection hm' with hm'; subst hm'; exact hnm
                  · exact w2 a m' (by omega) hr hm'
              · right
                have hnf : ne m = false := by simpa using hnm
                refine ⟨?_, ?_⟩
                · rw [hcs, w1 m hm, hnf, if_pos ⟨hm, rfl⟩, cntB_congr _ w1]; exact Nat.le_refl _
                · intro hc2
                  have := hc2 j m (by rw [← w1 j (by omega)]; exact hb) hnd
                  rw [hnf] at this; exact absurd this (by decide)
            · right
              refine ⟨?_, w2⟩
              rw [hcs]; omega
  · subst e9
    rw [gI_same]; exact (bits_0 _).symm
def skP (o p : Nat) : Prop := o = 73 ∨ o = 76 ∨ o = 77 ∨ (o = 70 ∧ p = 13)
abbrev uRm (K : Nat → Int32) (L : List RD) (n r m0 m1 d0 : Nat) (ne : Nat → Bool) : Nat → Nat → (Nat → Nat) → List (List Nat) := uR n (nA K) d0 (fun k a => canB K L a r (d0 + k)) (fun k a => lasN K a r ((d0 + k) % 7)) (ndF K) (bOf (nI m0)) (bOf (nI m1)) ne
abbrev uSm (K : Nat → Int32) (L : List RD) (n r m0 m1 d0 : Nat) (ne : Nat → Bool) : Nat → Nat → (Nat → Nat) → Nat → List (List Nat) := uS n (nA K) d0 (fun k a => canB K L a r (d0 + k)) (fun k a => lasN K a r ((d0 + k) % 7)) (ndF K) (bOf (nI m0)) (bOf (nI m1)) ne
theorem uRm_S (K : Nat → Int32) (L : List RD) (n r m0 m1 d0 : Nat) (ne : Nat → Bool) (m k : Nat) (U : Nat → Nat) : uRm K L n r m0 m1 d0 ne (m + 1) k U = uSm K L n r m0 m1 d0 ne m k U (nA K) ++ (uRm K L n r m0 m1 d0 ne m (k + 1) U).map (100 :: ·) := rfl
theorem uSm_succ (K : Nat → Int32) (L : List RD) (n r m0 m1 d0 : Nat) (ne : Nat → Bool) (m k : Nat) (U : Nat → Nat) (i : Nat) : uSm K L n r m0 m1 d0 ne m k U (i + 1) = uSm K L n r m0 m1 d0 ne m k U i ++ (if usf n d0 (bOf (nI m0)) (bOf (nI m1)) ne U i && okR d0 (fun k a => canB K L a r (d0 + k)) (ndF K) k i U then (uRm K L n r m0 m1 d0 ne m (k + 1) (upU U i (d0 + k + lasN K i r ((d0 + k) % 7)))).map (i :: ·) else []) := uS_succ _ _ _ _ _ _ _ _ _ m k U i
theorem s_seek {n r m0 m1 d0 : Nat} {ne : Nat → Bool} (hI : KI K) (hr : r < nR K) (hn : n ≤ 5) (hd0 : d0 ≤ 999) (h0 : m0 < 2 ^ nA K) (h1 : m1 < 2 ^ nA K) : ∀ m k fuel used (U : Nat → Nat) (acc : Nat × List Nat) (pre : List Nat) (σ : DD) (post : DD → Prop), k + m = n → m < fuel → used ≤ k → pre.length = k → XS σ T K L → PL σ K n m0 m1 d0 → PU σ K U → (∀ a, U a < 3000) → (∀ k, k < n → PO σ K L (fun _ => r) d0 k) → gI σ 70 12 = bits ne (nA K) → acc.1 ≤ 6 → gI σ 70 13 = nI acc.1 → rowIs σ 77 acc.2 → rowIs σ 76 pre → (∀ τ, AgX skP (fun _ => False) σ τ → PU τ K U → gI τ 70 13 = nI ((uRm K L n r m0 m1 d0 ne m k U).foldl (upR used pre) acc).1 → rowIs τ 77 ((uRm K L n r m0 m1 d0 ne m k U).foldl (upR used pre) acc).2 → rowIs τ 76 pre → post τ) → w_Morn_seek_d T fuel σ (nI k) (nI used) post := by
  have ha8 := hI.a
  have e0 := bits_of h0 (by omega)
  have e1 := bits_of h1 (by omega)
  intro m
  induction m with
  | zero =>
    intro k fuel used U acc pre σ post hk hf hu hpre hS hp hpu hU hpo h12 hacc h13 hr77 hr76 kk
    cases fuel with
    | zero => omega
    | succ fuel =>
      show w_Morn_seek_o T (w_Morn_seek_d T fuel) σ (nI k) (nI used) post
      have hkn : k = n := by omega
      subst hkn
      unfold w_Morn_seek_o
      refine s_heldEnd hS hp hpu hU hn hd0 ?_
      intro v28 e28
      rw [hp.1, hp.2.1, e0, e1, bits_diff _ _ (by omega), bits_and _ _ (by omega), bits_or _ _ (by omega)] at e28
      have ew : v28 = bits (wrg k d0 (bOf (nI m0)) (bOf (nI m1)) U) (nA K) := by
        rw [e28]; apply bits_congr; intro i _; rfl
      rw [bits_N _ _ (by omega)] at ew
      have hlt := bitsN_lt (wrg k d0 (bOf (nI m0)) (bOf (nI m1)) U) (nA K)
      have hp8 := pow8 ha8.2
      rw [ew]
      refine s_bitCount (by omega) ?_
      rw [← bits_N _ _ (by omega), ones_cnt _ ha8.2, hp.2.2.1, pk_sub (Nat.le_refl _), Nat.sub_self]
      have hcl := cntB_le (p := wrg k d0 (bOf (nI m0)) (bOf (nI m1)) U) (nA K)
      rw [nI_ltI (by omega) (by omega)]
      have noRow : ∀ row, row ∈ uRm K L k r m0 m1 d0 ne 0 k U → cntB (wrg k d0 (bOf (nI m0)) (bOf (nI m1)) U) (nA K) = 0 ∧ cntR row = 0 := by
        intro row hrow
        have hv : row ∈ vRm K L k r m0 m1 d0 0 k U := by
          have := uR_filter k (nA K) d0 (fun k a => canB K L a r (d0 + k)) (fun k a => lasN K a r ((d0 + k) % 7)) (ndF K) (bOf (nI m0)) (bOf (nI m1)) ne (by omega) 0 k U
          have h2 : row ∈ (vRm K L k r m0 m1 d0 0 k U).filter (allU k d0 (fun k a => lasN K a r ((d0 + k) % 7)) (bOf (nI m0)) (bOf (nI m1)) ne k U) := by rw [← this]; exact hrow
          exact (List.mem_filter.1 h2).1
        have := vR_len _ _ _ _ _ _ _ _ (by omega) _ _ _ _ hv
        omega
      refine ⟨fun z => ?_, fun z => ⟨fun z2 => ⟨fun z3 => ?_, fun z3 => ?_⟩, fun z2 => ?_⟩⟩
      · refine kk σ (AgX.refl σ) hpu ?_ ?_ hr76
        · rw [fold_prune _ acc (by intro row hrow; have := (noRow row hrow).1; omega)]; exact h13
        · rw [fold_prune _ acc (by intro row hrow; have := (noRow row hrow).1; omega)]; exact hr77
      · rw [nI_ltI (by omega) (by omega)] at z3; omega
      · have hw0 : cntB (wrg k d0 (bOf (nI m0)) (bOf (nI m1)) U) (nA K) = 0 := by omega
        rw [h13, nI_add, nI_ltI (by omega) (by omega)] at z2
        have hg : goalR k (nA K) d0 (bOf (nI m0)) (bOf (nI m1)) U = true := by
          unfold goalR
          rw [List.all_eq_true]
          intro a ha
          have := cntB_pos _ hw0 a (List.mem_range.1 ha)
          unfold wrg at this
          revert this
          generalize hE k d0 U a = x
          generalize bOf (nI m0) a = y
          generalize bOf (nI m1) a = w
          cases x <;> cases y <;> cases w <;> simp
        unfold uRm uR at kk
        rw [if_pos hg] at kk
        simp only [List.foldl_cons, List.foldl_nil] at kk
        have hup : upR used pre acc [] = (used, pre) := by
          unfold upR
          rw [show cntR [] = 0 from rfl, Nat.add_zero, if_pos (by omega), List.append_nil]
        rw [hup] at kk
        intro σ37 e37
        have h10 : gI σ37 70 10 = nI k := by subst e37; rw [gI_sI, if_neg (by omega)]; exact hp.2.2.1
        rw [h10, nI_clamp (by omega)]
        refine ⟨nI_pos (by omega), by omega, by omega, fun σ42 e42 => ?_⟩
        have g42 : ∀ o j, gI σ42 o j = if o = 77 ∧ j < k then gI σ 76 j else (if o = 70 ∧ j = 13 then nI used else gI σ o j) := by
          intro o j
          subst e42
          show (if o = 77 ∧ 0 ≤ j ∧ j < 0 + k then gI σ37 76 (0 + (j - 0)) else gI σ37 o j) = _
          subst e37
          by_cases h : o = 77 ∧ j < k
          · rw [if_pos ⟨h.1, by omega, by omega⟩, if_pos h, gI_sI, if_neg (by omega)]; congr 1; omega
          · rw [if_neg (fun w => h ⟨w.1, by omega⟩), if_neg h, gI_sI]
        refine kk σ42 ⟨?_, ?_, ?_⟩ ?_ ?_ ?_ ?_
        · intro o j hnp
          rw [g42, if_neg (fun w => hnp (by unfold skP; omega)), if_neg (fun w => hnp (by unfold skP; omega))]
        · intro o j _; subst e42; subst e37; rfl
        · subst e42; subst e37; rfl
        · intro a ha; rw [g42, if_neg (by omega), if_neg (by omega)]; exact hpu a ha
        · rw [g42, if_neg (by omega), if_pos ⟨rfl, rfl⟩]
        · intro i x hx
          have hi : i < pre.length := by rw [List.getElem?_eq_some_iff] at hx; exact hx.1
          rw [g42, if_pos ⟨rfl, by omega⟩]; exact hr76 i x hx
        · intro i x hx; rw [g42, if_neg (by omega), if_neg (by omega)]; exact hr76 i x hx
      · rw [h13, nI_add, nI_ltI (by omega) (by omega)] at z2
        refine kk σ (AgX.refl σ) hpu ?_ ?_ hr76
        · rw [fold_prune _ acc (by intro row hrow; have := noRow row hrow; omega)]; exact h13
        · rw [fold_prune _ acc (by intro row hrow; have := noRow row hrow; omega)]; exact hr77
  | succ m ihm =>
    intro k fuel used U acc pre σ post hk hf hu hpre hS hp hpu hU hpo h12 hacc h13 hr77 hr76 kk
    cases fuel with
    | zero => omega
    | succ fuel =>
      show w_Morn_seek_o T (w_Morn_seek_d T fuel) σ (nI k) (nI used) post
      unfold w_Morn_seek_o
      refine s_heldEnd hS hp hpu hU hn hd0 ?_
      intro v28 e28
      rw [hp.1, hp.2.1, e0, e1, bits_diff _ _ (by omega), bits_and _ _ (by omega), bits_or _ _ (by omega)] at e28
      have ew : v28 = bits (wrg n d0 (bOf (nI m0)) (bOf (nI m1)) U) (nA K) := by
        rw [e28]; apply bits_congr; intro i _; rfl
      have ew2 := ew
      rw [bits_N _ _ (by omega)] at ew2
      have hlt := bitsN_lt (wrg n d0 (bOf (nI m0)) (bOf (nI m1)) U) (nA K)
      have hp8 := pow8 ha8.2
      have hcl := cntB_le (p := wrg n d0 (bOf (nI m0)) (bOf (nI m1)) U) (nA K)
      have bc : ∀ (post' : Int32 → DD → Prop), post' (nI (cntB (wrg n d0 (bOf (nI m0)) (bOf (nI m1)) U) (nA K))) σ → w_J6_bitCount_0f7a4 T σ v28 post' := by
        intro post' hpost
        rw [ew2]
        refine s_bitCount (by omega) ?_
        rw [← bits_N _ _ (by omega), ones_cnt _ ha8.2]
        exact hpost
      refine bc _ ?_
      rw [hp.2.2.1, pk_sub (by omega), nI_ltI (by omega) (by omega), h13, nI_add, nI_ltI (by omega) (by omega), nI_ltI (by omega) (by omega)]
      have noRow : ∀ row, row ∈ uRm K L n r m0 m1 d0 ne (m + 1) k U → cntB (wrg n d0 (bOf (nI m0)) (bOf (nI m1)) U) (nA K) ≤ cntR row ∧ cntR row ≤ m + 1 := by
        intro row hrow
        have hv : row ∈ vRm K L n r m0 m1 d0 (m + 1) k U := by
          have := uR_filter n (nA K) d0 (fun k a => canB K L a r (d0 + k)) (fun k a => lasN K a r ((d0 + k) % 7)) (ndF K) (bOf (nI m0)) (bOf (nI m1)) ne (by omega) (m + 1) k U
          have h2 : row ∈ (vRm K L n r m0 m1 d0 (m + 1) k U).filter (allU n d0 (fun k a => lasN K a r ((d0 + k) % 7)) (bOf (nI m0)) (bOf (nI m1)) ne k U) := by rw [← this]; exact hrow
          exact (List.mem_filter.1 h2).1
        have := vR_len _ _ _ _ _ _ _ _ (by omega) _ _ _ _ hv
        omega
      refine ⟨fun z => ?_, fun z => ⟨fun z2 => ⟨fun z3 => ?_, fun z3 => by omega⟩, fun z2 => ?_⟩⟩
      · refine kk σ (AgX.refl σ) hpu ?_ ?_ hr76
        · rw [fold_prune _ acc (by intro row hrow; have := noRow row hrow; omega)]; exact h13
        · rw [fold_prune _ acc (by intro row hrow; have := noRow row hrow; omega)]; exact hr77
      · intro v35 e35
        rw [h12, bits_diff _ _ (by omega), ew, bits_or _ _ (by omega)] at e35
        have eu : v35 = bits (usf n d0 (bOf (nI m0)) (bOf (nI m1)) ne U) (nA K) := by
          rw [e35]; apply bits_congr; intro i _; rfl
        rw [uRm_S, List.foldl_append, fold_map_100] at kk
        unfold w_Morn_seek_l99
        refine LoopN (fun c y => ∃ i, c = nA K - i ∧ i ≤ nA K ∧ AgX skP (fun _ => False) σ y.1 ∧ PU y.1 K U ∧ y.2 = nI i ∧ gI y.1 70 13 = nI ((uSm K L n r m0 m1 d0 ne m k U i).foldl (upR used pre) acc).1 ∧ rowIs y.1 77 ((uSm K L n r m0 m1 d0 ne m k U i).foldl (upR used pre) acc).2 ∧ rowIs y.1 76 pre) ?_ (n := nA K) ⟨0, rfl, Nat.zero_le _, AgX.refl σ, hpu, rfl, h13, hr77, hr76⟩
        rintro c ⟨υ, a7⟩ KK ⟨i, hc, hi, agu, hpuu, e7, g13, gr77, gr76⟩ ih
        simp only [] at agu hpuu e7 g13 gr77 gr76 ⊢
        subst e7
        have sub : ∀ υ', AgX skP (fun _ => False) σ υ' → XS υ' T K L ∧ PL υ' K n m0 m1 d0 ∧ (∀ k, k < n → PO υ' K L (fun _ => r) d0 k) ∧ gI υ' 70 12 = bits ne (nA K) := by
          intro υ' a
          refine ⟨hS.ag a (by unfold skP; omega) (by unfold skP; omega) (by unfold skP; omega) (by unfold skP; omega), ?_, ?_, ?_⟩
          · unfold PL; rw [a.i 70 8 (by unfold skP; omega), a.i 70 9 (by unfold skP; omega), a.i 70 10 (by unfold skP; omega), a.i 70 11 (by unfold skP; omega)]; exact hp
          · intro k' hk'
            unfold PO
            rw [a.row 74 (by unfold skP; omega), a.row 75 (by unfold skP; omega)]
            exact hpo k' hk'
          · rw [a.i 70 12 (by unfold skP; omega)]; exact h12
        obtain ⟨hSu, hpl, hpou, h12u⟩ := sub υ agu
        have hin : vp_in (nI k) 5 := vp_in_nI (by omega) (by decide)
        have rowS : ∀ (υ' : DD) (x : Nat), rowIs υ' 76 pre → rowIs (sI υ' 76 k (nI x)) 76 (pre ++ [x]) := by
          intro υ' x hr j y hy
          rw [gI_sI]
          by_cases hj : j < pre.length
          · rw [List.getElem?_append_left hj] at hy
            rw [if_neg (by omega)]; exact hr j y hy
          · rw [List.getElem?_append_right (by omega)] at hy
            have hj0 : j - pre.length = 0 := by
              rw [List.getElem?_eq_some_iff] at hy
              have := hy.1
              simp at this; omega
            rw [hj0] at hy
            simp at hy
            rw [if_pos ⟨rfl, by omega⟩, hy]
        have rowP : ∀ (υ' : DD) (x : Nat), rowIs υ' 76 (pre ++ [x]) → rowIs υ' 76 pre := by
          intro υ' x hr j y hy
          have hj : j < pre.length := by rw [List.getElem?_eq_some_iff] at hy; exact hy.1
          exact hr j y (by rw [List.getElem?_append_left hj]; exact hy)
        unfold w_Morn_seek_b99
        rw [hSu.1.1.na, ha8.1, nI_leI (by omega) (by omega), nI_clamp (n := k) (by omega)]
        refine ⟨fun w => ?_, fun w => ?_⟩
        · have hie : i = nA K := by omega
          subst hie
          refine ⟨hin, fun σ2 e2 => ?_⟩
          rw [show (100 : Int32) = nI 100 from rfl] at e2
          rw [nI_1]
          have ag2 : AgX skP (fun _ => False) υ σ2 := by subst e2; exact AgX.put (Or.inr (Or.inl rfl))
          obtain ⟨q1, q2, q3, q4⟩ := sub σ2 (agu.trans ag2)
          refine ihm (k + 1) fuel used U ((uSm K L n r m0 m1 d0 ne m k U (nA K)).foldl (upR used pre) acc) (pre ++ [100]) σ2 _ (by omega) (by omega) (by omega) (by simp; omega) q1 q2 ?_ hU q3 q4 (Nat.le_trans (upR_le _ _) hacc) ?_ ?_ ?_ ?_
          · intro a ha; subst e2; rw [gI_sI, if_neg (by omega)]; exact hpuu a ha
          · subst e2; rw [gI_sI, if_neg (by omega)]; exact g13
          · subst e2; intro j x hx; rw [gI_sI, if_neg (by omega)]; exact gr77 j x hx
          · subst e2; exact rowS υ 100 gr76
          · intro τ ag t1 t2 t3 t4
            exact kk τ (agu.trans (ag2.trans ag)) t1 t2 t3 (rowP τ 100 t4)
        · rw [eu, bits_bit _ (by omega) (by omega)]
          have hil : decide (i < nA K) = true := decide_eq_true (by omega)
          rw [hil, Bool.true_and]
          have nxt0 : (usf n d0 (bOf (nI m0)) (bOf (nI m1)) ne U i && okR d0 (fun k a => canB K L a r (d0 + k)) (ndF K) k i U) = false → KK (υ, nI i + 1) := by
            intro hfalse
            rw [nI_1]
            have es : uSm K L n r m0 m1 d0 ne m k U (i + 1) = uSm K L n r m0 m1 d0 ne m k U i := by
              rw [uSm_succ, hfalse]; simp
            refine ih (nA K - (i + 1)) _ (by omega) ⟨i + 1, rfl, by omega, agu, hpuu, rfl, ?_, ?_, gr76⟩
            · rw [es]; exact g13
            · rw [es]; exact gr77
          refine br0 (fun hb => nxt0 (by rw [hb]; rfl)) (fun hb => ?_)
          refine s_PcanRead hSu hpl hpuu hU (hpou k (by omega)) (by omega) hd0 (by omega) ?_
          refine br0 (fun hb2 => nxt0 (by rw [hb2, Bool.and_false])) (fun hb2 => ?_)
          have hin8 : vp_in (nI i) 8 := vp_in_nI (by omega) (by decide)
          rw [nI_clamp (n := i) (by omega)]
          refine ⟨hin8, fun v12 e12 => ?_⟩
          have e75 : (nI k * 8) + nI i = nI (8 * k + i) := by
            rw [show (8 : Int32) = nI 8 from rfl, pk_mul, nI_add]; congr 1; omega
          have hla := (lasN_e hI (r := r) (w := (d0 + k) % 7) (show i < nA K by omega)).2
          rw [e75, nI_clamp (by omega), (hpou k (by omega)).2 i (by omega), hpl.2.2.2, nI_add, nI_add]
          refine ⟨vp_in_nI (by omega) (by decide), hin8, fun σ15 e15 => ⟨hin, fun σ18 e18 => ?_⟩⟩
          rw [nI_1, nI_1]
          have ag18 : AgX skP (fun _ => False) υ σ18 := by subst e15; subst e18; exact (AgX.put (Or.inl rfl)).set (Or.inr (Or.inl rfl))
          obtain ⟨q1, q2, q3, q4⟩ := sub σ18 (agu.trans ag18)
          refine ihm (k + 1) fuel (used + 1) (upU U i (d0 + k + lasN K i r ((d0 + k) % 7))) ((uSm K L n r m0 m1 d0 ne m k U i).foldl (upR used pre) acc) (pre ++ [i]) σ18 _ (by omega) (by omega) (by omega) (by simp; omega) q1 q2 ?_ ?_ q3 q4 (Nat.le_trans (upR_le _ _) hacc) ?_ ?_ ?_ ?_
          · intro a ha
            subst e15; subst e18
            rw [gI_sI, if_neg (by omega), gI_sI]
            unfold upU
            by_cases hai : a = i
            · rw [if_pos ⟨rfl, hai⟩, if_pos hai]
            · rw [if_neg (fun x => hai x.2), if_neg hai]; exact hpuu a ha
          · intro a; unfold upU; split
            · omega
            · exact hU a
          · subst e15; subst e18; rw [gI_sI, if_neg (by omega), gI_sI, if_neg (by omega)]; exact g13
          · subst e15; subst e18; intro j x hx; rw [gI_sI, if_neg (by omega), gI_sI, if_neg (by omega)]; exact gr77 j x hx
          · subst e18
            refine rowS σ15 i ?_
            subst e15; intro j x hx; rw [gI_sI, if_neg (by omega)]; exact gr76 j x hx
          · intro τ ag t1 t2 t3 t4
            refine ⟨hin8, fun σ23 e23 => ?_⟩
            have es : (uSm K L n r m0 m1 d0 ne m k U (i + 1)).foldl (upR used pre) acc = (uRm K L n r m0 m1 d0 ne m (k + 1) (upU U i (d0 + k + lasN K i r ((d0 + k) % 7)))).foldl (upR (used + 1) (pre ++ [i])) ((uSm K L n r m0 m1 d0 ne m k U i).foldl (upR used pre) acc) := by
              rw [uSm_succ, hb, hb2, List.foldl_append]
              simp only [Bool.and_true, if_true]
              rw [fold_map_a (by omega)]
            have hv12 : v12 = nI (U i) := by rw [e12]; exact hpuu i (by omega)
            refine ih (nA K - (i + 1)) _ (by omega) ⟨i + 1, rfl, by omega, agu.trans (ag18.trans (ag.trans ?_)), ?_, nI_1 i, ?_, ?_, ?_⟩
            · subst e23; exact AgX.put (Or.inl rfl)
            · intro a ha
              subst e23
              rw [gI_sI]
              by_cases hai : a = i
              · rw [if_pos ⟨rfl, hai⟩, hv12, hai]
              · rw [if_neg (fun x => hai x.2), t1 a ha]; unfold upU; rw [if_neg hai]
            · rw [es]; subst e23; rw [gI_sI, if_neg (by omega)]; exact t2
            · rw [es]; subst e23; intro j x hx; rw [gI_sI, if_neg (by omega)]; exact t3 j x hx
            · subst e23; intro j x hx; rw [gI_sI, if_neg (by omega)]; exact rowP τ i t4 j x hx
      · refine kk σ (AgX.refl σ) hpu ?_ ?_ hr76
        · rw [fold_prune _ acc (by intro row hrow; have := noRow row hrow; omega)]; exact h13
        · rw [fold_prune _ acc (by intro row hrow; have := noRow row hrow; omega)]; exact hr77
end SX
