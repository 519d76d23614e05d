/-! ===== the game, as the class plays it ===== -/
def AB (lo hi v c : Int32) : Prop := (lo < c → c < hi → c = v) ∧ (c ≤ lo → v ≤ c) ∧ (hi ≤ c → c ≤ v)
def ABI (mx : Bool) (lo hi : Int32) (acc : Option (Int32 × Nat)) (best low high : Int32) : Prop := (acc = none ∧ best = (if mx then -99 else 99) ∧ low = lo ∧ high = hi) ∨ ∃ V q, acc = some (V, q) ∧ Bd8 best ∧ (if mx then low = jmax lo best ∧ high = hi else low = lo ∧ high = jmin hi best) ∧ AB lo hi V best
theorem AB_step {mx : Bool} {lo hi : Int32} {acc : Option (Int32 × Nat)} {best low high v c : Int32} {a : Nat} (h : ABI mx lo hi acc best low high) (hlh : low < high) (h1 : lo < hi) (h2 : -99 ≤ lo) (h3 : hi ≤ 99) (hc : AB low high v c) (hc8 : Bd8 c) (b' : Int32) (hb : b' = if (if mx then best < c else c < best) then c else best) : ABI mx lo hi (gmF mx acc v a) b' (if mx then jmax low b' else low) (if mx then high else jmin high b') := by
  unfold Bd8 at hc8
  unfold AB at hc
  right
  cases mx with
  | true =>
    simp only [if_true] at hb ⊢
    rcases h with ⟨x1, x2, x3, x4⟩ | ⟨V, q, x1, x2, x3, x4⟩
    · simp only [if_true] at x2
      subst x1; subst x2; subst x3; subst x4
      have e : b' = c := by rw [hb, if_pos (by grind)]
      subst e
      refine ⟨v, a, rfl, hc8, ⟨rfl, rfl⟩, hc⟩
    · simp only [if_true] at x3
      unfold Bd8 at x2
      unfold AB at x4
      subst x1
      obtain ⟨y1, y2⟩ := x3
      subst y2
      unfold gmF
      simp only [if_true]
      unfold jmax at y1 ⊢
      by_cases hV : V < v
      · rw [if_pos hV]
        refine ⟨v, a, rfl, ?_, ⟨?_, trivial⟩, ?_⟩
        · unfold Bd8; by_cases hq : best < c
          · rw [if_pos hq] at hb; rw [hb]; exact hc8
          · rw [if_neg hq] at hb; rw [hb]; exact x2
        · by_cases hq : best < c
          · rw [if_pos hq] at hb; grind
          · rw [if_neg hq] at hb; grind
        · unfold AB; by_cases hq : best < c
          · rw [if_pos hq] at hb; grind
          · rw [if_neg hq] at hb; grind
      · rw [if_neg hV]
        refine ⟨V, q, rfl, ?_, ⟨?_, trivial⟩, ?_⟩
        · unfold Bd8; by_cases hq : best < c
          · rw [if_pos hq] at hb; rw [hb]; exact hc8
          · rw [if_neg hq] at hb; rw [hb]; exact x2
        · by_cases hq : best < c
          · rw [if_pos hq] at hb; grind
          · rw [if_neg hq] at hb; grind
        · unfold AB; by_cases hq : best < c
          · rw [if_pos hq] at hb; grind
          · rw [if_neg hq] at hb; grind
  | false =>
    simp only [Bool.false_eq_true, if_false] at hb ⊢
    rcases h with ⟨x1, x2, x3, x4⟩ | ⟨V, q, x1, x2, x3, x4⟩
    · simp only [Bool.false_eq_true, if_false] at x2
      subst x1; subst x2; subst x3; subst x4
      have e : b' = c := by rw [hb, if_pos (by grind)]
      subst e
      refine ⟨v, a, rfl, hc8, ⟨rfl, rfl⟩, hc⟩
    · simp only [Bool.false_eq_true, if_false] at x3
      unfold Bd8 at x2
      unfold AB at x4
      subst x1
      obtain ⟨y1, y2⟩ := x3
      subst y1
      unfold gmF
      simp only [Bool.false_eq_true, if_false]
      unfold jmin at y2 ⊢
      by_cases hV : v < V
      · rw [if_pos hV]
        refine ⟨v, a, rfl, ?_, ⟨trivial, ?_⟩, ?_⟩
        · unfold Bd8; by_cases hq : c < best
          · rw [if_pos hq] at hb; rw [hb]; exact hc8
          · rw [if_neg hq] at hb; rw [hb]; exact x2
        · by_cases hq : c < best
          · rw [if_pos hq] at hb; grind
          · rw [if_neg hq] at hb; grind
        · unfold AB; by_cases hq : c < best
          · rw [if_pos hq] at hb; grind
          · rw [if_neg hq] at hb; grind
      · rw [if_neg hV]
        refine ⟨V, q, rfl, ?_, ⟨trivial, ?_⟩, ?_⟩
        · unfold Bd8; by_cases hq : c < best
          · rw [if_pos hq] at hb; rw [hb]; exact hc8
          · rw [if_neg hq] at hb; rw [hb]; exact x2
        · by_cases hq : c < best
          · rw [if_pos hq] at hb; grind
          · rw [if_neg hq] at hb; grind
        · unfold AB; by_cases hq : c < best
          · rw [if_pos hq] at hb; grind
          · rw [if_neg hq] at hb; grind
theorem AB_root {acc : Option (Int32 × Nat)} {best low high v c : Int32} {a : Nat} (h : ABI true (-99) 99 acc best low high) (hc : AB low high v c) (hc8 : Bd8 c) : gmF true acc v a = if best < c then some (v, a) else acc := by
  unfold Bd8 at hc8
  unfold AB at hc
  rcases h with ⟨x1, x2, x3, x4⟩ | ⟨V, q, x1, x2, x3, x4⟩
  · simp only [if_true] at x2
    subst x1; subst x2
    rw [if_pos (by grind)]; rfl
  · simp only [if_true] at x3
    unfold Bd8 at x2
    unfold AB jmax at *
    subst x1
    unfold gmF
    simp only [if_true]
    by_cases hq : best < c
    · rw [if_pos hq, if_pos (by grind)]
    · rw [if_neg hq, if_neg (by grind)]
theorem gmF_mono {mx : Bool} {V v : Int32} {q a : Nat} : ∃ V' q', gmF mx (some (V, q)) v a = some (V', q') ∧ (if mx then V ≤ V' else V' ≤ V) := by
  unfold gmF
  cases mx with
  | true =>
    simp only [if_true]
    by_cases h : V < v
    · rw [if_pos h]; exact ⟨v, a, rfl, by grind⟩
    · rw [if_neg h]; exact ⟨V, q, rfl, by grind⟩
  | false =>
    simp only [Bool.false_eq_true, if_false]
    by_cases h : v < V
    · rw [if_pos h]; exact ⟨v, a, rfl, by grind⟩
    · rw [if_neg h]; exact ⟨V, q, rfl, by grind⟩
theorem ord_trans {mx : Bool} {a b c : Int32} (h1 : if mx then a ≤ b else b ≤ a) (h2 : if mx then b ≤ c else c ≤ b) : if mx then a ≤ c else c ≤ a := by
  cases mx <;> simp only [Bool.false_eq_true, if_false, if_true] at * <;> grind
theorem gSm_mono {K : Nat → Int32} {L : List RD} {n r0 r1 m0 m1 d0 m k : Nat} {U : Nat → Nat} : ∀ j i V q, gSm K L n r0 r1 m0 m1 d0 m k U i = some (V, q) → ∃ V' q', gSm K L n r0 r1 m0 m1 d0 m k U (i + j) = some (V', q') ∧ (if mxB k then V ≤ V' else V' ≤ V) := by
  intro j
  induction j with
  | zero => intro i V q h; exact ⟨V, q, h, by cases mxB k <;> simp⟩
  | succ j ih =>
    intro i V q h
    obtain ⟨V1, q1, e1, o1⟩ := ih i V q h
    rw [show i + (j + 1) = (i + j) + 1 from rfl, gSm_succ]
    by_cases hok : okm K L r0 r1 d0 k (i + j) U = true
    · rw [if_pos hok, e1]
      obtain ⟨V2, q2, e2, o2⟩ := gmF_mono (mx := mxB k) (V := V1) (q := q1) (v := (gRm K L n r0 r1 m0 m1 d0 m (k + 1) (upU U (i + j) (d0 + k + lasN K (i + j) (rfN r0 r1 k) ((d0 + k) % 7)))).1) (a := i + j)
      exact ⟨V2, q2, e2, ord_trans o1 o2⟩
    · rw [if_neg hok]; exact ⟨V1, q1, e1, o1⟩
section GX
variable {σ τ : DD} {T : TXT} {K : Nat → Int32} {L : List RD}
def plP (o p : Nat) : Prop := o = 73 ∨ (o = 70 ∧ p = 7)
theorem s_play {n r0 r1 m0 m1 d0 : Nat} (hI : KI K) (hr0 : r0 < nR K) (hr1 : r1 < nR K) (hn : n ≤ 5) (hd0 : d0 ≤ 999) (h0 : m0 < 2 ^ nA K) (h1 : m1 < 2 ^ nA K) : ∀ m k fuel (U : Nat → Nat) (lo hi : Int32) (σ : DD) (post : Int32 → DD → Prop), k + m = n → m < fuel → XS σ T K L → PL σ K n m0 m1 d0 → PU σ K U → (∀ a, U a < 3000) → (∀ k, k < n → PO σ K L (rfN r0 r1) d0 k) → lo < hi → -99 ≤ lo → hi ≤ 99 → (∀ c τ, AgX plP (fun _ => False) σ τ → PU τ K U → (¬ k = 0 → gI τ 70 7 = gI σ 70 7) → AB lo hi (gRm K L n r0 r1 m0 m1 d0 m k U).1 c → Bd8 c → (k = 0 → lo = -99 → hi = 99 → 0 < m → gI τ 70 7 = nI (gRm K L n r0 r1 m0 m1 d0 m k U).2) → post c τ) → w_Morn_play_d T fuel σ (nI k) lo hi post := by
  have ha8 := hI.a
  have hrf : ∀ k, rfN r0 r1 k < nR K := by intro k; unfold rfN; split <;> assumption
  have hp8 := pow8 ha8.2
  have e0 := bits_of h0 (show nA K ≤ 16 by omega)
  have e1 := bits_of h1 (show nA K ≤ 16 by omega)
  intro m
  induction m with
  | zero =>
    intro k fuel U lo hi σ post hk hf hS hp hpu hU hpo hlh hlo hhi kk
    cases fuel with
    | zero => omega
    | succ fuel =>
      show w_Morn_play_o T (w_Morn_playMove_o T (w_Morn_play_d T fuel)) σ (nI k) lo hi post
      unfold w_Morn_play_o
      rw [hp.2.2.1, nI_ltI (by omega) (by omega)]
      refine ⟨fun z => by omega, fun _ => ?_⟩
      refine s_heldEnd hS hp hpu hU hn hd0 ?_
      have bc : ∀ (p : Nat → Bool) (post' : Int32 → DD → Prop), post' (nI (cntB p (nA K))) σ → w_J6_bitCount_0f7a4 T σ (bits p (nA K)) post' := by
        intro p post' hh
        have hlt := bitsN_lt p (nA K)
        rw [bits_N _ _ (by omega)]
        refine s_bitCount (by omega) ?_
        rw [← bits_N _ _ (by omega), ones_cnt _ ha8.2]
        exact hh
      rw [hp.1, e0, bits_and _ _ (by omega)]
      refine bc _ _ ?_
      rw [hp.2.1, e1, bits_and _ _ (by omega)]
      refine bc _ _ ?_
      have hl : leafV n (nA K) d0 (bOf (nI m0)) (bOf (nI m1)) U = nI (cntB (fun i => hE n d0 U i && bOf (nI m0) i) (nA K)) - nI (cntB (fun i => hE n d0 U i && bOf (nI m1) i) (nA K)) := rfl
      rw [← hl]
      have hb := leafV_bd n (nA K) d0 (bOf (nI m0)) (bOf (nI m1)) ha8.2 U
      refine kk _ σ (AgX.refl σ) hpu (fun _ => rfl) ?_ hb (by omega)
      rw [gRm_0]
      refine ⟨fun _ _ => rfl, fun _ => ?_, fun _ => ?_⟩ <;> exact Int32.le_refl _
  | succ m ihm =>
    intro k fuel U lo hi σ post hk hf hS hp hpu hU hpo hlh hlo hhi kk
    cases fuel with
    | zero => omega
    | succ fuel =>
      show w_Morn_play_o T (w_Morn_playMove_o T (w_Morn_play_d T fuel)) σ (nI k) lo hi post
      have hbd := gmR_bd n (nA K) d0 (fun k a => canB K L a (rfN r0 r1 k) (d0 + k)) (fun k a => lasN K a (rfN r0 r1 k) ((d0 + k) % 7)) (ndF K) (bOf (nI m0)) (bOf (nI m1)) ha8.2
      have sub : ∀ υ', AgX plP (fun _ => False) σ υ' → XS υ' T K L ∧ PL υ' K n m0 m1 d0 ∧ ∀ k, k < n → PO υ' K L (rfN r0 r1) d0 k := by
        intro υ' a
        refine ⟨hS.ag a (by unfold plP; omega) (by unfold plP; omega) (by unfold plP; omega) (by unfold plP; omega), ?_, ?_⟩
        · unfold PL; rw [a.i 70 8 (by unfold plP; omega), a.i 70 9 (by unfold plP; omega), a.i 70 10 (by unfold plP; omega), a.i 70 11 (by unfold plP; omega)]; exact hp
        · intro k' hk'
          unfold PO
          rw [a.row 74 (by unfold plP; omega), a.row 75 (by unfold plP; omega)]
          exact hpo k' hk'
      unfold w_Morn_play_o
      rw [hp.2.2.1, nI_ltI (by omega) (by omega)]
      refine ⟨fun _ => ?_, fun z => by omega⟩
      have main : ∀ t0 : Int32, t0 = bl (mxB k) → w_Morn_play_j47 T (w_Morn_playMove_o T (w_Morn_play_d T fuel)) post σ (nI k) lo hi t0 := by
        intro t0 ht0
        have lp : ∀ b0 : Int32, b0 = (if mxB k then -99 else 99) → w_Morn_play_j61 T (w_Morn_playMove_o T (w_Morn_play_d T fuel)) post σ (nI k) lo hi t0 b0 := by
          intro b0 hb0
          unfold w_Morn_play_j61 w_Morn_play_l66
          refine LoopN (fun c y => ∃ i acc, c = nA K + 1 - i ∧ i ≤ nA K + 1 ∧ AgX plP (fun _ => False) σ y.1 ∧ PU y.1 K U ∧ (¬ k = 0 → gI y.1 70 7 = gI σ 70 7) ∧ y.2.2.2.2 = nI i ∧ ABI (mxB k) lo hi acc y.2.2.2.1 y.2.1 y.2.2.1 ∧ (k = 0 → lo = -99 → hi = 99 → ∀ V q, acc = some (V, q) → gI y.1 70 7 = nI q) ∧ ((i ≤ nA K ∧ acc = gSm K L n r0 r1 m0 m1 d0 m k U i) ∨ (i = nA K + 1 ∧ acc = some (gRm K L n r0 r1 m0 m1 d0 (m + 1) k U)))) ?_ (n := nA K + 1) ⟨0, none, rfl, Nat.zero_le _, AgX.refl σ, hpu, fun _ => rfl, rfl, Or.inl ⟨rfl, hb0, rfl, rfl⟩, by simp, Or.inl ⟨Nat.zero_le _, rfl⟩⟩
          rintro c ⟨υ, low, high, best, a6⟩ KK ⟨i, acc, hc, hi', agu, hpuu, g7, e6, hab, hroot, hacc⟩ ih
          simp only [] at agu hpuu g7 e6 hab hroot hacc ⊢
          subst e6
          obtain ⟨hSu, hpl, hpou⟩ := sub υ agu
          unfold w_Morn_play_b66
          rw [hSu.1.1.na, ha8.1, nI_ltI (by omega) (by omega), nI_leI (by omega) (by omega)]
          have fin : ∀ V q, acc = some (V, q) → AB lo hi V best ∧ Bd8 best := by
            intro V q hq
            rcases hab with ⟨x1, -⟩ | ⟨V', q', x1, x2, x3, x4⟩
            · rw [hq] at x1; simp at x1
            · rw [hq] at x1; simp at x1; rw [x1.1]; exact ⟨x4, x2⟩
          refine ⟨fun z => ?_, fun z => ⟨fun z2 => ?_, fun z2 => ?_⟩⟩
          · rcases hacc with ⟨w, -⟩ | ⟨w1, w2⟩
            · omega
            · have hf2 := fin _ _ w2
              exact kk best υ agu hpuu g7 hf2.1 hf2.2 (fun q1 q2 q3 _ => hroot q1 q2 q3 _ _ w2)
          · -- cut
            rcases hab with ⟨x1, x2, x3, x4⟩ | ⟨V, q, x1, x2, x3, x4⟩
            · exfalso; rw [x3, x4] at z2; grind
            · have hfull : ∃ V' q', gRm K L n r0 r1 m0 m1 d0 (m + 1) k U = (V', q') ∧ (if mxB k then V ≤ V' else V' ≤ V) := by
                rcases hacc with ⟨w1, w2⟩ | ⟨w1, w2⟩
                · rw [x1] at w2
                  obtain ⟨V1, q1, e1', o1⟩ := gSm_mono (nA K - i) i V q w2.symm
                  rw [show i + (nA K - i) = nA K from by omega] at e1'
                  rw [gRm_S, e1']
                  obtain ⟨V2, q2, e2, o2⟩ := gmF_mono (mx := mxB k) (V := V1) (q := q1) (v := (gRm K L n r0 r1 m0 m1 d0 m (k + 1) U).1) (a := 100)
                  rw [e2]
                  exact ⟨V2, q2, rfl, ord_trans o1 o2⟩
                · rw [x1] at w2
                  injection w2 with w2
                  exact ⟨V, q, w2.symm, by cases mxB k <;> simp⟩
              obtain ⟨V', q', eg, hord⟩ := hfull
              refine kk best υ agu hpuu g7 ?_ x2 ?_
              · rw [eg]
                unfold AB at x4 ⊢
                unfold Bd8 at x2
                cases hm : mxB k with
                | true =>
                  rw [hm] at x3 hord
                  simp only [if_true] at x3 hord
                  unfold jmax at x3
                  grind
                | false =>
                  rw [hm] at x3 hord
                  simp only [Bool.false_eq_true, if_false] at x3 hord
                  unfold jmin at x3
                  grind
              · intro q1 q2 q3 _
                exfalso
                subst q1
                have hm : mxB 0 = true := rfl
                rw [hm] at x3
                simp only [if_true] at x3
                unfold Bd8 at x2
                unfold jmax at x3
                grind
          · have hlow : low < high := by grind
            have hnot : i ≤ nA K ∧ acc = gSm K L n r0 r1 m0 m1 d0 m k U i := by
              rcases hacc with w | ⟨w1, -⟩
              · exact w
              · omega
            -- after a move's worth is known
            have after : ∀ (υ2 : DD) (v c : Int32) (q : Nat) (t : Int32) (b7 : Bool), AgX plP (fun _ => False) υ υ2 → PU υ2 K U → gI υ2 70 7 = gI υ 70 7 → AB low high v c → Bd8 c → t = bl b7 → nI q = (if b7 then nI i else 100) → ((i < nA K ∧ gmF (mxB k) acc v q = gSm K L n r0 r1 m0 m1 d0 m k U (i + 1)) ∨ (i = nA K ∧ gmF (mxB k) acc v q = some (gRm K L n r0 r1 m0 m1 d0 (m + 1) k U))) → (t0 = 0 → (best ≤ c → w_Morn_play_j186 T (w_Morn_playMove_o T (w_Morn_play_d T fuel)) (fun σ a2 a3 a5 a6 => KK (σ, a2, a3, a5, a6)) post υ2 (nI k) low high t0 best (nI i)) ∧ (¬ best ≤ c → w_Morn_play_j162 T (w_Morn_playMove_o T (w_Morn_play_d T fuel)) (fun σ a2 a3 a5 a6 => KK (σ, a2, a3, a5, a6)) post υ2 (nI k) low high t0 (nI i) t c)) ∧ (¬ t0 = 0 → (c ≤ best → w_Morn_play_j186 T (w_Morn_playMove_o T (w_Morn_play_d T fuel)) (fun σ a2 a3 a5 a6 => KK (σ, a2, a3, a5, a6)) post υ2 (nI k) low high t0 best (nI i)) ∧ (¬ c ≤ best → w_Morn_play_j162 T (w_Morn_playMove_o T (w_Morn_play_d T fuel)) (fun σ a2 a3 a5 a6 => KK (σ, a2, a3, a5, a6)) post υ2 (nI k) low high t0 (nI i) t c)) := by
              intro υ2 v c q t b7 ag2 hpu2 h72 hab2 hc8 ht hq hnx
              have step := fun b' hb' => AB_step (a := q) hab hlow hlh hlo hhi hab2 hc8 b' hb'
              have j186 : ∀ (υ3 : DD) (b' : Int32), AgX plP (fun _ => False) υ υ3 → PU υ3 K U → (¬ k = 0 → gI υ3 70 7 = gI σ 70 7) → b' = (if (if mxB k then best < c else c < best) then c else best) → (k = 0 → lo = -99 → hi = 99 → ∀ V q', gmF (mxB k) acc v q = some (V, q') → gI υ3 70 7 = nI q') → w_Morn_play_j186 T (w_Morn_playMove_o T (w_Morn_play_d T fuel)) (fun σ a2 a3 a5 a6 => KK (σ, a2, a3, a5, a6)) post υ3 (nI k) low high t0 b' (nI i) := by
                intro υ3 b' ag3 hpu3 h73 hb' hroot3
                have st := step b' hb'
                have nx : ∀ l h : Int32, l = (if mxB k then jmax low b' else low) → h = (if mxB k then high else jmin high b') → KK (υ3, l, h, b', nI i + 1) := by
                  intro l h hl hh
                  rw [nI_1]
                  refine ih (nA K + 1 - (i + 1)) _ (by omega) ⟨i + 1, gmF (mxB k) acc v q, rfl, by omega, agu.trans ag3, hpu3, h73, rfl, ?_, hroot3, ?_⟩
                  · simp only []; rw [hl, hh]; exact st
                  · rcases hnx with ⟨w1, w2⟩ | ⟨w1, w2⟩
                    · left; exact ⟨by omega, w2⟩
                    · right; exact ⟨by omega, w2⟩
                unfold w_Morn_play_j186 w_Morn_play_j201 w_Morn_play_j217
                rw [ht0]
                refine br0 (fun hb => br0 (fun _ => nx _ _ ?_ ?_) (fun hb2 => by rw [hb] at hb2; exact absurd hb2 (by decide))) (fun hb => br0 (fun hb2 => by rw [hb] at hb2; exact absurd hb2 (by decide)) (fun _ => nx _ _ ?_ ?_))
                · rw [hb]; rfl
                · rw [hb]; rfl
                · rw [hb]; rfl
                · rw [hb]; rfl
              have j162 : (if mxB k then best < c else c < best) → w_Morn_play_j162 T (w_Morn_playMove_o T (w_Morn_play_d T fuel)) (fun σ a2 a3 a5 a6 => KK (σ, a2, a3, a5, a6)) post υ2 (nI k) low high t0 (nI i) t c := by
                intro hbetter
                have hb' : c = (if (if mxB k then best < c else c < best) then c else best) := by rw [if_pos hbetter]
                unfold w_Morn_play_j162 w_Morn_play_j183
                rw [ht, show (0 : Int32) = nI 0 from rfl, nI_eq (by omega) (by decide)]
                have set7 : ∀ x : Int32, x = nI q → k = 0 → ∀ σ3, σ3 = sI υ2 70 7 x → w_Morn_play_j186 T (w_Morn_playMove_o T (w_Morn_play_d T fuel)) (fun σ a2 a3 a5 a6 => KK (σ, a2, a3, a5, a6)) post σ3 (nI k) low high t0 c (nI i) := by
                  intro x hx hk0 σ3 e3
                  refine j186 σ3 c ?_ ?_ (fun h => absurd hk0 h) hb' ?_
                  · subst e3; exact ag2.set (Or.inr ⟨rfl, rfl⟩)
                  · subst e3; intro a ha; rw [gI_sI, if_neg (by omega)]; exact hpu2 a ha
                  · intro q1 q2 q3 V q' hg
                    subst e3
                    rw [gI_same, hx]
                    subst q2; subst q3
                    subst hk0
                    have hm : mxB 0 = true := rfl
                    rw [hm] at hab hg hbetter
                    rw [AB_root (a := q) hab hab2 hc8] at hg
                    simp only [if_true] at hbetter
                    rw [if_pos hbetter] at hg
                    injection hg with hg
                    injection hg with _ hg
                    rw [hg]
                refine ⟨fun hk0 => j186 υ2 c ag2 hpu2 (fun h => by rw [h72]; exact g7 h) hb' (fun h => absurd h hk0), fun hk0 => ?_⟩
                refine br0 (fun hb7 => set7 100 ?_ hk0) (fun hb7 => set7 (nI i) ?_ hk0)
                · rw [hq, hb7]; rfl
                · rw [hq, hb7]; rfl
              have keep : ¬ (if mxB k then best < c else c < best) → w_Morn_play_j186 T (w_Morn_playMove_o T (w_Morn_play_d T fuel)) (fun σ a2 a3 a5 a6 => KK (σ, a2, a3, a5, a6)) post υ2 (nI k) low high t0 best (nI i) := by
                intro hno
                refine j186 υ2 best ag2 hpu2 (fun h => by rw [h72]; exact g7 h) (by rw [if_neg hno]) ?_
                intro q1 q2 q3 V q' hg
                subst q1; subst q2; subst q3
                have hm : mxB 0 = true := rfl
                rw [hm] at hab hg hno
                rw [AB_root (a := q) hab hab2 hc8] at hg
                simp only [if_true] at hno
                rw [if_neg hno] at hg
                rw [h72]; exact hroot rfl rfl rfl V q' hg
              rw [ht0]
              refine br0 (fun hb => ?_) (fun hb => ?_)
              · rw [hb] at keep j162
                simp only [Bool.false_eq_true, if_false] at keep j162
                rw [ht0, hb] at keep j162
                rw [hb]
                exact ⟨fun w => keep (by grind), fun w => j162 (by grind)⟩
              · rw [hb] at keep j162
                simp only [if_true] at keep j162
                rw [ht0, hb] at keep j162
                rw [hb]
                exact ⟨fun w => keep (by grind), fun w => j162 (by grind)⟩
            have hll : -99 ≤ low ∧ high ≤ 99 := by
              rcases hab with ⟨x1, x2, x3, x4⟩ | ⟨V, q, x1, x2, x3, x4⟩
              · rw [x3, x4]; exact ⟨hlo, hhi⟩
              · unfold Bd8 at x2
                cases hm : mxB k with
                | true => rw [hm] at x3; simp only [if_true] at x3; unfold jmax at x3; grind
                | false => rw [hm] at x3; simp only [Bool.false_eq_true, if_false] at x3; unfold jmin at x3; grind
            unfold w_Morn_play_j100 w_Morn_play_j120 w_Morn_play_j133 w_Morn_playMove_o
            refine ⟨fun w => ?_, fun w => ?_⟩
            · have hie : i = nA K := by omega
              refine ⟨fun _ => ⟨fun _ => ⟨fun z3 => absurd rfl z3, fun _ => ?_⟩, fun z3 => absurd rfl z3⟩, fun z3 => absurd rfl z3⟩
              rw [nI_1]
              refine ihm (k + 1) fuel U low high υ _ (by omega) (by omega) hSu hpl hpuu hU hpou hlow hll.1 hll.2 ?_
              intro c υ2 ag2 hpu2 h72 hab2 hc8 _
              refine after υ2 _ c 100 0 false ag2 hpu2 (h72 (by omega)) hab2 hc8 rfl rfl (Or.inr ⟨hie, ?_⟩)
              have hg : gmF (mxB k) acc (gRm K L n r0 r1 m0 m1 d0 m (k + 1) U).1 100 = some ((gmF (mxB k) acc (gRm K L n r0 r1 m0 m1 d0 m (k + 1) U).1 100).getD (0, 100)) := by
                have sbd := gmS_bd n (nA K) d0 (fun k a => canB K L a (rfN r0 r1 k) (d0 + k)) (fun k a => lasN K a (rfN r0 r1 k) ((d0 + k) % 7)) (ndF K) (bOf (nI m0)) (bOf (nI m1)) m k U (fun U' => hbd m (k + 1) U') i
                obtain ⟨b2, c2, e2, -⟩ := gmF_bd (mx := mxB k) (a := 100) sbd (hbd m (k + 1) U)
                rw [hnot.2, e2]; rfl
              rw [gRm_S, ← hie, ← hnot.2]; exact hg
            · refine ⟨fun z3 => absurd z3 (by decide), fun _ => ?_⟩
              refine s_PcanRead hSu hpl hpuu hU (hpou k (by omega)) (by omega) hd0 (by omega) ?_
              refine br1 (fun hok => ?_) (fun hok => ?_)
              · refine ⟨fun z3 => absurd z3 (by decide), fun _ => ⟨fun _ => ?_, fun z3 => absurd z3 (nI_m1 (by omega))⟩⟩
                have hin8 : vp_in (nI i) 8 := vp_in_nI (by omega) (by decide)
                have e75 : (nI k * 8) + nI i = nI (8 * k + i) := by
                  rw [show (8 : Int32) = nI 8 from rfl, pk_mul, nI_add]; congr 1; omega
                have hla := (lasN_e hI (r := rfN r0 r1 k) (w := (d0 + k) % 7) (show i < nA K by omega)).2
                rw [nI_clamp (n := i) (by omega), e75, nI_clamp (by omega), (hpou k (by omega)).2 i (by omega), hpl.2.2.2, nI_add, nI_add, nI_1]
                refine ⟨hin8, fun v3 e3 => ⟨vp_in_nI (by omega) (by decide), hin8, fun σ6 e6 => ?_⟩⟩
                have ag6 : AgX plP (fun _ => False) υ σ6 := by subst e6; exact AgX.put (Or.inl rfl)
                obtain ⟨q1, q2, q3⟩ := sub σ6 (agu.trans ag6)
                refine ihm (k + 1) fuel (upU U i (d0 + k + lasN K i (rfN r0 r1 k) ((d0 + k) % 7))) low high σ6 _ (by omega) (by omega) q1 q2 ?_ ?_ q3 hlow hll.1 hll.2 ?_
                · intro a ha
                  subst e6
                  rw [gI_sI]
                  unfold upU
                  by_cases hai : a = i
                  · rw [if_pos ⟨rfl, hai⟩, if_pos hai]
                  · rw [if_neg (fun x => hai x.2), if_neg hai]; exact hpuu a ha
                · intro a; unfold upU; split
                  · omega
                  · exact hU a
                · intro c υ2 ag2 hpu2 h72 hab2 hc8 _
                  refine ⟨hin8, fun σ11 e11 => ?_⟩
                  have hv3 : v3 = nI (U i) := by rw [e3]; exact hpuu i (by omega)
                  refine after σ11 _ c i 1 true (ag6.trans (ag2.trans ?_)) ?_ ?_ hab2 hc8 rfl rfl (Or.inl ⟨by omega, ?_⟩)
                  · subst e11; exact AgX.put (Or.inl rfl)
                  · intro a ha
                    subst e11
                    rw [gI_sI]
                    by_cases hai : a = i
                    · rw [if_pos ⟨rfl, hai⟩, hv3, hai]
                    · rw [if_neg (fun x => hai x.2), hpu2 a ha]; unfold upU; rw [if_neg hai]
                  · subst e11; rw [gI_sI, if_neg (by omega), h72 (by omega)]
                    subst e6; rw [gI_sI, if_neg (by omega)]
                  · rw [gSm_succ, if_pos hok, ← hnot.2]
              · rw [nI_1]
                refine ih (nA K + 1 - (i + 1)) _ (by omega) ⟨i + 1, acc, rfl, by omega, agu, hpuu, g7, rfl, hab, hroot, Or.inl ⟨by omega, ?_⟩⟩
                rw [gSm_succ, if_neg (fun h => by rw [show okm K L r0 r1 d0 k i U = false from hok] at h; exact absurd h (by decide))]; exact hnot.2
        unfold w_Morn_play_j47
        rw [ht0]
        rw [ht0] at lp
        exact br0 (fun hb => lp 99 (by rw [hb]; rfl)) (fun hb => lp (-99) (by rw [hb]; rfl))
      refine ⟨fun z => main 0 ?_, fun z => main 1 ?_⟩
      · have : mxB k = false := by
          cases h : mxB k with
          | false => rfl
          | true => exact absurd ((jrem2 (by omega)).2 h) z
        rw [this]; rfl
      · rw [(jrem2 (by omega)).1 z]; rfl
end GX
