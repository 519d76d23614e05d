/-! ===== the game ===== -/
section GA
variable (n N t0 : Nat) (op : Nat → Nat → Bool) (la : Nat → Nat → Nat) (nd : Nat → Option Nat) (mi th : Nat → Bool)
def leafV (U : Nat → Nat) : Int32 := nI (cntB (fun a => hE n t0 U a && mi a) N) - nI (cntB (fun a => hE n t0 U a && th a) N)
def gmF (mx : Bool) (acc : Option (Int32 × Nat)) (v : Int32) (a : Nat) : Option (Int32 × Nat) := match acc with
  | none => some (v, a)
  | some (b, c) => if (if mx then b < v else v < b) then some (v, a) else some (b, c)
def mxB (k : Nat) : Bool := decide (k % 2 = 0)
def gmR : Nat → Nat → (Nat → Nat) → Int32 × Nat
  | 0, _, U => (leafV n N t0 mi th U, 100)
  | m + 1, k, U => (gmF (mxB k) ((List.range N).foldl (fun acc a => if okR t0 op nd k a U then gmF (mxB k) acc (gmR m (k + 1) (upU U a (t0 + k + la k a))).1 a else acc) none) (gmR m (k + 1) U).1 100).getD (0, 100)
def gmS (m k : Nat) (U : Nat → Nat) (i : Nat) : Option (Int32 × Nat) := (List.range i).foldl (fun acc a => if okR t0 op nd k a U then gmF (mxB k) acc (gmR n N t0 op la nd mi th m (k + 1) (upU U a (t0 + k + la k a))).1 a else acc) none
theorem gmS_succ (m k : Nat) (U : Nat → Nat) (i : Nat) : gmS n N t0 op la nd mi th m k U (i + 1) = if okR t0 op nd k i U then gmF (mxB k) (gmS n N t0 op la nd mi th m k U i) (gmR n N t0 op la nd mi th m (k + 1) (upU U i (t0 + k + la k i))).1 i else gmS n N t0 op la nd mi th m k U i := by
  unfold gmS; rw [List.range_succ, List.foldl_append]; rfl
theorem gmR_S (m k : Nat) (U : Nat → Nat) : gmR n N t0 op la nd mi th (m + 1) k U = (gmF (mxB k) (gmS n N t0 op la nd mi th m k U N) (gmR n N t0 op la nd mi th m (k + 1) U).1 100).getD (0, 100) := rfl
def Bd8 (v : Int32) : Prop := -8 ≤ v ∧ v ≤ 8
theorem gmF_bd {mx : Bool} {acc : Option (Int32 × Nat)} {v : Int32} {a : Nat} (h : ∀ b c, acc = some (b, c) → Bd8 b) (hv : Bd8 v) : ∃ b c, gmF mx acc v a = some (b, c) ∧ Bd8 b := by
  unfold gmF
  cases acc with
  | none => exact ⟨v, a, rfl, hv⟩
  | some x =>
    obtain ⟨b, c⟩ := x
    simp only []
    by_cases hq : (if mx = true then b < v else v < b)
    · rw [if_pos hq]; exact ⟨v, a, rfl, hv⟩
    · rw [if_neg hq]; exact ⟨b, c, rfl, h b c rfl⟩
theorem n1000 {b : Int32} (h : Bd8 b) : ¬ b = -1000 := by
  intro e
  rw [e] at h
  exact absurd h.1 (by decide)
theorem nI_in8 {a : Nat} (h : a ≤ 8) : 0 ≤ nI a ∧ nI a ≤ 8 := ⟨nI_pos' (by omega), by rw [show (8 : Int32) = nI 8 from rfl]; exact nI_le h (by decide)⟩
theorem leafV_bd (hN : N ≤ 8) (U : Nat → Nat) : Bd8 (leafV n N t0 mi th U) := by
  unfold leafV
  have h1 := nI_in8 (Nat.le_trans (cntB_le (p := fun a => hE n t0 U a && mi a) N) hN)
  have h2 := nI_in8 (Nat.le_trans (cntB_le (p := fun a => hE n t0 U a && th a) N) hN)
  generalize nI (cntB (fun a => hE n t0 U a && mi a) N) = x at h1
  generalize nI (cntB (fun a => hE n t0 U a && th a) N) = y at h2
  unfold Bd8
  grind
theorem gmS_bd (m k : Nat) (U : Nat → Nat) (h : ∀ U', Bd8 (gmR n N t0 op la nd mi th m (k + 1) U').1) : ∀ i b c, gmS n N t0 op la nd mi th m k U i = some (b, c) → Bd8 b := by
  intro i
  induction i with
  | zero => intro b c hh; simp [gmS] at hh
  | succ i ih =>
    intro b c hh
    rw [gmS_succ] at hh
    split at hh
    · obtain ⟨b', c', e, hb⟩ := gmF_bd (mx := mxB k) (a := i) ih (h (upU U i (t0 + k + la k i)))
      rw [e] at hh
      injection hh with hh
      injection hh with hh _
      rw [← hh]; exact hb
    · exact ih b c hh
theorem gmR_bd (hN : N ≤ 8) : ∀ m k U, Bd8 (gmR n N t0 op la nd mi th m k U).1 := by
  intro m
  induction m with
  | zero => intro k U; exact leafV_bd n N t0 mi th hN U
  | succ m ih =>
    intro k U
    rw [gmR_S]
    obtain ⟨b, c, e, hb⟩ := gmF_bd (mx := mxB k) (a := 100) (gmS_bd n N t0 op la nd mi th m k U (ih (k + 1)) N) (ih (k + 1) U)
    rw [e]; exact hb
end GA
section GM
variable {σ τ : DD} {K : Nat → Int32} {L : List RD}
def gP (o p : Nat) : Prop := qP o p ∨ (o = 0 ∧ p = 37) ∨ lgP o p
theorem qP_g {o p : Nat} (h : qP o p) : gP o p := Or.inl h
theorem lgP_g {o p : Nat} (h : lgP o p) : gP o p := Or.inr (Or.inr h)
def rfN (r0 r1 k : Nat) : Nat := if k % 2 = 0 then r0 else r1
theorem rfN_2 (r0 r1 k : Nat) : rfN r0 r1 (k + 2) = rfN r0 r1 k := by unfold rfN; rw [show (k + 2) % 2 = k % 2 from by omega]
abbrev gRm (K : Nat → Int32) (L : List RD) (n r0 r1 m0 m1 d0 : Nat) : Nat → Nat → (Nat → Nat) → Int32 × Nat := gmR n (nA K) d0 (fun k a => canB K L a (rfN r0 r1 k) (d0 + k)) (fun k a => lasN K a (rfN r0 r1 k) ((d0 + k) % 7)) (ndF K) (bOf (nI m0)) (bOf (nI m1))
abbrev gSm (K : Nat → Int32) (L : List RD) (n r0 r1 m0 m1 d0 : Nat) : Nat → Nat → (Nat → Nat) → Nat → Option (Int32 × Nat) := gmS n (nA K) d0 (fun k a => canB K L a (rfN r0 r1 k) (d0 + k)) (fun k a => lasN K a (rfN r0 r1 k) ((d0 + k) % 7)) (ndF K) (bOf (nI m0)) (bOf (nI m1))
abbrev okm (K : Nat → Int32) (L : List RD) (r0 r1 d0 k a : Nat) (U : Nat → Nat) : Bool := okR d0 (fun k a => canB K L a (rfN r0 r1 k) (d0 + k)) (ndF K) k a U
theorem gSm_succ (K : Nat → Int32) (L : List RD) (n r0 r1 m0 m1 d0 m k : Nat) (U : Nat → Nat) (i : Nat) : gSm K L n r0 r1 m0 m1 d0 m k U (i + 1) = if okm K L r0 r1 d0 k i U then gmF (mxB k) (gSm K L n r0 r1 m0 m1 d0 m k U i) (gRm K L n r0 r1 m0 m1 d0 m (k + 1) (upU U i (d0 + k + lasN K i (rfN r0 r1 k) ((d0 + k) % 7)))).1 i else gSm K L n r0 r1 m0 m1 d0 m k U i := gmS_succ _ _ _ _ _ _ _ _ m k U i
theorem gRm_S (K : Nat → Int32) (L : List RD) (n r0 r1 m0 m1 d0 m k : Nat) (U : Nat → Nat) : gRm K L n r0 r1 m0 m1 d0 (m + 1) k U = (gmF (mxB k) (gSm K L n r0 r1 m0 m1 d0 m k U (nA K)) (gRm K L n r0 r1 m0 m1 d0 m (k + 1) U).1 100).getD (0, 100) := rfl
theorem gRm_0 (K : Nat → Int32) (L : List RD) (n r0 r1 m0 m1 d0 k : Nat) (U : Nat → Nat) : gRm K L n r0 r1 m0 m1 d0 0 k U = (leafV n (nA K) d0 (bOf (nI m0)) (bOf (nI m1)) U, 100) := gmR.eq_1 ..
theorem okR_congr {t0 k a : Nat} {op op' : Nat → Nat → Bool} {nd : Nat → Option Nat} {U : Nat → Nat} (h : op k a = op' k a) : okR t0 op nd k a U = okR t0 op' nd k a U := by
  unfold okR; rw [h]
theorem leaf_held (hI : KI K) {d0 n m0 m1 : Nat} (h : ∀ x, x ∈ L → x.2.2 ≤ d0 + n) (hd : d0 + n ≤ 1999) (h0 : m0 < 2 ^ nA K) (h1 : m1 < 2 ^ nA K) : ones8 (held K L (d0 + n) &&& nI m0) - ones8 (held K L (d0 + n) &&& nI m1) = leafV n (nA K) d0 (bOf (nI m0)) (bOf (nI m1)) (Ut K L) := by
  have ha8 := hI.a
  unfold held leafV
  have e0 := bits_of h0 (show nA K ≤ 16 by omega)
  have e1 := bits_of h1 (show nA K ≤ 16 by omega)
  generalize bOf (nI m0) = p at e0
  generalize bOf (nI m1) = q at e1
  rw [e0, e1, bits_and _ _ (by omega), bits_and _ _ (by omega), ones_cnt _ ha8.2, ones_cnt _ ha8.2]
  have hh : ∀ a, hold K L a (d0 + n) = hE n d0 (Ut K L) a := by
    intro a; rw [hold_unt, unt_U h hd]; rfl
  simp only [hh]
/-- the best so far, as the model keeps it -/
def bgI (acc : Option (Int32 × Nat)) (b g : Int32) : Prop := (acc = none ∧ b = -1000 ∧ g = 100) ∨ ∃ c, acc = some (b, c) ∧ g = nI c
theorem gm_pick {op : DD → Int32 → Int32 → Int32 → Int32 → Int32 → Int32 → (Int32 → DD → Prop) → Prop} {KK : DD → Int32 → Int32 → Int32 → Prop} {post : Int32 → DD → Prop} {υ2 : DD} {x1 x2 x3 x4 x5 x6 x7 t0 b g v : Int32} {i q N : Nat} {mx : Bool} {acc : Option (Int32 × Nat)} (h399 : gI υ2 4 399 = nI N) (hi : i ≤ N) (hN : N < 2 ^ 31) (hbg : bgI acc b g) (sbd : ∀ b c, acc = some (b, c) → Bd8 b) (ht0 : t0 = bl mx) (hq1 : i < N → q = i) (hq2 : i = N → q = 100) (hK : ∀ b' g', bgI (gmF mx acc v q) b' g' → KK υ2 b' g' (nI i + 1)) : w_M_plays_j174 op KK post υ2 x1 x2 x3 x4 x5 x6 x7 t0 b g (nI i) v := by
  have j207 : bgI (gmF mx acc v q) v (nI q) → w_M_plays_j207 op KK post υ2 x1 x2 x3 x4 x5 x6 x7 t0 (nI i) v := by
    intro hb
    unfold w_M_plays_j207 w_M_plays_j231
    rw [h399, nI_leI (by omega) (by omega)]
    refine ⟨fun w => ?_, fun w => ?_⟩
    · have := hq2 (by omega)
      rw [this] at hb hK
      exact hK v 100 hb
    · have := hq1 (by omega)
      rw [this] at hb hK
      exact hK v _ hb
  unfold w_M_plays_j174
  rcases hbg with ⟨x1, x2, x3⟩ | ⟨c0, x1, x2⟩
  · refine ⟨fun _ => j207 ?_, fun w => absurd x2 w⟩
    rw [x1]; exact Or.inr ⟨q, rfl, rfl⟩
  · have hbn : ¬ b = -1000 := n1000 (sbd b c0 x1)
    refine ⟨fun w => absurd w hbn, fun _ => ⟨fun w => ⟨fun w2 => j207 ?_, fun w2 => hK b g ?_⟩, fun w => ⟨fun w2 => j207 ?_, fun w2 => hK b g ?_⟩⟩⟩
    · rw [ht0, bl_0] at w
      rw [x1]; unfold gmF; simp only [w, Bool.false_eq_true, if_false]; rw [if_pos w2]; exact Or.inr ⟨q, rfl, rfl⟩
    · rw [ht0, bl_0] at w
      rw [x1]; unfold gmF; simp only [w, Bool.false_eq_true, if_false]; rw [if_neg w2]; exact Or.inr ⟨c0, rfl, x2⟩
    · rw [ht0, bl_n] at w
      rw [x1]; unfold gmF; simp only [w, if_true]; rw [if_pos w2]; exact Or.inr ⟨q, rfl, rfl⟩
    · rw [ht0, bl_n] at w
      rw [x1]; unfold gmF; simp only [w, if_true]; rw [if_neg w2]; exact Or.inr ⟨c0, rfl, x2⟩
theorem jrem2 {k : Nat} (h : k < 2 ^ 31) : (jrem (nI k) 2 = 0) ↔ mxB k = true := by
  have : jrem (nI k) 2 = nI (k % 2) := by
    unfold jrem
    rw [show (2 : Int32) = nI 2 from rfl, pk_rem h (by decide) (by decide)]
  rw [this, show (0 : Int32) = nI 0 from rfl, nI_eq (by omega) (by decide)]
  unfold mxB
  simp
theorem s_plays (hI : KI K) {n r0 r1 m0 m1 d0 : Nat} (hr0 : r0 < nR K) (hr1 : r1 < nR K) (hn : n ≤ 5) (hd0 : d0 ≤ 999) (h0 : m0 < 2 ^ nA K) (h1 : m1 < 2 ^ nA K) (hLd : ∀ x, x ∈ L → x.2.2 ≤ d0) (hL24 : L.length ≤ 24) : ∀ m k fuel (P : List RD) (σ : DD) (post : Int32 → DD → Prop), k + m = n → m < fuel → P.length ≤ k → (∀ x, x ∈ P → d0 ≤ x.2.2 ∧ x.2.2 < d0 + k) → MS σ K (L ++ P) → gI σ 4 395 = nI d0 → (∀ τ, Ag gP σ τ → MS τ K (L ++ P) → (0 < m → gI τ 0 37 = nI (gRm K L n r0 r1 m0 m1 d0 m k (Ut K (L ++ P))).2) → post (gRm K L n r0 r1 m0 m1 d0 m k (Ut K (L ++ P))).1 τ) → w_M_plays_d fuel σ (nI k) (nI n) (nI m0) (nI m1) (nI (rfN r0 r1 k)) (nI (rfN r0 r1 (k + 1))) post := by
  have ha8 := hI.a
  have hrf : ∀ k, rfN r0 r1 k < nR K := by intro k; unfold rfN; split <;> assumption
  intro m
  induction m with
  | zero =>
    intro k fuel P σ post hk hf hPl hP hS hday kk
    cases fuel with
    | zero => omega
    | succ fuel =>
      show w_M_plays_o (w_M_plays_d fuel) σ (nI k) (nI n) (nI m0) (nI m1) (nI (rfN r0 r1 k)) (nI (rfN r0 r1 (k + 1))) post
      unfold w_M_plays_o
      have hkn : k = n := by omega
      subst hkn
      intro v21 e21
      rw [hday, nI_add] at e21
      subst e21
      have hdays : ∀ x, x ∈ L ++ P → x.2.2 ≤ d0 + k := by
        intro x hx
        rcases List.mem_append.1 hx with w | w
        · have := hLd x w; omega
        · have := hP x w; omega
      refine ⟨fun z => absurd rfl z, fun _ => ?_⟩
      refine s_heldOn hS (by omega) ?_
      intro τ ag hS1
      refine s_ones (s_heldOn hS1 (by omega) ?_)
      intro τ2 ag2 hS2
      refine s_ones ?_
      rw [leaf_held hI hdays (by omega) h0 h1]
      have k2 := kk τ2 ((ag.trans ag2).mono (fun o p => qP_g)) hS2 (by omega)
      rw [gRm_0] at k2
      exact k2
  | succ m ihm =>
    intro k fuel P σ post hk hf hPl hP hS hday kk
    cases fuel with
    | zero => omega
    | succ fuel =>
      show w_M_plays_o (w_M_plays_d fuel) σ (nI k) (nI n) (nI m0) (nI m1) (nI (rfN r0 r1 k)) (nI (rfN r0 r1 (k + 1))) post
      unfold w_M_plays_o
      intro v21 e21
      rw [hday, nI_add] at e21
      subst e21
      have hdays : ∀ x, x ∈ L ++ P → x.2.2 ≤ d0 + k := by
        intro x hx
        rcases List.mem_append.1 hx with w | w
        · have := hLd x w; omega
        · have := hP x w; omega
      have hlen : (L ++ P).length < 84 := by rw [List.length_append]; omega
      have hbd := gmR_bd n (nA K) d0 (fun k a => canB K L a (rfN r0 r1 k) (d0 + k)) (fun k a => lasN K a (rfN r0 r1 k) ((d0 + k) % 7)) (ndF K) (bOf (nI m0)) (bOf (nI m1)) ha8.2
      refine ⟨fun _ => ?_, fun z => by rw [nI_eq (by omega) (by omega)] at z; omega⟩
      have main : ∀ t0 : Int32, t0 = bl (mxB k) → w_M_plays_j53 (w_M_plays_d fuel) post σ (nI k) (nI n) (nI m0) (nI m1) (nI (rfN r0 r1 k)) (nI (rfN r0 r1 (k + 1))) (nI (d0 + k)) t0 := by
        intro t0 ht0
        unfold w_M_plays_j53 w_M_plays_l67
        refine LoopN (fun c y => ∃ i, c = nA K + 1 - i ∧ i ≤ nA K + 1 ∧ Ag gP σ y.1 ∧ MS y.1 K (L ++ P) ∧ y.2.2.2 = nI i ∧ ((i ≤ nA K ∧ bgI (gSm K L n r0 r1 m0 m1 d0 m k (Ut K (L ++ P)) i) y.2.1 y.2.2.1) ∨ (i = nA K + 1 ∧ y.2.1 = (gRm K L n r0 r1 m0 m1 d0 (m + 1) k (Ut K (L ++ P))).1 ∧ y.2.2.1 = nI (gRm K L n r0 r1 m0 m1 d0 (m + 1) k (Ut K (L ++ P))).2))) ?_ (n := nA K + 1) ⟨0, rfl, Nat.zero_le _, Ag.refl σ, hS, rfl, Or.inl ⟨Nat.zero_le _, Or.inl ⟨rfl, rfl, rfl⟩⟩⟩
        rintro c ⟨υ, b, g, a11⟩ KK ⟨i, hc, hi, agu, hSu, e11, hbg⟩ ih
        simp only [] at agu hSu e11 hbg ⊢
        subst e11
        unfold w_M_plays_b67
        have u399 : ∀ υ', MS υ' K (L ++ P) → gI υ' 4 399 = nI (nA K) := fun υ' h => by rw [h.1.1 399 (by unfold dyn; omega)]; exact ha8.1
        rw [u399 υ hSu, nI_ltI (by omega) (by omega), nI_leI (by omega) (by omega)]
        refine ⟨fun z σ15 e15 => ?_, fun z => ?_⟩
        · rcases hbg with ⟨w, -⟩ | ⟨-, w1, w2⟩
          · omega
          · subst e15
            rw [w1]
            refine kk _ (agu.set (Or.inr (Or.inl ⟨rfl, rfl⟩))) ?_ (fun _ => by rw [gI_same]; exact w2)
            exact ⟨⟨hSu.1.1.lg (P := fun o p => o = 0 ∧ p = 37) (Ag.put ⟨rfl, rfl⟩) (by omega), hSu.1.2.ag (P := fun o p => o = 0 ∧ p = 37) (Ag.put ⟨rfl, rfl⟩) (by omega) (by omega) (by omega)⟩, hI, hSu.2.2.1.ag (P := fun o p => o = 0 ∧ p = 37) (Ag.put ⟨rfl, rfl⟩) (by omega), hSu.2.2.2⟩
        · have hbg1 : bgI (gSm K L n r0 r1 m0 m1 d0 m k (Ut K (L ++ P)) i) b g := by
            rcases hbg with ⟨-, w⟩ | ⟨w, -⟩
            · exact w
            · omega
          have sbd := gmS_bd n (nA K) d0 (fun k a => canB K L a (rfN r0 r1 k) (d0 + k)) (fun k a => lasN K a (rfN r0 r1 k) ((d0 + k) % 7)) (ndF K) (bOf (nI m0)) (bOf (nI m1)) m k (Ut K (L ++ P)) (fun U' => hbd m (k + 1) U') i
          have pick : ∀ (υ2 : DD) (v : Int32) (q : Nat), Ag gP σ υ2 → MS υ2 K (L ++ P) → (i < nA K → q = i) → (i = nA K → q = 100) → (∀ b' g', bgI (gmF (mxB k) (gSm K L n r0 r1 m0 m1 d0 m k (Ut K (L ++ P)) i) v q) b' g' → KK (υ2, b', g', nI i + 1)) → Bd8 v → w_M_plays_j174 (w_M_plays_d fuel) (fun σ a9 a10 a11 => KK (σ, a9, a10, a11)) post υ2 (nI k) (nI n) (nI m0) (nI m1) (nI (rfN r0 r1 k)) (nI (rfN r0 r1 (k + 1))) (nI (d0 + k)) t0 b g (nI i) v := fun υ2 v q _ hS2 hq1 hq2 hK hv => gm_pick (u399 υ2 hS2) (by omega) (by omega) hbg1 sbd ht0 hq1 hq2 hK
          have day : ∀ υ', Ag gP σ υ' → gI υ' 4 395 = nI d0 := fun υ' a => by rw [a.at 4 395 (by unfold gP qP lgP; omega)]; exact hday
          refine ⟨fun w => ?_, fun w => ?_⟩
          · have hie : i = nA K := by omega
            subst hie
            unfold w_M_plays_j109
            rw [u399 υ hSu]
            refine ⟨fun _ => ?_, fun w => absurd (nI_le (Nat.le_refl _) (by omega)) w⟩
            unfold w_M_plays_j132
            rw [nI_1, ← rfN_2 r0 r1 k]
            refine ihm (k + 1) fuel P υ _ (by omega) (by omega) (by omega) (fun x hx => by have := hP x hx; omega) hSu (day υ agu) ?_
            intro τ ag hSt _
            rw [rfN_2, u399 τ hSt]
            refine ⟨fun _ => ?_, fun w => absurd (nI_le (Nat.le_refl _) (by omega)) w⟩
            refine pick τ _ 100 (agu.trans ag) hSt (by omega) (fun _ => rfl) ?_ (hbd _ _ _)
            intro b' g' hb'
            rw [nI_1]
            refine ih 0 _ (by omega) ⟨nA K + 1, by omega, Nat.le_refl _, agu.trans ag, hSt, rfl, Or.inr ⟨rfl, ?_⟩⟩
            rw [gRm_S]
            rcases hb' with ⟨y1, -⟩ | ⟨c1, y1, y2⟩
            · exfalso
              obtain ⟨b2, c2, e2, -⟩ := gmF_bd (mx := mxB k) (a := 100) sbd (hbd m (k + 1) (Ut K (L ++ P)))
              rw [e2] at y1; simp at y1
            · rw [y1]; exact ⟨rfl, y2⟩
          · refine s_canRead hSu (by omega) (hrf k) (by omega) ?_
            intro υ1 ag1 hS1
            have agm := ag1.mono (fun o p => qP_g)
            have hok : can K (L ++ P) i (rfN r0 r1 k) (d0 + k) = okm K L r0 r1 d0 k i (Ut K (L ++ P)) := (ok_can hI (L := L) (P := P) (a := i) (r := rfN r0 r1 k) (d0 := d0) (k := k) (by omega) hLd (fun x hx => (hP x hx).2) (by omega)).trans (okR_congr rfl)
            refine br1 (fun hb => ?_) (fun hb => ?_)
            · rw [hok] at hb
              unfold w_M_plays_j109
              rw [u399 υ1 hS1]
              refine ⟨fun w2 => by rw [nI_leI (by omega) (by omega)] at w2; omega, fun _ => ?_⟩
              refine s_logs hS1 (by omega) (hrf k) (by omega) hlen ?_
              intro υ2 ag2 hS2
              have agl := ag2.mono (fun o p => lgP_g)
              unfold w_M_plays_j132
              rw [nI_1, ← rfN_2 r0 r1 k]
              rw [List.append_assoc] at hS2
              refine ihm (k + 1) fuel (P ++ [(i, rfN r0 r1 k, d0 + k)]) υ2 _ (by omega) (by omega) (by simp; omega) ?_ hS2 (day υ2 (agu.trans (agm.trans agl))) ?_
              · intro x hx
                rcases List.mem_append.1 hx with w | w
                · have := hP x w; omega
                · simp at w; subst w; simp
              · intro τ ag hSt _
                have e1 : Ut K (L ++ (P ++ [(i, rfN r0 r1 k, d0 + k)])) = upU (Ut K (L ++ P)) i (d0 + k + lasN K i (rfN r0 r1 k) ((d0 + k) % 7)) := by
                  rw [← List.append_assoc]; exact U_snoc hdays (by omega)
                rw [rfN_2, e1]
                rw [← List.append_assoc] at hSt
                have t399 : gI τ 4 399 = nI (nA K) := by rw [hSt.1.1 399 (by unfold dyn; omega)]; exact ha8.1
                rw [t399, nI_leI (by omega) (by omega)]
                refine ⟨fun w2 => by omega, fun _ σ9 e9 => ?_⟩
                subst e9
                have agp : Ag gP τ (sI τ 4 401 (gI τ 4 401 - 1)) := Ag.put (lgP_g ⟨rfl, by omega⟩)
                have agT := agu.trans (agm.trans (agl.trans (ag.trans agp)))
                refine pick _ _ i agT hSt.pop (fun _ => rfl) (by omega) ?_ (hbd _ _ _)
                intro b' g' hb'
                rw [nI_1]
                refine ih (nA K + 1 - (i + 1)) _ (by omega) ⟨i + 1, rfl, by omega, agT, hSt.pop, rfl, Or.inl ⟨by omega, ?_⟩⟩
                rw [gSm_succ, if_pos hb]; exact hb'
            · rw [hok] at hb
              rw [nI_1]
              refine ih (nA K + 1 - (i + 1)) _ (by omega) ⟨i + 1, rfl, by omega, agu.trans agm, hS1, rfl, Or.inl ⟨by omega, ?_⟩⟩
              rw [gSm_succ, if_neg (by rw [hb]; simp)]; exact hbg1
      refine ⟨fun z => main 0 ?_, fun z => main 1 ?_⟩
      · have : mxB k = false := by
          cases h : mxB k with
          | false => rfl
          | true => exact absurd ((jrem2 (by omega)).2 h) z
        rw [this]; rfl
      · rw [(jrem2 (by omega)).1 z]; rfl
end GM
