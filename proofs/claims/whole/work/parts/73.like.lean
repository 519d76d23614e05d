/-! ===== how likely it still holds ===== -/
def sumN (f : Nat → Nat) : Nat → Nat
  | 0 => 0
  | n + 1 => sumN f n + f n
def ntN (c w : Bool) (r x : Nat) : Nat := if c then (if w then x * r / 10 else 0) else x
def isN (c w : Bool) (r x : Nat) : Nat := if c then (if w then x * (10 - r) / 10 else x) else 0
def stp (c w : Bool) (r la : Nat) (P : Nat → Nat) (j : Nat) : Nat := (if j < 99 then ntN c w r (P (j + 1)) else 0) + (if j + 1 = la then sumN (fun k => isN c w r (P k)) 100 else 0)
theorem sumN_le {f g : Nat → Nat} : ∀ n, (∀ k, k < n → f k ≤ g k) → sumN f n ≤ sumN g n := by
  intro n
  induction n with
  | zero => intro _; exact Nat.le_refl _
  | succ n ih => intro h; unfold sumN; have := ih (fun k hk => h k (by omega)); have := h n (by omega); omega
theorem sumN_add (f g : Nat → Nat) : ∀ n, sumN (fun k => f k + g k) n = sumN f n + sumN g n := by
  intro n
  induction n with
  | zero => rfl
  | succ n ih => unfold sumN; rw [ih]; omega
theorem sumN_congr {f g : Nat → Nat} : ∀ n, (∀ k, k < n → f k = g k) → sumN f n = sumN g n := by
  intro n
  induction n with
  | zero => intro _; rfl
  | succ n ih => intro h; unfold sumN; rw [ih (fun k hk => h k (by omega)), h n (by omega)]
theorem sumN_at (s la : Nat) : ∀ n, sumN (fun j => if j + 1 = la then s else 0) n ≤ (if la ≤ n ∧ 1 ≤ la then s else 0) := by
  intro n
  induction n with
  | zero => simp [sumN]
  | succ n ih =>
    unfold sumN
    by_cases h : n + 1 = la
    · rw [if_pos h]
      rw [if_neg (by omega)] at ih
      rw [if_pos (by omega)]; omega
    · rw [if_neg h]
      by_cases h2 : la ≤ n ∧ 1 ≤ la
      · rw [if_pos h2] at ih; rw [if_pos (by omega)]; omega
      · rw [if_neg h2] at ih; rw [if_neg (by omega)]; omega
theorem sumN_shift (f : Nat → Nat) : ∀ n, sumN (fun j => if j < n then f (j + 1) else 0) (n + 1) ≤ sumN f (n + 1) := by
  have key : ∀ n m, m ≤ n → sumN (fun j => if j < n then f (j + 1) else 0) m + f 0 = sumN f (m + 1) := by
    intro n m
    induction m with
    | zero => intro _; simp [sumN]
    | succ m ih =>
      intro h
      have := ih (by omega)
      rw [sumN, if_pos (by omega)]
      rw [sumN]
      omega
  intro n
  rw [sumN, if_neg (by omega)]
  have := key n n (Nat.le_refl _)
  omega
theorem nt_is (c w : Bool) {r x : Nat} (hr : r ≤ 10) : ntN c w r x + isN c w r x ≤ x := by
  unfold ntN isN
  cases c <;> cases w <;> simp
  have h1 : x * r / 10 * 10 ≤ x * r := Nat.div_mul_le_self _ _
  have h2 : x * (10 - r) / 10 * 10 ≤ x * (10 - r) := Nat.div_mul_le_self _ _
  have h3 : x * r + x * (10 - r) = x * 10 := by rw [← Nat.mul_add]; congr 1; omega
  omega
theorem stp_tot (c w : Bool) {r la : Nat} (hr : r ≤ 10) (P : Nat → Nat) : sumN (stp c w r la P) 100 ≤ sumN P 100 := by
  have e : sumN (stp c w r la P) 100 = sumN (fun j => if j < 99 then ntN c w r (P (j + 1)) else 0) 100 + sumN (fun j => if j + 1 = la then sumN (fun k => isN c w r (P k)) 100 else 0) 100 := sumN_add _ _ 100
  have h1 := sumN_shift (fun k => ntN c w r (P k)) 99
  have h2 := sumN_at (sumN (fun k => isN c w r (P k)) 100) la 100
  have h3 : sumN (fun k => ntN c w r (P k)) 100 + sumN (fun k => isN c w r (P k)) 100 ≤ sumN P 100 := by
    rw [← sumN_add]
    exact sumN_le 100 (fun k _ => nt_is c w hr)
  have h4 : (if la ≤ 100 ∧ 1 ≤ la then sumN (fun k => isN c w r (P k)) 100 else 0) ≤ sumN (fun k => isN c w r (P k)) 100 := by split <;> omega
  have h1' : sumN (fun j => if j < 99 then ntN c w r (P (j + 1)) else 0) 100 ≤ sumN (fun k => ntN c w r (P k)) 100 := h1
  omega
theorem sumN_ge (f : Nat → Nat) {k : Nat} : ∀ n, k < n → f k ≤ sumN f n := by
  intro n
  induction n with
  | zero => intro h; omega
  | succ n ih =>
    intro h
    unfold sumN
    by_cases hk : k = n
    · subst hk; omega
    · have := ih (by omega); omega
def stN (K : Nat → Int32) (L : List RD) (a d : Nat) : Nat := if d = 0 then 0 else unt K L a (d - 1) - d
def dryN (K : Nat → Int32) : Nat := (K 397).toNatClampNeg
def ranN (K : Nat → Int32) : Nat := (K 396).toNatClampNeg
def likP (K : Nat → Int32) (L : List RD) (a r d : Nat) : Nat → Nat → Nat
  | 0 => fun k => if k = stN K L a d then 1000000000000 else 0
  | i + 1 => stp (canA K a r (d + i)) (decide (dryN K < takN K a r ((d + i) % 7))) (ranN K) (lasN K a r ((d + i) % 7)) (likP K L a r d i)
def likS (K : Nat → Int32) (L : List RD) (d : Nat) (a1 a2 a3 : Int32) : Int64 := if actB K a1 && rdrB K a2 && inB a3 0 60 then lN (sumN (likP K L a1.toNatClampNeg a2.toNatClampNeg d (a3.toNatClampNeg + 1)) 100) else -1
theorem sum_one (s : Nat) : ∀ n, sumN (fun k => if k = s then 1000000000000 else 0) n ≤ 1000000000000 := by
  have key : ∀ n, sumN (fun k => if k = s then 1000000000000 else 0) n = if s < n then 1000000000000 else 0 := by
    intro n
    induction n with
    | zero => rfl
    | succ n ih =>
      unfold sumN
      rw [ih]
      by_cases h1 : n = s
      · subst h1; simp
      · rw [if_neg h1]
        by_cases h2 : s < n
        · rw [if_pos h2, if_pos (by omega)]
        · rw [if_neg h2, if_neg (by omega)]
  intro n
  rw [key]; split <;> omega
theorem likP_tot {K : Nat → Int32} {L : List RD} {a r d : Nat} (hI : KI K) : ∀ i, sumN (likP K L a r d i) 100 ≤ 1000000000000 := by
  have hr : ranN K ≤ 10 := (rng_n hI.tm.1 (by decide)).2.2
  intro i
  induction i with
  | zero => exact sum_one _ 100
  | succ i ih => exact Nat.le_trans (stp_tot _ _ hr _) ih
/-- ints alone -/
def AgI (P : Nat → Nat → Prop) (σ τ : DD) : Prop := ∀ o k, ¬ P o k → gI τ o k = gI σ o k
section LK
variable {σ τ : DD} {T : TXT} {K : Nat → Int32} {L : List RD}
theorem MS.i1 (h : MS σ K L) (e : τ.1 = σ.1) : MS τ K L := by
  have g : ∀ o k, gI τ o k = gI σ o k := by intro o k; unfold gI; rw [e]
  obtain ⟨⟨h1, h2⟩, h3, h4, h5⟩ := h
  refine ⟨⟨fun p hp => by rw [g]; exact h1 p hp, ?_⟩, h3, ⟨by rw [g]; exact h4.1, h4.2.1, fun i x hx => by rw [g, g, g]; exact h4.2.2 i x hx⟩, h5⟩
  unfold CM KB at h2 ⊢
  simp only [g]
  exact h2
theorem PM.i1 (h : PM σ τ) {υ : DD} (e : υ.1 = τ.1) : PM σ υ := fun o p hp => by
  have : gI υ o p = gI τ o p := by unfold gI; rw [e]
  rw [this]; exact h o p hp
theorem s_triesOn {a r d : Nat} {post : Int32 → DD → Prop} (hS : MS σ K L) (ha : a < nA K) (hr : r < nR K) (hd : d < 2 ^ 30) (k : ∀ τ, Ag qP σ τ → MS τ K L → post (bl (canA K a r d)) τ) : w_M_triesOn σ (nI a) (nI r) (nI d) post := by
  have hI := hS.2.1
  have ha8 := hI.a
  have hr4 := hI.r
  have hd7 : d % 7 < 7 := Nat.mod_lt _ (by decide)
  unfold canA at k
  unfold w_M_triesOn
  refine s_barred hS.1 hI ha hr (by omega) ?_
  intro τ ag hQ
  have hS1 := hS.q ag hQ
  refine br1 (fun hb => by rw [hb] at k; exact k τ ag hS1) (fun hb => ?_)
  rw [hb] at k
  rw [jrem7 (by omega), show (104 : Int32) = nI 104 from rfl, nI_add, nI_clamp (by omega), hS1.1.1 (104 + d % 7) (by unfold dyn; omega)]
  refine ⟨vp_in_nI (by omega) (by decide), s_fact 2 rfl (by omega) (by omega) ?_⟩
  rw [hS1.1.1 (4 * a + 2) (dyn_lt (by omega))]
  refine ⟨fun z => ?_, fun z => ?_⟩
  · have : lsn K d a = false := by unfold lsn; exact decide_eq_false (fun h => h z)
    rw [this] at k; exact k τ ag hS1
  · have : lsn K d a = true := by unfold lsn; exact decide_eq_true z
    rw [this] at k
    refine s_takes hS1.1 hI ha hr (by omega) ?_
    intro τ2 ag2 hQ2
    have hS2 := hS1.q ag2 hQ2
    have kk := k τ2 (ag.trans ag2) hS2
    have e96 : (96 : Int32) + 2 * nI r = nI (96 + 2 * r) := by
      rw [show (96 : Int32) = nI 96 from rfl, show (2 : Int32) = nI 2 from rfl, pk_mul, nI_add]
    rw [e96, nI_clamp (by omega), hS2.1.1 (96 + 2 * r) (dyn_lt (by omega))]
    refine ⟨vp_in_nI (by omega) (by decide), fun q => ?_, fun q => ?_⟩
    · rw [decide_eq_false (by grind)] at kk; exact kk
    · rw [decide_eq_true (by grind)] at kk; exact kk
/-- a row of longs -/
def rowL (σ : DD) (o : Nat) (P : Nat → Nat) : Prop := ∀ k, k < 100 → gL σ o k = lN (P k)
theorem mul10 {x r : Nat} (hx : x ≤ 1000000000000) (hr : r ≤ 10) : lN x * i2l (nI r) / 10 = lN (x * r / 10) := by
  have e : i2l (nI r) = lN r := nI_l (by omega)
  have hb : x * r ≤ 1000000000000 * 10 := Nat.mul_le_mul hx hr
  rw [e, lN_mul, show (10 : Int64) = lN 10 from rfl, pk_lDiv (by omega) (by decide) (by decide)]
theorem s_passesDay {a r d : Nat} {P : Nat → Nat} {post : DD → Prop} (hS : MS σ K L) (ha : a < nA K) (hr : r < nR K) (hd : d < 2 ^ 30) (hP : sumN P 100 ≤ 1000000000000) (hrow : rowL σ 43 P) (k : ∀ υ τ, Ag qP σ υ → τ.1 = υ.1 → MS τ K L → rowL τ 43 (stp (canA K a r d) (decide (dryN K < takN K a r (d % 7))) (ranN K) (lasN K a r (d % 7)) P) → post τ) : w_M_passesDay σ (nI a) (nI r) (nI d) post := by
  have hI := hS.2.1
  have htk := takN_e hI (r := r) (w := d % 7) ha
  have hla := lasN_e hI (r := r) (w := d % 7) ha
  have hdr := rng_n hI.tm.2.1 (show 60 < 2 ^ 31 by decide)
  have hrn := rng_n hI.tm.1 (show 10 < 2 ^ 31 by decide)
  have hPk : ∀ k, k < 100 → P k ≤ 1000000000000 := fun k hk => Nat.le_trans (sumN_ge P 100 hk) hP
  unfold w_M_passesDay
  refine s_triesOn hS ha hr hd ?_
  intro υ1 ag1 hS1
  refine s_takes hS1.1 hI ha hr (by omega) ?_
  intro υ2 ag2 hQ2
  have hS2 := hS1.q ag2 hQ2
  generalize canA K a r d = c at k
  generalize hwet : decide (dryN K < takN K a r (d % 7)) = w at k
  generalize hlas : lasN K a r (d % 7) = la at k hla
  have go : w_M_passesDay_j32 post υ2 (nI a) (nI r) (nI d) (bl c) (bl w) := by
    unfold w_M_passesDay_j32
    refine s_lasts hS2.1 hI ha hr (by omega) ?_
    intro υ3 ag3 hQ3
    have hS3 := hS2.q ag3 hQ3
    rw [hlas]
    have hla99 : la ≤ 99 := hla.2
    have agT := ag1.trans (ag2.trans ag3)
    have h43 : ∀ j, gL υ3 43 j = gL σ 43 j := by intro j; unfold gL; rw [agT.2]
    have f43 : rowL υ3 43 P := fun j hj => by rw [h43]; exact hrow j hj
    unfold w_M_passesDay_l46
    refine LoopN (fun c' y => ∃ i, c' = 100 - i ∧ i ≤ 100 ∧ y.1.1 = υ3.1 ∧ y.2 = nI i ∧ rowL y.1 43 P ∧ ∀ j, j < i → gL y.1 44 j = lN 0) ?_ (n := 100) ⟨0, rfl, Nat.zero_le _, rfl, rfl, f43, by omega⟩
    rintro c' ⟨υ, a7⟩ KK ⟨i, hc, hi, eu, e7, hr43, hz⟩ ih
    simp only [] at eu e7 hr43 hz ⊢
    subst e7
    unfold w_M_passesDay_b46
    rw [show (99 : Int32) = nI 99 from rfl, nI_ltI (by decide) (by omega)]
    refine ⟨fun z => ?_, fun z => ?_⟩
    · have hi100 : i = 100 := by omega
      subst hi100
      -- sums so far
      unfold w_M_passesDay_l70
      refine LoopN (fun c' y => ∃ i, c' = 100 - i ∧ i ≤ 100 ∧ y.1.1 = υ3.1 ∧ y.2 = nI i ∧ rowL y.1 43 P ∧ ∀ j, j < 100 → gL y.1 44 j = lN ((if j + 1 < i then ntN c w (ranN K) (P (j + 1)) else 0) + (if j + 1 = la then sumN (fun k => isN c w (ranN K) (P k)) i else 0))) ?_ (n := 100) ⟨0, rfl, Nat.zero_le _, eu, rfl, hr43, fun j hj => by rw [hz j hj]; congr 1; rw [if_neg (by omega)]; split <;> rfl⟩
      rintro c' ⟨υ, a7⟩ KK ⟨i, hc, hi, eu, e7, hr43, h44⟩ ih
      simp only [] at eu e7 hr43 h44 ⊢
      subst e7
      have gi : ∀ o k, gI υ o k = gI υ3 o k := by intro o k; unfold gI; rw [eu]
      unfold w_M_passesDay_b70
      rw [show (99 : Int32) = nI 99 from rfl, nI_ltI (by decide) (by omega)]
      refine ⟨fun z => ?_, fun z => ?_⟩
      · have hi100 : i = 100 := by omega
        subst hi100
        unfold w_M_passesDay_l219
        refine LoopN (fun c' y => ∃ i, c' = 100 - i ∧ i ≤ 100 ∧ y.1.1 = υ3.1 ∧ y.2 = nI i ∧ (∀ j, j < 100 → gL y.1 44 j = lN (stp c w (ranN K) la P j)) ∧ ∀ j, j < i → gL y.1 43 j = lN (stp c w (ranN K) la P j)) ?_ (n := 100) ⟨0, rfl, Nat.zero_le _, eu, rfl, ?_, by omega⟩
        · rintro c' ⟨υ, a7⟩ KK ⟨i, hc, hi, eu, e7, h44, h43'⟩ ih
          simp only [] at eu e7 h44 h43' ⊢
          subst e7
          unfold w_M_passesDay_b219
          rw [show (99 : Int32) = nI 99 from rfl, nI_ltI (by decide) (by omega)]
          refine ⟨fun z => ?_, fun z => ?_⟩
          · have hi100 : i = 100 := by omega
            subst hi100
            exact k υ3 υ agT eu (hS3.i1 eu) h43'
          · rw [nI_clamp (by omega), nI_1]
            refine ⟨vp_in_nI (by omega) (by decide), vp_in_nI (by omega) (by decide), fun σ23 e23 => ?_⟩
            refine ih (100 - (i + 1)) _ (by omega) ⟨i + 1, rfl, by omega, ?_, rfl, ?_, ?_⟩
            · subst e23; exact eu
            · intro j hj; subst e23; rw [gL_sL, if_neg (by omega)]; exact h44 j hj
            · intro j hj
              subst e23
              rw [gL_sL]
              by_cases hji : j = i
              · subst hji; rw [if_pos ⟨rfl, rfl⟩]; exact h44 j (by omega)
              · rw [if_neg (by omega)]; exact h43' j (by omega)
        · intro j hj
          rw [h44 j hj]
          unfold stp
          congr 2
          by_cases h99 : j < 99
          · rw [if_pos (by omega), if_pos h99]
          · rw [if_neg (by omega), if_neg h99]
      · -- one part
        have hin : vp_in (nI i) 100 := vp_in_nI (by omega) (by decide)
        have g43 : gL υ 43 i = lN (P i) := hr43 i (by omega)
        have hPi := hPk i (by omega)
        have j172 : w_M_passesDay_j172 (fun σ a7 => KK (σ, a7)) post υ (bl c) (bl w) (nI la) (nI i) (lN (ntN c w (ranN K) (P i))) (lN (isN c w (ranN K) (P i))) := by
          have nx : ∀ υ', υ'.1 = υ.1 → rowL υ' 43 P → (∀ j, j < 100 → gL υ' 44 j = lN ((if j + 1 < i + 1 then ntN c w (ranN K) (P (j + 1)) else 0) + (if j + 1 = la then sumN (fun k => isN c w (ranN K) (P k)) (i + 1) else 0))) → KK (υ', nI i + 1) := by
            intro υ' q1 q2 q3
            rw [nI_1]
            exact ih (100 - (i + 1)) _ (by omega) ⟨i + 1, rfl, by omega, q1.trans eu, rfl, q2, q3⟩
          have j191 : ∀ υ', υ'.1 = υ.1 → rowL υ' 43 P → (∀ j, j < 100 → gL υ' 44 j = lN ((if j + 1 < i + 1 then ntN c w (ranN K) (P (j + 1)) else 0) + (if j + 1 = la then sumN (fun k => isN c w (ranN K) (P k)) i else 0))) → w_M_passesDay_j191 (fun σ a7 => KK (σ, a7)) post υ' (bl c) (bl w) (nI la) (nI i) (lN (isN c w (ranN K) (P i))) := by
            intro υ' q1 q2 q3
            unfold w_M_passesDay_j191
            refine ⟨fun w0 => nx υ' q1 q2 ?_, fun w0 => ?_⟩
            · rw [show (0 : Int32) = nI 0 from rfl, nI_leI (by omega) (by decide)] at w0
              intro j hj
              rw [q3 j hj, if_neg (show ¬ j + 1 = la by omega), if_neg (show ¬ j + 1 = la by omega)]
            · rw [show (0 : Int32) = nI 0 from rfl, nI_leI (by omega) (by decide)] at w0
              have el : nI la - 1 = nI (la - 1) := pk_sub (a := la) (b := 1) (by omega)
              rw [el, nI_clamp (by omega)]
              refine ⟨vp_in_nI (by omega) (by decide), vp_in_nI (by omega) (by decide), fun σ3 e3 => nx σ3 ?_ ?_ ?_⟩
              · subst e3; exact q1
              · subst e3; intro j hj; rw [gL_sL, if_neg (by omega)]; exact q2 j hj
              · intro j hj
                subst e3
                rw [gL_sL]
                by_cases hjl : j = la - 1
                · rw [if_pos ⟨rfl, hjl⟩, q3 (la - 1) (by omega), hjl, lN_add]
                  congr 1
                  rw [if_pos (show la - 1 + 1 = la by omega), if_pos (show la - 1 + 1 = la by omega), sumN]
                  omega
                · rw [if_neg (fun x => hjl x.2), q3 j hj, if_neg (show ¬ j + 1 = la by omega), if_neg (show ¬ j + 1 = la by omega)]
          unfold w_M_passesDay_j172
          refine ⟨fun w0 => j191 υ rfl hr43 ?_, fun w0 => ?_⟩
          · rw [show (0 : Int32) = nI 0 from rfl, nI_leI (by omega) (by decide)] at w0
            intro j hj
            rw [h44 j hj]
            have hi0 : i = 0 := by omega
            rw [if_neg (show ¬ j + 1 < i by omega), if_neg (show ¬ j + 1 < i + 1 by omega)]
          · rw [show (0 : Int32) = nI 0 from rfl, nI_leI (by omega) (by decide)] at w0
            have el : nI i - 1 = nI (i - 1) := pk_sub (a := i) (b := 1) (by omega)
            rw [el, nI_clamp (by omega)]
            refine ⟨vp_in_nI (by omega) (by decide), vp_in_nI (by omega) (by decide), fun σ8 e8 => j191 σ8 ?_ ?_ ?_⟩
            · subst e8; rfl
            · subst e8; intro j hj; rw [gL_sL, if_neg (by omega)]; exact hr43 j hj
            · intro j hj
              subst e8
              rw [gL_sL]
              by_cases hji : j = i - 1
              · rw [if_pos ⟨rfl, hji⟩, h44 (i - 1) (by omega), hji, lN_add]
                congr 1
                rw [if_neg (show ¬ i - 1 + 1 < i by omega), if_pos (show i - 1 + 1 < i + 1 by omega), show i - 1 + 1 = i from by omega]
                omega
              · rw [if_neg (fun x => hji x.2), h44 j hj]
                congr 2
                by_cases hlt : j + 1 < i
                · rw [if_pos hlt, if_pos (by omega)]
                · rw [if_neg hlt, if_neg (by omega)]
        have hr10 : ranN K ≤ 10 := hrn.2.2
        have e396 : gI υ 4 396 = nI (ranN K) := by rw [gi, hS3.1.1 396 (by unfold dyn; omega)]; exact hrn.1
        unfold w_M_passesDay_j93 w_M_passesDay_j111
        rw [nI_clamp (by omega), g43, e396, mul10 hPi hr10, show (10 : Int32) - nI (ranN K) = nI (10 - ranN K) from pk_sub (a := 10) hr10, mul10 hPi (by omega)]
        unfold ntN isN at j172
        cases c with
        | false =>
          simp only [Bool.false_eq_true, if_false] at j172
          refine ⟨fun _ => ⟨hin, fun _ => ⟨fun _ => j172, fun w0 => absurd rfl w0⟩, fun w0 => absurd rfl w0⟩, fun w0 => absurd rfl w0⟩
        | true =>
          cases w with
          | false =>
            simp only [Bool.false_eq_true, if_true, if_false] at j172
            refine ⟨fun w0 => absurd w0 (by decide), fun _ => ⟨fun w0 => absurd w0 (by decide), fun _ => ⟨hin, fun w0 => absurd w0 (by decide), fun _ => ⟨fun _ => j172, fun w0 => absurd rfl w0⟩⟩⟩⟩
          | true =>
            simp only [if_true] at j172
            refine ⟨fun w0 => absurd w0 (by decide), fun _ => ⟨fun w0 => absurd w0 (by decide), fun _ => ⟨hin, fun w0 => absurd w0 (by decide), fun _ => ⟨fun w0 => absurd w0 (by decide), fun _ => ⟨hin, fun v14 e14 => ⟨hin, fun v17 e17 => ?_⟩⟩⟩⟩⟩⟩
            rw [e14, e17]; exact j172
    · rw [nI_clamp (by omega), nI_1]
      refine ⟨vp_in_nI (by omega) (by decide), fun σ30 e30 => ?_⟩
      refine ih (100 - (i + 1)) _ (by omega) ⟨i + 1, rfl, by omega, ?_, rfl, ?_, ?_⟩
      · subst e30; exact eu
      · intro j hj; subst e30; rw [gL_sL, if_neg (by omega)]; exact hr43 j hj
      · intro j hj
        subst e30
        rw [gL_sL]
        by_cases hji : j = i
        · subst hji; rw [if_pos ⟨rfl, rfl⟩]; rfl
        · rw [if_neg (by omega)]; exact hz j (by omega)
  rw [hS2.1.1 397 (by unfold dyn; omega), hdr.1, nI_leI (by omega) (by omega)]
  refine ⟨fun z => ?_, fun z => ?_⟩
  · have : w = false := by rw [← hwet]; exact decide_eq_false (by unfold dryN; omega)
    rw [this] at go; exact go
  · have : w = true := by rw [← hwet]; exact decide_eq_true (by unfold dryN; omega)
    rw [this] at go; exact go
end LK
