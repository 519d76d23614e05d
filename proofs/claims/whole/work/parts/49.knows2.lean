/-! ===== the model's answers by law, kept for a version ===== -/
def wo (K : Nat → Int32) (h a : Nat) : Int32 := if h = 1 then K (4 * a + 1) else if h = 2 then K (4 * a) else 0
def ans (K : Nat → Int32) (h a r w : Nat) : Int32 := ansW K (nI h) a r w (wo K h a)
def kx (h a r w : Nat) : Nat := 224 * (h - 1) + 28 * a + 7 * r + w
/-- the version whose answers are kept is none ahead -/
def KB (σ : DD) : Prop := ∃ v : Nat, gI σ 0 1 = nI v ∧ v < 2 ^ 30 ∧ (gI σ 0 29 = -1 ∨ ∃ w : Nat, w ≤ v ∧ gI σ 0 29 = nI w)
def CM (σ : DD) (K : Nat → Int32) : Prop := KB σ ∧ (gI σ 0 29 = gI σ 0 1 → ∀ h a r w, 1 ≤ h → h ≤ 3 → a < 8 → r < 4 → w < 7 → ¬ gI σ 29 (kx h a r w) = 0 → gI σ 29 (kx h a r w) = 1 + ans K h a r w)
theorem KB.ag {P : Nat → Nat → Prop} {σ τ : DD} (h : KB σ) (a : Ag P σ τ) (h0 : ¬ P 0 29) (h1 : ¬ P 0 1) : KB τ := by
  unfold KB; rw [a.at 0 1 h1, a.at 0 29 h0]; exact h
theorem KB.eq {σ τ : DD} (h : KB σ) (e : gI τ 0 1 = gI σ 0 1) (e2 : gI τ 0 29 = gI τ 0 1) : KB τ := by
  obtain ⟨v, h1, h2, -⟩ := h
  exact ⟨v, e.trans h1, h2, Or.inr ⟨v, Nat.le_refl _, e2.trans (e.trans h1)⟩⟩
def qP (o k : Nat) : Prop := o = 26 ∨ o = 29 ∨ (o = 0 ∧ (k = 8 ∨ k = 22 ∨ k = 23 ∨ k = 24 ∨ k = 29))
theorem tlP_q {o k : Nat} (h : tlP o k) : qP o k := by
  unfold tlP at h; unfold qP; omega
section KN2
variable {σ τ : DD} {K : Nat → Int32}
theorem tellF_in {h : Int32} {e : Nat → Int64} (xs : List CLS) : ∀ t : Int64, 0 ≤ t → t ≤ 99 → 0 ≤ xs.foldl (tellF h e) t ∧ xs.foldl (tellF h e) t ≤ 99 := by
  induction xs with
  | nil => intro t h1 h2; exact ⟨h1, h2⟩
  | cons x xs ih =>
    intro t h1 h2
    have : 0 ≤ tellF h e t x ∧ tellF h e t x ≤ 99 := by
      unfold tellF clampL
      split
      · split
        · grind
        · exact ⟨h1, h2⟩
      · exact ⟨h1, h2⟩
    exact ih _ this.1 this.2
theorem l2i_rng {x : Int64} (h0 : 0 ≤ x) (h1 : x ≤ 99) : rng (l2i x) 0 99 := by
  obtain ⟨n, hn, e⟩ := pk_lOf (x := x) (by grind)
  have e99 : (99 : Int64) = lN 99 := rfl
  rw [e, e99, pk_lLE hn (by decide)] at h1
  refine ⟨n, Nat.zero_le _, h1, ?_⟩
  rw [e]; exact lN_i n
theorem i2l_in {x : Int32} {lo hi : Nat} (h : rng x lo hi) (hh : hi ≤ 99) : 0 ≤ i2l x ∧ i2l x ≤ 99 := by
  obtain ⟨n, h1, h2, e⟩ := h
  have : i2l x = lN n := by rw [e]; exact nI_l (by omega)
  rw [this, show (0 : Int64) = lN 0 from rfl, show (99 : Int64) = lN 99 from rfl, pk_lLE (by decide) (by omega), pk_lLE (by omega) (by decide)]
  omega
theorem wo_rng (hI : KI K) {h a : Nat} (ha : a < nA K) : rng (wo K h a) 0 60 := by
  have := hI.act ha
  unfold wo
  split
  · obtain ⟨n, h1, h2, e⟩ := this.2.1; exact ⟨n, by omega, by omega, e⟩
  · split
    · obtain ⟨n, h1, h2, e⟩ := this.1; exact ⟨n, by omega, by omega, e⟩
    · exact ⟨0, by omega, by omega, rfl⟩
theorem ans_rng (hI : KI K) {h a r w : Nat} (ha : a < nA K) : rng (ans K h a r w) 0 99 := by
  have hw := wo_rng hI (h := h) ha
  unfold ans ansW
  split
  · obtain ⟨n, h1, h2, e⟩ := hw; exact ⟨n, by omega, by omega, e⟩
  · have h1 := i2l_in hw (by omega)
    have h2 := tellF_in (h := nI h) (e := envL K a r w) (clsOf K (K 404).toNatClampNeg) _ h1.1 h1.2
    exact l2i_rng h2.1 h2.2
theorem byte1 {x : Int32} (h : rng x 0 99) : vp_nar .byte (i2b (1 + x)) = 1 + x ∧ ¬ 1 + x = 0 ∧ (1 + x) - 1 = x := by
  obtain ⟨n, -, h2, e⟩ := h
  subst e
  revert n
  intro n hn
  have key : ∀ n : Nat, n < 100 → vp_nar .byte (i2b (1 + nI n)) = 1 + nI n ∧ ¬ 1 + nI n = 0 ∧ (1 + nI n) - 1 = nI n := by
    intro n hn
    rw [vp_nar_byte]
    revert n
    refine fun n hn => co_dec (N := 100) (P := fun n => (i2b (1 + nI n)).toInt8.toInt32 = 1 + nI n ∧ ¬ 1 + nI n = 0 ∧ (1 + nI n) - 1 = nI n) (by decide +kernel) hn
  exact key n (by omega)
theorem s_know44 {h a r d : Nat} {post : Int32 → DD → Prop} (hK : MK σ K) (hI : KI K) (hC : CM σ K) (hv : gI σ 0 29 = gI σ 0 1) (h1 : 1 ≤ h) (h3 : h ≤ 3) (ha : a < nA K) (hr : r < nR K) (hd : d < 2 ^ 31) (k : ∀ τ, Ag qP σ τ → CM τ K → post (ans K h a r (d % 7)) τ) : w_M_knows_j44 post σ (nI h) (nI a) (nI r) (nI d) (wo K h a) := by
  have ha8 : a < 8 := by have := hI.a; omega
  have hr4 : r < 4 := by have := hI.r; omega
  have hw7 : d % 7 < 7 := Nat.mod_lt _ (by decide)
  unfold w_M_knows_j44 w_M_knows_j98
  have ev : ((((((nI h - 1) * 8) + nI a) * 4) + nI r) * 7) + jrem (nI d) 7 = nI (kx h a r (d % 7)) := by
    rw [jrem7 hd, show (1 : Int32) = nI 1 from rfl, pk_sub h1, show (8 : Int32) = nI 8 from rfl, pk_mul, nI_add, show (4 : Int32) = nI 4 from rfl, pk_mul, nI_add, show (7 : Int32) = nI 7 from rfl, pk_mul, nI_add]
    congr 1; unfold kx; omega
  rw [ev]
  have hlt : kx h a r (d % 7) < 672 := by unfold kx; omega
  intro v2 e2
  subst e2
  rw [nI_clamp (by omega)]
  have hin := vp_in_nI (n := kx h a r (d % 7)) (N := 672) hlt (by decide)
  have hb := byte1 (ans_rng hI (h := h) (r := r) (w := d % 7) ha)
  refine ⟨hin, fun q => ⟨hin, ?_⟩, fun q => ?_⟩
  · have := hC.2 hv h a r (d % 7) h1 h3 ha8 hr4 hw7 q
    rw [this, hb.2.2]
    exact k σ (Ag.refl σ) hC
  · refine s_tells hK hI ha hr hd ?_
    intro τ ag
    have e8 : ansW K (nI h) a r (d % 7) (wo K h a) = ans K h a r (d % 7) := rfl
    refine ⟨hin, ?_⟩
    intro σ8 es
    rw [e8, hb.1] at es
    subst es
    refine ⟨hin, ?_⟩
    rw [gI_same, hb.2.2]
    refine k _ ((ag.mono (fun o k => tlP_q)).set (Or.inr (Or.inl rfl))) ⟨?_, ?_⟩
    · refine hC.1.eq ?_ ?_
      · rw [gI_sI, if_neg (by omega), ag.at 0 1 (by unfold tlP; omega)]
      · rw [gI_sI, if_neg (by omega), gI_sI, if_neg (by omega), ag.at 0 1 (by unfold tlP; omega), ag.at 0 29 (by unfold tlP; omega)]; exact hv
    intro _ h' a' r' w' g1 g3 ga gr gw hne
    rw [gI_sI] at hne ⊢
    by_cases he : kx h' a' r' w' = kx h a r (d % 7)
    · have : h' = h ∧ a' = a ∧ r' = r ∧ w' = d % 7 := by unfold kx at he; omega
      obtain ⟨z1, z2, z3, z4⟩ := this
      subst z1; subst z2; subst z3; subst z4
      rw [if_pos ⟨rfl, rfl⟩]
    · rw [if_neg (fun z => he z.2)] at hne ⊢
      rw [ag.at 29 _ (by unfold tlP; omega)] at hne ⊢
      exact hC.2 hv h' a' r' w' g1 g3 ga gr gw hne
theorem s_knows {h a r d : Nat} {post : Int32 → DD → Prop} (hK : MK σ K) (hI : KI K) (hC : CM σ K) (h1 : 1 ≤ h) (h3 : h ≤ 3) (ha : a < nA K) (hr : r < nR K) (hd : d < 2 ^ 31) (k : ∀ τ, Ag qP σ τ → CM τ K → post (ans K h a r (d % 7)) τ) : w_M_knows σ (nI h) (nI a) (nI r) (nI d) (wo K h a) post := by
  unfold w_M_knows
  refine ⟨fun q => s_know44 hK hI hC q h1 h3 ha hr hd k, fun q σ16 e16 => ?_⟩
  subst e16
  unfold w_M_knows_l22
  refine LoopN (fun n x => ∃ i, n = 672 - i ∧ i ≤ 672 ∧ x.2 = nI i ∧ Ag qP σ x.1 ∧ gI x.1 0 29 = gI x.1 0 1 ∧ ∀ j, j < i → gI x.1 29 j = 0) ?_ (n := 672) ⟨0, rfl, by omega, rfl, Ag.put (by unfold qP; omega), by simp [gI_sI], by omega⟩
  rintro n ⟨τ, a6⟩ KK ⟨i, hn, hi, ea, ag, hv, hz⟩ ih
  simp only [] at ea ag hv hz ⊢
  subst ea
  unfold w_M_knows_b22
  rw [show (672 : Int32) = nI 672 from rfl, nI_leI (by decide) (by omega)]
  refine ⟨fun q2 => ?_, fun q2 => ?_⟩
  · have h672 : i = 672 := by omega
    subst h672
    refine s_know44 (hK.ag ag (by unfold qP; omega)) hI ⟨hC.1.eq (ag.at 0 1 (by unfold qP; omega)) hv, ?_⟩ hv h1 h3 ha hr hd ?_
    · intro _ h' a' r' w' g1 g3 ga gr gw hne
      exact absurd (hz _ (by unfold kx; omega)) hne
    · intro τ2 ag2 c2; exact k τ2 (ag.trans ag2) c2
  · rw [nI_clamp (by omega), nI_1]
    refine ⟨vp_in_nI (by omega) (by decide), ?_⟩
    intro σ12 e12
    subst e12
    refine ih (672 - (i + 1)) _ (by omega) ⟨i + 1, rfl, by omega, rfl, ag.set (Or.inr (Or.inl rfl)), ?_, ?_⟩
    · simp only [gI_sI]; simpa using hv
    · intro j hj
      simp only [gI_sI]
      by_cases hji : j = i
      · rw [if_pos ⟨trivial, hji⟩, vp_nar_byte]; decide
      · rw [if_neg (fun z => hji z.2)]; exact hz j (by omega)
def lasN (K : Nat → Int32) (a r w : Nat) : Nat := (ans K 1 a r w).toNatClampNeg
def takN (K : Nat → Int32) (a r w : Nat) : Nat := (ans K 2 a r w).toNatClampNeg
def barN (K : Nat → Int32) (a r w : Nat) : Bool := decide (ans K 3 a r w = 1)
theorem rng_n {x : Int32} {lo hi : Nat} (h : rng x lo hi) (hh : hi < 2 ^ 31) : x = nI x.toNatClampNeg ∧ lo ≤ x.toNatClampNeg ∧ x.toNatClampNeg ≤ hi := by
  obtain ⟨n, h1, h2, e⟩ := h
  rw [e, nI_clamp (by omega)]; exact ⟨rfl, h1, h2⟩
theorem lasN_e (hI : KI K) {a r w : Nat} (ha : a < nA K) : ans K 1 a r w = nI (lasN K a r w) ∧ lasN K a r w ≤ 99 := ⟨(rng_n (ans_rng hI ha) (by decide)).1, (rng_n (ans_rng hI ha) (by decide)).2.2⟩
theorem takN_e (hI : KI K) {a r w : Nat} (ha : a < nA K) : ans K 2 a r w = nI (takN K a r w) ∧ takN K a r w ≤ 99 := ⟨(rng_n (ans_rng hI ha) (by decide)).1, (rng_n (ans_rng hI ha) (by decide)).2.2⟩
/-- the model, asked -/
def QS (σ : DD) (K : Nat → Int32) : Prop := MK σ K ∧ CM σ K
theorem QS.ag (h : QS σ K) {P : Nat → Nat → Prop} (a : Ag P σ τ) (hp : ∀ k, ¬ P 4 k) (c : CM τ K) : QS τ K := ⟨h.1.ag a hp, c⟩
theorem qP4 (k : Nat) : ¬ qP 4 k := by unfold qP; omega
theorem s_lasts {a r d : Nat} {post : Int32 → DD → Prop} (hq : QS σ K) (hI : KI K) (ha : a < nA K) (hr : r < nR K) (hd : d < 2 ^ 31) (k : ∀ τ, Ag qP σ τ → QS τ K → post (nI (lasN K a r (d % 7))) τ) : w_M_lastsFor σ (nI a) (nI r) (nI d) post := by
  have ha8 : a < 8 := by have := hI.a; omega
  unfold w_M_lastsFor
  refine s_fact 1 rfl ha8 (by omega) ?_
  rw [hq.1 (4 * a + 1) (dyn_lt (by omega)), show K (4 * a + 1) = wo K 1 a from rfl]
  refine s_knows (h := 1) hq.1 hI hq.2 (by omega) (by omega) ha hr hd ?_
  intro τ ag c
  rw [(lasN_e hI ha).1]
  exact k τ ag (hq.ag ag qP4 c)
theorem s_takes {a r d : Nat} {post : Int32 → DD → Prop} (hq : QS σ K) (hI : KI K) (ha : a < nA K) (hr : r < nR K) (hd : d < 2 ^ 31) (k : ∀ τ, Ag qP σ τ → QS τ K → post (nI (takN K a r (d % 7))) τ) : w_M_takesOf σ (nI a) (nI r) (nI d) post := by
  have ha8 : a < 8 := by have := hI.a; omega
  unfold w_M_takesOf
  refine s_fact 0 rfl ha8 (by omega) ?_
  rw [hq.1 (4 * a + 0) (dyn_lt (by omega)), show K (4 * a + 0) = wo K 2 a from rfl]
  refine s_knows (h := 2) hq.1 hI hq.2 (by omega) (by omega) ha hr hd ?_
  intro τ ag c
  rw [(takN_e hI ha).1]
  exact k τ ag (hq.ag ag qP4 c)
theorem s_barred {a r d : Nat} {post : Int32 → DD → Prop} (hq : QS σ K) (hI : KI K) (ha : a < nA K) (hr : r < nR K) (hd : d < 2 ^ 31) (k : ∀ τ, Ag qP σ τ → QS τ K → post (bl (barN K a r (d % 7))) τ) : w_M_isBarred σ (nI a) (nI r) (nI d) post := by
  unfold w_M_isBarred
  rw [show (0 : Int32) = wo K 3 a from rfl]
  refine s_knows (h := 3) hq.1 hI hq.2 (by omega) (by omega) ha hr hd ?_
  intro τ ag c
  have kk := k τ ag (hq.ag ag qP4 c)
  unfold barN at kk
  refine ⟨fun q => ?_, fun q => ?_⟩
  · rw [decide_eq_false q] at kk; exact kk
  · rw [decide_eq_true q] at kk; exact kk
end KN2
