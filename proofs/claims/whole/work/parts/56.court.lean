/-! ===== the court's questions to the log ===== -/
def Srt (L : List RD) : Prop := L.Pairwise (fun x y => x.2.2 ≤ y.2.2)
def unt (K : Nat → Int32) (L : List RD) (a d : Nat) : Nat := match lat L a d with
  | none => 0
  | some x => x.2.2 + lasN K a x.2.1 (x.2.2 % 7)
def XS (σ : DD) (T : TXT) (K : Nat → Int32) (L : List RD) : Prop := XQ σ T K ∧ RXd σ 200 L ∧ LI K L ∧ Srt L
section CO
variable {σ τ : DD} {T : TXT} {K : Nat → Int32} {L : List RD}
theorem hold_unt (a d : Nat) : hold K L a d = decide (d < unt K L a d) := by
  unfold hold unt
  cases h : lat L a d with
  | none => simp
  | some x =>
    have := lat_mem h
    simp only []
    by_cases hh : d - x.2.2 < lasN K a x.2.1 (x.2.2 % 7)
    · rw [decide_eq_true hh, decide_eq_true (by omega)]
    · rw [decide_eq_false hh, decide_eq_false (by omega)]
theorem XS.q (h : XS σ T K L) (a : AgX xq xl σ τ) (c : XQ τ T K) : XS τ T K L := ⟨c, h.2.1.ag a (xq200 (by omega)), h.2.2⟩
theorem fold_no {a d : Nat} : ∀ (M : List RD) (b : Option RD), (∀ x, x ∈ M → ¬ (x.1 = a ∧ x.2.2 ≤ d)) → M.foldl (latF a d) b = b := by
  intro M
  induction M with
  | nil => intro b _; rfl
  | cons z M ih =>
    intro b h
    have hz := h z (List.mem_cons_self ..)
    have : latF a d b z = b := by unfold latF; rw [if_neg (fun w => hz ⟨w.1, w.2.1⟩)]
    rw [List.foldl_cons, this]
    exact ih b (fun x hx => h x (List.mem_cons_of_mem _ hx))
theorem lat_last {a d i : Nat} {x : RD} (hs : Srt L) (hx : L[i]? = some x) (hm : x.1 = a ∧ x.2.2 ≤ d) (hno : ∀ j y, i < j → L[j]? = some y → ¬ (y.1 = a ∧ y.2.2 ≤ d)) : lat L a d = some x := by
  unfold lat
  have hi : i < L.length := by rw [List.getElem?_eq_some_iff] at hx; exact hx.1
  conv => lhs; rw [← List.take_append_drop (i + 1) L]
  rw [List.foldl_append, foldl_take hx, fold_no]
  · unfold latF
    rw [if_pos]
    refine ⟨hm.1, hm.2, ?_⟩
    intro y hy
    have hmem : y ∈ L.take i := (lat_mem (L := L.take i) hy).1
    obtain ⟨j, hj, ej⟩ := List.getElem_of_mem hmem
    rw [List.length_take] at hj
    have hjL : j < L.length := by omega
    have : L[j] = y := by rw [← ej, List.getElem_take]
    have hp := (List.pairwise_iff_getElem.1 hs) j i hjL hi (by omega)
    rw [this] at hp
    rw [List.getElem?_eq_some_iff] at hx
    rw [hx.2] at hp
    exact hp
  · intro y hy
    obtain ⟨j, hj, ej⟩ := List.getElem_of_mem hy
    refine hno (i + 1 + j) y (by omega) ?_
    rw [List.getElem_drop] at ej
    rw [List.length_drop] at hj
    rw [List.getElem?_eq_some_iff]
    exact ⟨by omega, ej⟩
theorem lat_none {a d : Nat} (hno : ∀ (j : Nat) (y : RD), L[j]? = some y → ¬ (y.1 = a ∧ y.2.2 ≤ d)) : lat L a d = none := by
  unfold lat
  apply fold_no
  intro x hx
  obtain ⟨j, hj, ej⟩ := List.getElem_of_mem hx
  exact hno j x (by rw [List.getElem?_eq_some_iff]; exact ⟨hj, ej⟩)
theorem RXd.len (h : RXd σ 200 L) : gI σ 200 8 = nI L.length := h.1
theorem RXd.x (h : RXd σ 200 L) {i : Nat} {x : RD} (hx : L[i]? = some x) : gI σ 210 i = nI x.1 ∧ gI σ 211 i = nI x.2.1 ∧ gI σ 212 i = nI x.2.2 := h.2.2 i x hx
/-- a loop from the last down -/
theorem top_ix (n : Nat) : (n = 0 ∧ nI n - 1 = -1) ∨ ∃ m, n = m + 1 ∧ nI n - 1 = nI m := by
  cases n with
  | zero => left; exact ⟨rfl, by decide⟩
  | succ m => right; exact ⟨m, rfl, nI_pred m⟩
theorem dn_ix (n : Nat) : (n = 0 ∧ nI n + (-1) = -1) ∨ ∃ m, n = m + 1 ∧ nI n + (-1) = nI m := by
  cases n with
  | zero => left; exact ⟨rfl, by decide⟩
  | succ m => right; exact ⟨m, rfl, pk_m1 m⟩
def dnV (n : Nat) : Int32 := if n = 0 then -1 else nI (n - 1)
theorem dnV_top (n : Nat) : nI n - 1 = dnV n := by
  unfold dnV
  rcases top_ix n with ⟨h, e⟩ | ⟨m, h, e⟩
  · rw [if_pos h, e]
  · rw [if_neg (by omega), e, h]; rfl
theorem dnV_dn (n : Nat) : nI n + (-1) = dnV n := by
  unfold dnV
  rcases dn_ix n with ⟨h, e⟩ | ⟨m, h, e⟩
  · rw [if_pos h, e]
  · rw [if_neg (by omega), e, h]; rfl
theorem dnV_0 : dnV 0 = -1 := rfl
theorem dnV_s (n : Nat) : dnV (n + 1) = nI n := by unfold dnV; rw [if_neg (by omega)]; rfl
theorem s_latestTold {a d : Nat} {post : Int32 → DD → Prop} (hS : XS σ T K L) (ha : a < 2 ^ 31) (hd : d < 2 ^ 31) (k0 : lat L a d = none → post (-1) σ) (k1 : ∀ i x, L[i]? = some x → lat L a d = some x → post (nI i) σ) : w_Real_latestTold T σ (nI a) (nI d) post := by
  obtain ⟨hQ, hD, hL, hs⟩ := hS
  have hI := hQ.2.2
  have h84 := hD.2.1
  unfold w_Real_latestTold w_Real_latestTold_l7
  intro v6 e6
  rw [hD.len, dnV_top] at e6
  subst e6
  refine LoopN (fun n y => ∃ i, n = i ∧ i ≤ L.length ∧ y.1 = σ ∧ y.2 = dnV i ∧ ∀ j y, i ≤ j → L[j]? = some y → ¬ (y.1 = a ∧ y.2.2 ≤ d)) ?_ (n := L.length) ⟨L.length, rfl, Nat.le_refl _, rfl, rfl, ?_⟩
  · rintro n ⟨υ, a3⟩ KK ⟨i, hn, hi, eσ, e3, hno⟩ ih
    simp only [] at eσ e3 hno ⊢
    subst eσ; subst e3; subst hn
    unfold w_Real_latestTold_b7
    cases n with
    | zero =>
      rw [dnV_0]
      exact ⟨fun _ => k0 (lat_none (fun j y hy => hno j y (Nat.zero_le _) hy)), fun z => absurd (by decide) z⟩
    | succ i =>
      obtain ⟨x, hx, hxm⟩ := get_lt (L := L) (i := i) (by omega)
      have hxb := hL.b hI x hxm
      have hg := hD.x hx
      rw [dnV_s, nI_clamp (by omega), hg.1, hg.2.2, nI_eq hxb.1 ha, nI_ltI hd hxb.2, dnV_dn]
      have hin : vp_in (nI i) 84 := vp_in_nI (by omega) (by decide)
      have nx : ¬ (x.1 = a ∧ x.2.2 ≤ d) → KK (υ, dnV i) := by
        intro hx0
        refine ih i (υ, dnV i) (by omega) ⟨i, rfl, by omega, rfl, rfl, ?_⟩
        intro j y hj hy
        by_cases hji : j = i
        · subst hji; rw [hx] at hy; injection hy with hy; subst hy; exact hx0
        · exact hno j y (by omega) hy
      refine ⟨fun z => absurd z (nI_pos (by omega)), fun _ => ⟨hin, fun z => nx (fun w => z w.1), fun z => ⟨hin, fun z2 => nx (fun w => by omega), fun z2 => ?_⟩⟩⟩
      exact k1 i x hx (lat_last hs hx ⟨z, by omega⟩ (fun j y hj hy => hno j y (by omega) hy))
  · intro j y hj hy
    rw [List.getElem?_eq_some_iff] at hy
    have := hy.1
    omega
theorem s_holdsUntil {a d : Nat} {post : Int32 → DD → Prop} (hS : XS σ T K L) (ha : a < nA K) (hd : d < 2 ^ 30) (k : ∀ τ, AgX xq xl σ τ → XS τ T K L → post (nI (unt K L a d)) τ) : w_Court_holdsUntil T σ (nI a) (nI d) post := by
  have hI := hS.1.2.2
  have ha8 := hI.a
  have h84 := hS.2.1.2.1
  unfold w_Court_holdsUntil
  refine s_latestTold hS (by omega) (by omega) (fun h0 => ⟨fun z => absurd rfl z, fun _ => ?_⟩) (fun i x hx hl => ⟨fun _ => ?_, fun z => absurd z (nI_m1 ?_)⟩)
  · have := k σ (AgX.refl σ) hS
    unfold unt at this; rw [h0] at this; exact this
  · have hi : i < L.length := by rw [List.getElem?_eq_some_iff] at hx; exact hx.1
    have hm := lat_mem hl
    have hb := hS.2.2.1 x hm.1
    have hg := hS.2.1.x hx
    have hin : vp_in (nI i) 84 := vp_in_nI (by omega) (by decide)
    rw [nI_clamp (by omega), hg.2.2, hg.2.1]
    refine ⟨hin, fun v5 e5 => ⟨hin, ?_⟩⟩
    subst e5
    refine s_answerOf hS.1 ha hb.2.1 (by omega) ?_
    intro τ ag hQ
    rw [(pack_e hI ha).1, nI_add]
    have := k τ ag (hS.q ag hQ)
    unfold unt at this; rw [hl] at this
    exact this
  · have hi : i < L.length := by rw [List.getElem?_eq_some_iff] at hx; exact hx.1
    omega
theorem unt_lt (hI : KI K) (hL : LI K L) {a d : Nat} (ha : a < nA K) : unt K L a d < 2100 := by
  unfold unt
  cases h : lat L a d with
  | none => simp
  | some x =>
    have hm := lat_mem h
    have := hL x hm.1
    have := (lasN_e hI (r := x.2.1) (w := x.2.2 % 7) ha).2
    simp only []; omega
theorem s_holds {a d : Nat} {post : Int32 → DD → Prop} (hS : XS σ T K L) (ha : a < nA K) (hd : d < 2 ^ 30) (k : ∀ τ, AgX xq xl σ τ → XS τ T K L → post (bl (hold K L a d)) τ) : w_Court_holds T σ (nI a) (nI d) post := by
  unfold w_Court_holds
  refine s_holdsUntil hS ha hd ?_
  intro τ ag hS2
  have hu := unt_lt hS.1.2.2 hS.2.2.1 (d := d) ha
  have kk := k τ ag hS2
  rw [hold_unt] at kk
  rw [nI_leI (by omega) (by omega)]
  refine ⟨fun q => ?_, fun q => ?_⟩
  · rw [decide_eq_false (by omega)] at kk; exact kk
  · rw [decide_eq_true (by omega)] at kk; exact kk
theorem RXs.na (h : RXs σ 200 T K) : gI σ 200 0 = K 399 := h.1
theorem RXs.nr (h : RXs σ 200 T K) : gI σ 200 3 = K 400 := h.2.1
theorem RXs.vo (h : RXs σ 200 T K) {r : Nat} (hr : r < nR K) : gI σ 205 r = K (96 + 2 * r) := (h.2.2.2.2.2.2.2.1 r hr).1
theorem RXs.ki (h : RXs σ 200 T K) {r : Nat} (hr : r < nR K) : gI σ 206 r = K (96 + 2 * r + 1) := (h.2.2.2.2.2.2.2.1 r hr).2
theorem RXs.gs (h : RXs σ 200 T K) {a : Nat} (ha : a < 8) : gI σ 203 a = bits (gsy K a) 8 := h.2.2.2.2.2.2.1 a ha
theorem RXs.li (h : RXs σ 200 T K) {w : Nat} (hw : w < 7) : gI σ 207 w = K (104 + w) := h.2.2.2.2.2.2.2.2.1 w hw
theorem s_heldBits {d : Nat} {post : Int32 → DD → Prop} (hS : XS σ T K L) (hd : d < 2 ^ 30) (k : ∀ τ, AgX xq xl σ τ → XS τ T K L → post (held K L d) τ) : w_Court_heldBits T σ (nI d) post := by
  have hI := hS.1.2.2
  have ha8 := hI.a
  unfold w_Court_heldBits w_Court_heldBits_l4
  refine LoopN (fun n y => ∃ i, n = nA K - i ∧ i ≤ nA K ∧ AgX xq xl σ y.1 ∧ XS y.1 T K L ∧ y.2.2 = nI i ∧ y.2.1 = bits (fun a => hold K L a d) i) ?_ (n := nA K) ⟨0, rfl, Nat.zero_le _, AgX.refl σ, hS, rfl, rfl⟩
  rintro n ⟨υ, b, a3⟩ KK ⟨i, hn, hi, ag, hS', e3, hb⟩ ih
  simp only [] at ag hS' e3 hb ⊢
  subst e3
  unfold w_Court_heldBits_b4
  rw [hS'.1.1.na, ha8.1, nI_leI (by omega) (by omega)]
  refine ⟨fun q => ?_, fun q => ?_⟩
  · have : i = nA K := by omega
    subst this
    rw [hb]; exact k υ ag hS'
  · refine s_holdsUntil hS' (by omega) hd ?_
    intro τ2 ag2 hS2
    have hu := unt_lt hI hS.2.2.1 (a := i) (d := d) (by omega)
    have nx : ∀ v1, v1 = bits (fun a => hold K L a d) (i + 1) → KK (τ2, v1, nI i + 1) := fun v1 hv => ih (nA K - (i + 1)) (τ2, v1, nI i + 1) (by omega) ⟨i + 1, rfl, by omega, ag.trans ag2, hS2, (nI_1 i), hv⟩
    rw [nI_leI (by omega) (by omega)]
    have hh := hold_unt (K := K) (L := L) i d
    refine ⟨fun q2 => nx _ ?_, fun q2 v5 e5 => nx v5 ?_⟩
    · rw [decide_eq_false (by omega)] at hh
      rw [hb]; simp [bits, hh]
    · rw [decide_eq_true (by omega)] at hh
      rw [e5, hb]; simp [bits, hh]
/-- what a day took of a voice -/
theorem left_sub (r d : Nat) : ∀ (M : List RD) (z : Int32), M.foldl (lefF K r d) z = z - (M.foldl (lefF K r d) 0 |> fun y => 0 - y) := by
  intro M
  induction M with
  | nil => intro z; simp
  | cons x M ih =>
    intro z
    rw [List.foldl_cons, List.foldl_cons, ih (lefF K r d z x), ih (lefF K r d 0 x)]
    unfold lefF
    generalize (if x.2.1 = r ∧ x.2.2 = d then nI (takN K x.1 r (d % 7)) else 0) = u
    generalize M.foldl (fun z x => z - (if x.2.1 = r ∧ x.2.2 = d then nI (takN K x.1 r (d % 7)) else 0)) 0 = y
    simp only []
    grind
theorem s_voiceLeft {r d : Nat} {post : Int32 → DD → Prop} (hS : XS σ T K L) (hr : r < nR K) (hd : d < 2 ^ 30) (k : ∀ τ, AgX xq xl σ τ → XS τ T K L → post (left K L r d) τ) : w_Court_voiceLeft T σ (nI r) (nI d) post := by
  have hI := hS.1.2.2
  have hr4 := hI.r
  have h84 := hS.2.1.2.1
  unfold w_Court_voiceLeft w_Court_voiceLeft_l21
  rw [nI_clamp (by omega), hS.1.1.vo hr, hS.2.1.len, dnV_top]
  refine ⟨vp_in_nI (by omega) (by decide), fun v12 e12 v14 e14 => ?_⟩
  subst e12; subst e14
  refine LoopN (fun n y => ∃ i, n = i ∧ i ≤ L.length ∧ AgX xq xl σ y.1 ∧ XS y.1 T K L ∧ y.2.2 = dnV i ∧ (L.take i).foldl (lefF K r d) y.2.1 = left K L r d) ?_ (n := L.length) ⟨L.length, rfl, Nat.le_refl _, AgX.refl σ, hS, rfl, by rw [List.take_length]; rfl⟩
  rintro n ⟨υ, b, a4⟩ KK ⟨i, hn, hi, ag, hS', e4, hb⟩ ih
  simp only [] at ag hS' e4 hb ⊢
  subst e4; subst hn
  unfold w_Court_voiceLeft_b21
  cases n with
  | zero =>
    rw [dnV_0]
    refine ⟨fun _ => ?_, fun z => absurd (by decide) z⟩
    rw [List.take_zero, List.foldl_nil] at hb
    rw [hb]; exact k υ ag hS'
  | succ i =>
    obtain ⟨x, hx, hxm⟩ := get_lt (L := L) (i := i) (by omega)
    have hxb := hS.2.2.1 x hxm
    have ha8 := hI.a
    have hg := hS'.2.1.x hx
    have hin : vp_in (nI i) 84 := vp_in_nI (by omega) (by decide)
    rw [dnV_s, nI_clamp (by omega), hg.1, hg.2.1, hg.2.2, nI_eq (by omega) (by omega), nI_eq (by omega) (by omega), dnV_dn]
    rw [foldl_take hx] at hb
    have nx : ∀ υ2 t1, AgX xq xl υ υ2 → XS υ2 T K L → t1 = b - (if x.2.1 = r ∧ x.2.2 = d then nI (takN K x.1 r (d % 7)) else 0) → KK (υ2, t1, dnV i) := by
      intro υ2 t1 ag2 hS2 ht
      refine ih i (υ2, t1, dnV i) (by omega) ⟨i, rfl, by omega, ag.trans ag2, hS2, rfl, ?_⟩
      simp only []
      rw [← hb, ht]
      unfold lefF
      generalize (if x.2.1 = r ∧ x.2.2 = d then nI (takN K x.1 r (d % 7)) else 0) = u
      have e1 := left_sub (K := K) r d (L.take i) (b - u)
      have e2 := left_sub (K := K) r d (L.take i) b
      unfold lefF at e1 e2
      rw [e1, e2]
      simp only []
      grind
    refine ⟨fun z => absurd z (nI_pos (by omega)), fun _ => ⟨hin, fun z => nx υ b (AgX.refl υ) hS' (by rw [if_neg (fun w => z w.2)]; grind), fun z => ⟨hin, fun z2 => nx υ b (AgX.refl υ) hS' (by rw [if_neg (fun w => z2 w.1)]; grind), fun z2 => ⟨hin, ?_⟩⟩⟩⟩
    refine s_answerOf hS'.1 hxb.1 hr (by omega) ?_
    intro υ2 ag2 hQ v9 e9
    rw [(pack_e hI hxb.1).2.1] at e9
    exact nx υ2 v9 ag2 (hS'.q ag2 hQ) (by rw [if_pos ⟨z2, z⟩]; exact e9)
theorem s_isHeardOn {a d : Nat} {post : Int32 → DD → Prop} (hR : RXs σ 200 T K) (hI : KI K) (ha : a < nA K) (hd : d < 2 ^ 31) (k : post (bl (lsn K d a)) σ) : w_Real_isHeardOn T σ (nI a) (nI d) post := by
  have hd7 : d % 7 < 7 := Nat.mod_lt _ (by decide)
  unfold w_Real_isHeardOn
  refine s_trait 2 rfl hR hI ha (by omega) ?_
  rw [jrem7 hd, nI_clamp (by omega), hR.li hd7, Int32.and_comm]
  refine ⟨vp_in_nI hd7 (by decide), ?_⟩
  unfold lsn at k
  refine ⟨fun q => ?_, fun q => ?_⟩
  · rw [decide_eq_false (fun z => z q)] at k; exact k
  · rw [decide_eq_true q] at k; exact k
/-- a reading that all of the voice is for -/
def canA (K : Nat → Int32) (a r d : Nat) : Bool := !barN K a r (d % 7) && lsn K d a && decide (nI (takN K a r (d % 7)) ≤ K (96 + 2 * r))
theorem s_canAlone {a r d : Nat} {post : Int32 → DD → Prop} (hS : XQ σ T K) (ha : a < nA K) (hr : r < nR K) (hd : d < 2 ^ 31) (k : ∀ τ, AgX xq xl σ τ → XQ τ T K → post (bl (canA K a r d)) τ) : w_Court_canAlone T σ (nI a) (nI r) (nI d) post := by
  have hI := hS.2.2
  have hr4 := hI.r
  have hp := pack_e hI (r := r) (w := d % 7) ha
  unfold w_Court_canAlone
  refine s_answerOf hS ha hr hd ?_
  intro τ ag hQ
  have kk := k τ ag hQ
  unfold canA at kk
  rw [hp.2.2]
  refine ⟨fun q => ?_, fun q => ?_⟩
  · have : barN K a r (d % 7) = true := by cases hb : barN K a r (d % 7) <;> simp_all
    rw [this] at kk; exact kk
  · rw [q] at kk
    refine s_isHeardOn hQ.1 hI ha hd ⟨fun q2 => ?_, fun q2 => ?_⟩
    · rw [bl_n] at q2
      rw [q2] at kk
      rw [nI_clamp (by omega), hQ.1.vo hr, hp.2.1]
      refine ⟨vp_in_nI (by omega) (by decide), fun q3 => ?_, fun q3 => ?_⟩
      · rw [decide_eq_false (by grind)] at kk; exact kk
      · rw [decide_eq_true (by grind)] at kk; exact kk
    · rw [bl_0] at q2
      rw [q2] at kk; exact kk
/-- acts told on a day -/
def onD (L : List RD) (d a : Nat) : Bool := L.any (fun x => decide (x.2.2 = d) && decide (x.1 = a))
theorem bits_set {p : Nat → Bool} {n a : Nat} (hn : n ≤ 16) (ha : a < n) : bits p n ||| jshl 1 (nI a) = bits (fun i => p i || decide (i = a)) n := by
  have hb : jshl 1 (nI a) = bits (fun i => decide (i = a)) n := by
    rw [jshl_1 (by omega), bits_N _ n hn]
    congr 1
    apply Nat.eq_of_testBit_eq
    intro i
    rw [Nat.testBit_two_pow, bitsN_tb]
    by_cases h : i = a
    · subst h; simp [ha]
    · simp [h, Ne.symm h]
  rw [hb, bits_or _ _ hn]
theorem s_actsToldOn {d : Nat} {post : Int32 → DD → Prop} (hS : XS σ T K L) (hd : d < 2 ^ 30) (k : post (bits (onD L d) 8) σ) : w_Real_actsToldOn T σ (nI d) post := by
  have hI := hS.1.2.2
  have h84 := hS.2.1.2.1
  unfold w_Real_actsToldOn w_Real_actsToldOn_l9
  intro v7 e7
  rw [hS.2.1.len, dnV_top] at e7
  subst e7
  refine LoopN (fun n y => ∃ i, n = i ∧ i ≤ L.length ∧ y.1 = σ ∧ y.2.2 = dnV i ∧ y.2.1 = bits (onD (L.drop i) d) 8) ?_ (n := L.length) ⟨L.length, rfl, Nat.le_refl _, rfl, rfl, ?_⟩
  · rintro n ⟨υ, b, a3⟩ KK ⟨i, hn, hi, eσ, e3, hb⟩ ih
    simp only [] at eσ e3 hb ⊢
    subst eσ; subst e3; subst hn
    unfold w_Real_actsToldOn_b9
    cases n with
    | zero =>
      rw [dnV_0]
      refine ⟨fun _ => ?_, fun z => absurd (by decide) z⟩
      rw [List.drop_zero] at hb
      rw [hb]; exact k
    | succ i =>
      obtain ⟨x, hx, hxm⟩ := get_lt (L := L) (i := i) (by omega)
      have hxb := hS.2.2.1 x hxm
      have ha8 := hI.a
      have hg := hS.2.1.x hx
      have hin : vp_in (nI i) 84 := vp_in_nI (by omega) (by decide)
      rw [dnV_s, nI_clamp (by omega), hg.1, hg.2.2, nI_eq (by omega) (by omega), dnV_dn]
      have hdr : L.drop i = x :: L.drop (i + 1) := by
        have hi : i < L.length := by omega
        rw [List.drop_eq_getElem_cons hi]
        rw [List.getElem?_eq_some_iff] at hx
        rw [hx.2]
      have nx : ∀ v, v = bits (onD (L.drop i) d) 8 → KK (υ, v, dnV i) := fun v hv => ih i (υ, v, dnV i) (by omega) ⟨i, rfl, by omega, rfl, rfl, hv⟩
      refine ⟨fun z => absurd z (nI_pos (by omega)), fun _ => ⟨hin, fun z => nx b ?_, fun z => ⟨hin, fun v5 e5 => nx v5 ?_⟩⟩⟩
      · rw [hb, hdr]
        apply bits_congr
        intro a _
        unfold onD
        rw [List.any_cons, decide_eq_false z]; rfl
      · rw [e5, hb, bits_set (by omega) (by omega), hdr]
        apply bits_congr
        intro a _
        unfold onD
        rw [List.any_cons, decide_eq_true z, Bool.true_and, Bool.or_comm]
        congr 1
        by_cases h : a = x.1
        · simp [h]
        · simp [h, Ne.symm h]
  · rw [List.drop_length]
    unfold onD
    simp only [List.any_nil]
    exact (bits_0 8).symm
theorem clr_on (hI : KI K) (hL : LI K L) {a d : Nat} (ha : a < 8) : clr K L a d = true ↔ bits (onD L d) 8 &&& (bits (gsy K a) 8 ||| jshl 1 (nI a)) = 0 := by
  rw [bits_set (by omega) ha, bits_and _ _ (by omega), bits_eq0 (by omega)]
  unfold clr
  rw [List.all_eq_true]
  have ha8 := hI.a
  constructor
  · intro h i hi
    by_cases ho : onD L d i = true
    · unfold onD at ho
      rw [List.any_eq_true] at ho
      obtain ⟨x, hx, hxx⟩ := ho
      simp at hxx
      have := h x hx
      unfold clrX at this
      simp only [hxx.1, decide_true, Bool.true_and, Bool.not_eq_true', Bool.or_eq_false_iff] at this
      have h2 := this
      rw [hxx.2] at h2
      simp [h2.2, h2.1]
    · simp at ho; simp [ho]
  · intro h x hx
    have hxb := hL x hx
    have := h x.1 (by omega)
    unfold clrX
    by_cases hd : x.2.2 = d
    · have ho : onD L d x.1 = true := by
        unfold onD; rw [List.any_eq_true]; exact ⟨x, hx, by simp [hd]⟩
      rw [ho] at this
      simp at this
      simp [hd, this.1, this.2]
    · simp [hd]
def canB (K : Nat → Int32) (L : List RD) (a r d : Nat) : Bool := !barN K a r (d % 7) && lsn K d a && clr K L a d && decide (nI (takN K a r (d % 7)) ≤ left K L r d)
theorem can_B (a r d : Nat) : can K L a r d = (canB K L a r d && ndOk K L a d) := by
  unfold can canB
  cases barN K a r (d % 7) <;> cases lsn K d a <;> cases clr K L a d <;> cases ndOk K L a d <;> simp
theorem s_canBut {a r d : Nat} {post : Int32 → DD → Prop} (hS : XS σ T K L) (ha : a < nA K) (hr : r < nR K) (hd : d < 2 ^ 30) (k : ∀ τ, AgX xq xl σ τ → XS τ T K L → post (bl (canB K L a r d)) τ) : w_Court_canButForNeed T σ (nI a) (nI r) (nI d) post := by
  have hI := hS.1.2.2
  have ha8 := hI.a
  have hr4 := hI.r
  have hp := pack_e hI (r := r) (w := d % 7) ha
  unfold w_Court_canButForNeed
  refine s_answerOf hS.1 ha hr (by omega) ?_
  intro τ ag hQ
  have hS1 := hS.q ag hQ
  unfold canB at k
  rw [hp.2.2]
  refine ⟨fun q => ?_, fun q => ?_⟩
  · have : barN K a r (d % 7) = true := by cases hb : barN K a r (d % 7) <;> simp_all
    rw [this] at k; exact k τ ag hS1
  · rw [q] at k
    refine s_isHeardOn hQ.1 hI ha (by omega) ⟨fun q2 => ?_, fun q2 => ?_⟩
    · rw [bl_n] at q2
      rw [q2] at k
      rw [nI_clamp (by omega), hQ.1.gs (by omega)]
      refine ⟨vp_in_nI (by omega) (by decide), fun v8 e8 => s_actsToldOn hS1 hd ?_⟩
      subst e8
      rw [← clr_on hI hS.2.2.1 (by omega)]
      refine ⟨fun q3 => ?_, fun q3 => ?_⟩
      · rw [q3] at k
        refine s_voiceLeft hS1 hr hd ?_
        intro τ2 ag2 hS2
        have kk := k τ2 (ag.trans ag2) hS2
        rw [hp.2.1]
        refine ⟨fun q4 => ?_, fun q4 => ?_⟩
        · rw [decide_eq_false (by grind)] at kk; exact kk
        · rw [decide_eq_true (by grind)] at kk; exact kk
      · have : clr K L a d = false := by cases hb : clr K L a d <;> simp_all
        rw [this] at k; exact k τ ag hS1
    · rw [bl_0] at q2
      rw [q2] at k; exact k τ ag hS1
theorem s_isNeedHeld {a d : Nat} {post : Int32 → DD → Prop} (hS : XS σ T K L) (ha : a < nA K) (hd : d < 2 ^ 30) (k : ∀ τ, AgX xq xl σ τ → XS τ T K L → post (bl (ndOk K L a d)) τ) : w_Court_isNeedHeld T σ (nI a) (nI d) post := by
  have hI := hS.1.2.2
  have ha8 := hI.a
  unfold w_Court_isNeedHeld
  refine s_trait 3 rfl hS.1.1 hI ha (by omega) ?_
  unfold ndOk at k
  refine ⟨fun q => ?_, fun q => ?_⟩
  · rw [decide_eq_true q] at k; exact k σ (AgX.refl σ) hS
  · obtain ⟨m, hm, em⟩ := (hI.act ha).2.2.2.resolve_left q
    rw [decide_eq_false q, em, nI_clamp (by omega)] at k
    rw [em]
    refine s_holdsUntil hS hm hd ?_
    intro τ ag hS2
    have hu := unt_lt hI hS.2.2.1 (a := m) (d := d) hm
    have kk := k τ ag hS2
    rw [hold_unt] at kk
    rw [nI_leI (by omega) (by omega)]
    refine ⟨fun q2 => ?_, fun q2 => ?_⟩
    · rw [decide_eq_false (by omega)] at kk; exact kk
    · rw [decide_eq_true (by omega)] at kk; exact kk
theorem s_can {a r d : Nat} {post : Int32 → DD → Prop} (hS : XS σ T K L) (ha : a < nA K) (hr : r < nR K) (hd : d < 2 ^ 30) (k : ∀ τ, AgX xq xl σ τ → XS τ T K L → post (bl (can K L a r d)) τ) : w_Court_can T σ (nI a) (nI r) (nI d) post := by
  unfold w_Court_can
  refine s_canBut hS ha hr hd ?_
  intro τ ag hS1
  rw [can_B] at k
  refine ⟨fun q => ?_, fun q => ?_⟩
  · rw [bl_0] at q
    rw [q] at k; exact k τ ag hS1
  · rw [bl_n] at q
    rw [q, Bool.true_and] at k
    refine s_isNeedHeld hS1 ha hd ?_
    intro τ2 ag2 hS2
    have kk := k τ2 (ag.trans ag2) hS2
    refine ⟨fun q2 => ?_, fun q2 => ?_⟩
    · rw [bl_0] at q2; rw [q2] at kk; exact kk
    · rw [bl_n] at q2; rw [q2] at kk; exact kk
end CO
