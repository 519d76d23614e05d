/-! ===== the log: what holds, what is left of a voice, what can be read ===== -/
abbrev RD : Type := Nat × Nat × Nat
def latF (a d : Nat) (b : Option RD) (x : RD) : Option RD := if x.1 = a ∧ x.2.2 ≤ d ∧ (∀ y, b = some y → y.2.2 ≤ x.2.2) then some x else b
def lat (L : List RD) (a d : Nat) : Option RD := L.foldl (latF a d) none
def hold (K : Nat → Int32) (L : List RD) (a d : Nat) : Bool := match lat L a d with
  | none => false
  | some x => decide (d - x.2.2 < lasN K a x.2.1 (x.2.2 % 7))
def bits (p : Nat → Bool) : Nat → Int32
  | 0 => 0
  | n + 1 => bits p n ||| (if p n then jshl 1 (nI n) else 0)
def held (K : Nat → Int32) (L : List RD) (d : Nat) : Int32 := bits (fun a => hold K L a d) (nA K)
def lefF (K : Nat → Int32) (r d : Nat) (z : Int32) (x : RD) : Int32 := z - (if x.2.1 = r ∧ x.2.2 = d then nI (takN K x.1 r (d % 7)) else 0)
def left (K : Nat → Int32) (L : List RD) (r d : Nat) : Int32 := L.foldl (lefF K r d) (K (96 + 2 * r))
def lsn (K : Nat → Int32) (d a : Nat) : Bool := decide (¬ K (104 + d % 7) &&& K (4 * a + 2) = 0)
def gsy (K : Nat → Int32) (a b : Nat) : Bool := decide (K (32 + 8 * a + b) = 1)
def clrX (K : Nat → Int32) (a d : Nat) (x : RD) : Bool := !(decide (x.2.2 = d) && (decide (x.1 = a) || gsy K a x.1))
def clr (K : Nat → Int32) (L : List RD) (a d : Nat) : Bool := L.all (clrX K a d)
def ndOk (K : Nat → Int32) (L : List RD) (a d : Nat) : Bool := decide (K (4 * a + 3) = -1) || hold K L (K (4 * a + 3)).toNatClampNeg d
def can (K : Nat → Int32) (L : List RD) (a r d : Nat) : Bool := !barN K a r (d % 7) && lsn K d a && clr K L a d && ndOk K L a d && decide (nI (takN K a r (d % 7)) ≤ left K L r d)
/-- the model's log -/
def MLg (σ : DD) (L : List RD) : Prop := gI σ 4 401 = nI L.length ∧ L.length ≤ 84 ∧ ∀ i x, L[i]? = some x → gI σ 4 (111 + 3 * i) = nI x.1 ∧ gI σ 4 (111 + 3 * i + 1) = nI x.2.1 ∧ gI σ 4 (111 + 3 * i + 2) = nI x.2.2
def LI (K : Nat → Int32) (L : List RD) : Prop := ∀ x, x ∈ L → x.1 < nA K ∧ x.2.1 < nR K ∧ x.2.2 < 2000
def MS (σ : DD) (K : Nat → Int32) (L : List RD) : Prop := QS σ K ∧ KI K ∧ MLg σ L ∧ LI K L
section LG
variable {σ τ : DD} {K : Nat → Int32} {L : List RD}
theorem MLg.ag {P : Nat → Nat → Prop} (h : MLg σ L) (a : Ag P σ τ) (hp : ∀ k, ¬ P 4 k) : MLg τ L := by
  refine ⟨(a.at 4 _ (hp _)).trans h.1, h.2.1, fun i x hx => ?_⟩
  rw [a.at 4 _ (hp _), a.at 4 _ (hp _), a.at 4 _ (hp _)]
  exact h.2.2 i x hx
theorem MS.q (h : MS σ K L) (a : Ag qP σ τ) (c : QS τ K) : MS τ K L := ⟨c, h.2.1, h.2.2.1.ag a qP4, h.2.2.2⟩
theorem foldl_take {α β : Type} {f : β → α → β} {z : β} {L : List α} {i : Nat} {x : α} (h : L[i]? = some x) : (L.take (i + 1)).foldl f z = f ((L.take i).foldl f z) x := by
  rw [List.take_add_one, List.foldl_append, h]; rfl
theorem s_reading {i : Nat} {x : RD} {post : Int32 → DD → Prop} {j : Int32} {v : Int32} (hM : MLg σ L) (hx : L[i]? = some x) (hj : (j = 0 ∧ v = nI x.1) ∨ (j = 1 ∧ v = nI x.2.1) ∨ (j = 2 ∧ v = nI x.2.2)) (k : post v σ) : w_M_reading σ (nI i) j post := by
  have hi : i < L.length := by
    rw [List.getElem?_eq_some_iff] at hx; exact hx.1
  have h84 := hM.2.1
  have hv := hM.2.2 i x hx
  have e : ∀ m : Nat, ((111 + (3 * nI i)) + nI m) = nI (111 + 3 * i + m) := by
    intro m
    rw [show (111 : Int32) = nI 111 from rfl, show (3 : Int32) = nI 3 from rfl, pk_mul, nI_add, nI_add]
  unfold w_M_reading
  rcases hj with ⟨h1, h2⟩ | ⟨h1, h2⟩ | ⟨h1, h2⟩
  · rw [h1, show (0 : Int32) = nI 0 from rfl, e, nI_clamp (by omega), show 111 + 3 * i + 0 = 111 + 3 * i from rfl, hv.1, ← h2]
    exact ⟨vp_in_nI (by omega) (by decide), k⟩
  · rw [h1, show (1 : Int32) = nI 1 from rfl, e, nI_clamp (by omega), hv.2.1, ← h2]
    exact ⟨vp_in_nI (by omega) (by decide), k⟩
  · rw [h1, show (2 : Int32) = nI 2 from rfl, e, nI_clamp (by omega), hv.2.2, ← h2]
    exact ⟨vp_in_nI (by omega) (by decide), k⟩
theorem get_lt {α : Type} {L : List α} {i : Nat} (h : i < L.length) : ∃ x, L[i]? = some x ∧ x ∈ L := ⟨L[i], List.getElem?_eq_getElem h, List.getElem_mem h⟩
theorem lat_mem {a d : Nat} {x : RD} (h : lat L a d = some x) : x ∈ L ∧ x.1 = a ∧ x.2.2 ≤ d := by
  have key : ∀ (M : List RD) (b : Option RD), (∀ y, b = some y → y ∈ L ∧ y.1 = a ∧ y.2.2 ≤ d) → (∀ y, y ∈ M → y ∈ L) → ∀ y, M.foldl (latF a d) b = some y → y ∈ L ∧ y.1 = a ∧ y.2.2 ≤ d := by
    intro M
    induction M with
    | nil => intro b hb _ y hy; exact hb y hy
    | cons z M ih =>
      intro b hb hM y hy
      refine ih (latF a d b z) ?_ (fun y hy => hM y (List.mem_cons_of_mem _ hy)) y hy
      intro y hy
      unfold latF at hy
      split at hy
      · rename_i hc
        injection hy with hy
        subst hy
        exact ⟨hM _ (List.mem_cons_self ..), hc.1, hc.2.1⟩
      · exact hb y hy
  exact key L none (by simp) (fun _ h => h) x h
theorem s_latestOf {a d : Nat} {post : Int32 → DD → Prop} (hM : MLg σ L) (ha : a < 2 ^ 31) (hL : ∀ x, x ∈ L → x.1 < 2 ^ 31 ∧ x.2.2 < 2 ^ 31) (hd : d < 2 ^ 31) (k0 : lat L a d = none → post (-1) σ) (k1 : ∀ i x, L[i]? = some x → lat L a d = some x → post (nI i) σ) : w_M_latestOf σ (nI a) (nI d) post := by
  unfold w_M_latestOf w_M_latestOf_l5
  have h84 := hM.2.1
  refine LoopN (fun n y => ∃ i, n = L.length - i ∧ i ≤ L.length ∧ y.1 = σ ∧ y.2.2 = nI i ∧ ((y.2.1 = -1 ∧ (L.take i).foldl (latF a d) none = none) ∨ ∃ j x, y.2.1 = nI j ∧ L[j]? = some x ∧ (L.take i).foldl (latF a d) none = some x)) ?_ (n := L.length) ⟨0, rfl, Nat.zero_le _, rfl, rfl, Or.inl ⟨rfl, rfl⟩⟩
  rintro n ⟨τ, b, a4⟩ KK ⟨i, hn, hi, eσ, e4, hb⟩ ih
  simp only [] at eσ e4 hb ⊢
  subst eσ; subst e4
  unfold w_M_latestOf_b5
  rw [hM.1, nI_leI (by omega) (by omega)]
  refine ⟨fun q => ?_, fun q => ?_⟩
  · have : i = L.length := by omega
    subst this
    rw [List.take_length] at hb
    rcases hb with ⟨h1, h2⟩ | ⟨j, x, h1, h2, h3⟩
    · rw [h1]; exact k0 h2
    · rw [h1]; exact k1 j x h2 h3
  · obtain ⟨x, hx, hxm⟩ := get_lt (L := L) (i := i) (by omega)
    have hxb := hL x hxm
    have nxt : ∀ b', ((b' = -1 ∧ (L.take (i + 1)).foldl (latF a d) none = none) ∨ ∃ j x, b' = nI j ∧ L[j]? = some x ∧ (L.take (i + 1)).foldl (latF a d) none = some x) → KK (τ, b', nI i + 1) := by
      intro b' hb'
      exact ih (L.length - (i + 1)) (τ, b', nI i + 1) (by omega) ⟨i + 1, rfl, by omega, rfl, (nI_1 i), hb'⟩
    have keep : latF a d ((L.take i).foldl (latF a d) none) x = (L.take i).foldl (latF a d) none → KK (τ, b, nI i + 1) := by
      intro he
      refine nxt b ?_
      rw [foldl_take hx, he]; exact hb
    have take : latF a d ((L.take i).foldl (latF a d) none) x = some x → KK (τ, nI i, nI i + 1) := by
      intro he
      refine nxt (nI i) (Or.inr ⟨i, x, rfl, hx, ?_⟩)
      rw [foldl_take hx, he]
    refine s_reading hM hx (Or.inl ⟨rfl, rfl⟩) ⟨fun q2 => keep ?_, fun q2 => ?_⟩
    · unfold latF; rw [if_neg]; rintro ⟨z, -⟩; exact q2 (by rw [z])
    · rw [nI_eq hxb.1 ha] at q2
      refine s_reading hM hx (Or.inr (Or.inr ⟨rfl, rfl⟩)) ?_
      rw [nI_ltI hd hxb.2]
      refine ⟨fun q3 => keep ?_, fun q3 => ?_⟩
      · unfold latF; rw [if_neg]; rintro ⟨-, z, -⟩; omega
      · unfold w_M_latestOf_j61
        rcases hb with ⟨h1, h2⟩ | ⟨j, y, h1, h2, h3⟩
        · refine ⟨fun _ => take ?_, fun z => absurd h1 z⟩
          rw [h2]; unfold latF; rw [if_pos ⟨q2, by omega, by simp⟩]
        · have hj : j < L.length := by rw [List.getElem?_eq_some_iff] at h2; exact h2.1
          have hym : y ∈ L := List.mem_of_getElem? h2
          refine ⟨fun z => absurd z (by rw [h1]; exact nI_m1 (by omega)), fun _ => ?_⟩
          rw [h1]
          refine s_reading hM hx (Or.inr (Or.inr ⟨rfl, rfl⟩)) (s_reading hM h2 (Or.inr (Or.inr ⟨rfl, rfl⟩)) ?_)
          rw [nI_ltI hxb.2 (hL y hym).2, ← h1]
          refine ⟨fun q4 => keep ?_, fun q4 => take ?_⟩
          · rw [h3]; unfold latF; rw [if_neg]; rintro ⟨-, -, z⟩; have := z y rfl; omega
          · rw [h3]; unfold latF; rw [if_pos ⟨q2, by omega, by intro z hz; injection hz with hz; subst hz; omega⟩]
theorem LI.b (h : LI K L) (hI : KI K) : ∀ x, x ∈ L → x.1 < 2 ^ 31 ∧ x.2.2 < 2 ^ 31 := fun x hx => by
  have := h x hx; have := hI.a; omega
theorem s_holdsOn {a d : Nat} {post : Int32 → DD → Prop} (hS : MS σ K L) (ha : a < nA K) (hd : d < 2 ^ 30) (k : ∀ τ, Ag qP σ τ → MS τ K L → post (bl (hold K L a d)) τ) : w_M_holdsOn σ (nI a) (nI d) post := by
  obtain ⟨hq, hI, hM, hL⟩ := hS
  have hS : MS σ K L := ⟨hq, hI, hM, hL⟩
  have ha8 := hI.a
  unfold w_M_holdsOn
  refine s_latestOf hM (by omega) (hL.b hI) (by omega) (fun hn => ⟨fun _ => ?_, fun z => absurd rfl z⟩) (fun i x hx hl => ⟨fun z => absurd z (nI_m1 ?_), fun _ => ?_⟩)
  · have := k σ (Ag.refl σ) hS
    unfold hold at this; rw [hn] at this; exact this
  · have : i < L.length := by rw [List.getElem?_eq_some_iff] at hx; exact hx.1
    have := hM.2.1
    omega
  · have hm := lat_mem hl
    have hb := hL x hm.1
    refine s_reading hM hx (Or.inr (Or.inr ⟨rfl, rfl⟩)) (s_reading hM hx (Or.inr (Or.inl ⟨rfl, rfl⟩)) (s_reading hM hx (Or.inr (Or.inr ⟨rfl, rfl⟩)) ?_))
    refine s_lasts hq hI ha hb.2.1 (by omega) ?_
    intro τ ag c
    have hla := (lasN_e hI (r := x.2.1) (w := x.2.2 % 7) ha).2
    rw [pk_sub hm.2.2, nI_leI (by omega) (by omega)]
    have kk := k τ ag (hS.q ag c)
    unfold hold at kk
    rw [hl] at kk
    simp only [] at kk
    refine ⟨fun q => ?_, fun q => ?_⟩
    · rw [decide_eq_false (by omega)] at kk; exact kk
    · rw [decide_eq_true (by omega)] at kk; exact kk
theorem s_heldOn {d : Nat} {post : Int32 → DD → Prop} (hS : MS σ K L) (hd : d < 2 ^ 30) (k : ∀ τ, Ag qP σ τ → MS τ K L → post (held K L d) τ) : w_M_heldOn σ (nI d) post := by
  have ha8 := hS.2.1.a
  unfold w_M_heldOn w_M_heldOn_l4
  refine LoopN (fun n y => ∃ i, n = nA K - i ∧ i ≤ nA K ∧ Ag qP σ y.1 ∧ MS y.1 K L ∧ y.2.2 = nI i ∧ y.2.1 = bits (fun a => hold K L a d) i) ?_ (n := nA K) ⟨0, rfl, Nat.zero_le _, Ag.refl σ, hS, rfl, rfl⟩
  rintro n ⟨τ, b, a4⟩ KK ⟨i, hn, hi, ag, hS', e4, hb⟩ ih
  simp only [] at ag hS' e4 hb ⊢
  subst e4
  unfold w_M_heldOn_b4
  rw [hS'.1.1 399 (by unfold dyn; omega), ha8.1, nI_leI (by omega) (by omega)]
  refine ⟨fun q => ?_, fun q => ?_⟩
  · have : i = nA K := by omega
    subst this
    rw [hb]; exact k τ ag hS'
  · refine s_holdsOn hS' (by omega) hd ?_
    intro τ2 ag2 hS2
    unfold w_M_heldOn_j33
    have nx : ∀ v1, v1 = bits (fun a => hold K L a d) (i + 1) → KK (τ2, v1, nI i + 1) := fun v1 hv => ih (nA K - (i + 1)) (τ2, v1, nI i + 1) (by omega) ⟨i + 1, rfl, by omega, ag.trans ag2, hS2, (nI_1 i), hv⟩
    refine ⟨fun z v1 e1 => nx v1 ?_, fun z v1 e1 => nx v1 ?_⟩
    · rw [bl_0] at z
      rw [e1, hb]; simp [bits, z]
    · rw [bl_n] at z
      rw [e1, hb]; simp [bits, z]
theorem s_leftOn {r d : Nat} {post : Int32 → DD → Prop} (hS : MS σ K L) (hr : r < nR K) (hd : d < 2 ^ 30) (k : ∀ τ, Ag qP σ τ → MS τ K L → post (left K L r d) τ) : w_M_leftOn σ (nI r) (nI d) post := by
  have hr4 := hS.2.1.r
  have h84 := hS.2.2.1.2.1
  unfold w_M_leftOn
  rw [show (96 : Int32) = nI 96 from rfl, show (2 : Int32) = nI 2 from rfl, pk_mul, nI_add, nI_clamp (by omega), hS.1.1 (96 + 2 * r) (dyn_lt (by omega))]
  refine ⟨vp_in_nI (by omega) (by decide), ?_⟩
  intro v15 e15
  unfold w_M_leftOn_l15
  refine LoopN (fun n y => ∃ i, n = L.length - i ∧ i ≤ L.length ∧ Ag qP σ y.1 ∧ MS y.1 K L ∧ y.2.2 = nI i ∧ y.2.1 = (L.take i).foldl (lefF K r d) (K (96 + 2 * r))) ?_ (n := L.length) ⟨0, rfl, Nat.zero_le _, Ag.refl σ, hS, rfl, e15⟩
  rintro n ⟨τ, b, a4⟩ KK ⟨i, hn, hi, ag, hS', e4, hb⟩ ih
  simp only [] at ag hS' e4 hb ⊢
  subst e4
  unfold w_M_leftOn_b15
  have hM' := hS'.2.2.1
  rw [hM'.1, nI_leI (by omega) (by omega)]
  refine ⟨fun q => ?_, fun q => ?_⟩
  · have : i = L.length := by omega
    subst this
    rw [List.take_length] at hb
    rw [hb]; exact k τ ag hS'
  · obtain ⟨x, hx, hxm⟩ := get_lt (L := L) (i := i) (by omega)
    have hxb := hS.2.2.2 x hxm
    have ha8 := hS.2.1.a
    have nx : ∀ τ2 t1, Ag qP τ τ2 → MS τ2 K L → (if x.2.1 = r ∧ x.2.2 = d then nI (takN K x.1 r (d % 7)) else 0) = t1 → w_M_leftOn_j68 (fun σ a3 a4 => KK (σ, a3, a4)) post τ2 (nI r) (nI d) (nI i) b t1 := by
      intro τ2 t1 ag2 hS2 ht
      unfold w_M_leftOn_j68
      intro v1 e1
      refine ih (L.length - (i + 1)) (τ2, v1, nI i + 1) (by omega) ⟨i + 1, rfl, by omega, ag.trans ag2, hS2, (nI_1 i), ?_⟩
      rw [foldl_take hx, ← hb]
      unfold lefF
      rw [ht, e1]
    unfold w_M_leftOn_j67
    refine s_reading hM' hx (Or.inr (Or.inl ⟨rfl, rfl⟩)) ?_
    rw [nI_eq (by omega) (by omega)]
    refine ⟨fun q2 => nx τ 0 (Ag.refl τ) hS' (by rw [if_neg (fun z => q2 z.1)]), fun q2 => ?_⟩
    refine s_reading hM' hx (Or.inr (Or.inr ⟨rfl, rfl⟩)) ?_
    rw [nI_eq (by omega) (by omega)]
    refine ⟨fun q3 => nx τ 0 (Ag.refl τ) hS' (by rw [if_neg (fun z => q3 z.2)]), fun q3 => ?_⟩
    refine s_reading hM' hx (Or.inl ⟨rfl, rfl⟩) ?_
    refine s_takes hS'.1 hS'.2.1 hxb.1 hr (by omega) ?_
    intro τ2 ag2 c2
    exact nx τ2 _ ag2 (hS'.q ag2 c2) (by rw [if_pos ⟨q2, q3⟩])
theorem s_gainsays {a b : Nat} {post : Int32 → DD → Prop} (hK : MK σ K) (ha : a < 8) (hb : b < 8) (k : post (bl (gsy K a b)) σ) : w_M_gainsays σ (nI a) (nI b) post := by
  unfold w_M_gainsays
  rw [show (32 : Int32) = nI 32 from rfl, show (8 : Int32) = nI 8 from rfl, pk_mul, nI_add, nI_add, nI_clamp (by omega), hK (32 + 8 * a + b) (dyn_lt (by omega))]
  refine ⟨vp_in_nI (by omega) (by decide), ?_⟩
  unfold gsy at k
  refine ⟨fun q => ?_, fun q => ?_⟩
  · rw [decide_eq_false q] at k; exact k
  · rw [decide_eq_true q] at k; exact k
theorem s_canRead {a r d : Nat} {post : Int32 → DD → Prop} (hS : MS σ K L) (ha : a < nA K) (hr : r < nR K) (hd : d < 2 ^ 30) (k : ∀ τ, Ag qP σ τ → MS τ K L → post (bl (can K L a r d)) τ) : w_M_canRead σ (nI a) (nI r) (nI d) post := by
  have ha8 := hS.2.1.a
  have hr4 := hS.2.1.r
  have h84 := hS.2.2.1.2.1
  have hd7 : d % 7 < 7 := Nat.mod_lt _ (by decide)
  unfold can at k
  unfold w_M_canRead
  refine s_barred hS.1 hS.2.1 ha hr (by omega) ?_
  intro τ ag c
  have hS1 := hS.q ag c
  refine ⟨fun q => ?_, fun q => ?_⟩
  · rw [bl_n] at q
    rw [q] at k; exact k τ ag hS1
  · rw [bl_0] at q
    rw [jrem7 (by omega), show (104 : Int32) = nI 104 from rfl, nI_add, nI_clamp (by omega), hS1.1.1 (104 + d % 7) (by unfold dyn; omega)]
    refine ⟨vp_in_nI (by omega) (by decide), s_fact 2 rfl (by omega) (by omega) ?_⟩
    rw [hS1.1.1 (4 * a + 2) (dyn_lt (by omega))]
    refine ⟨fun q2 => ?_, fun q2 => ?_⟩
    · have hl : lsn K d a = true := by unfold lsn; exact decide_eq_true q2
      rw [q, hl] at k
      unfold w_M_canRead_l37
      refine LoopN (fun n y => ∃ i, n = L.length - i ∧ i ≤ L.length ∧ Ag qP σ y.1 ∧ MS y.1 K L ∧ y.2 = nI i ∧ (L.take i).all (clrX K a d) = true) ?_ (n := L.length) ⟨0, rfl, Nat.zero_le _, ag, hS1, rfl, rfl⟩
      rintro n ⟨τ1, a4⟩ KK ⟨i, hn, hi, ag1, hS', e4, hall⟩ ih
      simp only [] at ag1 hS' e4 hall ⊢
      subst e4
      unfold w_M_canRead_b37
      have hM' := hS'.2.2.1
      rw [hM'.1, nI_leI (by omega) (by omega)]
      refine ⟨fun q3 => ?_, fun q3 => ?_⟩
      · have : i = L.length := by omega
        subst this
        rw [List.take_length] at hall
        have hclr : clr K L a d = true := hall
        rw [hclr] at k
        have fin : ∀ τ2, Ag qP σ τ2 → MS τ2 K L → ndOk K L a d = true → w_M_canRead_j121 post τ2 (nI a) (nI r) (nI d) := by
          intro τ2 ag2 hS2 hnd
          rw [hnd] at k
          unfold w_M_canRead_j121
          refine s_leftOn hS2 hr hd ?_
          intro τ3 ag3 hS3
          refine s_takes hS3.1 hS3.2.1 ha hr (by omega) ?_
          intro τ4 ag4 c4
          have kk := k τ4 (ag2.trans (ag3.trans ag4)) (hS3.q ag4 c4)
          refine ⟨fun q5 => ?_, fun q5 => ?_⟩
          · rw [decide_eq_false (by grind)] at kk; exact kk
          · rw [decide_eq_true (by grind)] at kk; exact kk
        refine s_fact 3 rfl (by omega) (by omega) ?_
        rw [hS'.1.1 (4 * a + 3) (dyn_lt (by omega))]
        refine ⟨fun q4 => fin τ1 ag1 hS' (by unfold ndOk; rw [decide_eq_true q4]; rfl), fun q4 => ?_⟩
        refine s_fact 3 rfl (by omega) (by omega) ?_
        rw [hS'.1.1 (4 * a + 3) (dyn_lt (by omega))]
        obtain ⟨m, hm, em⟩ := (hS.2.1.act ha).2.2.2.resolve_left q4
        rw [em]
        refine s_holdsOn hS' hm hd ?_
        intro τ2 ag2 hS2
        have hnd : ndOk K L a d = hold K L m d := by
          unfold ndOk; rw [decide_eq_false q4, em, nI_clamp (by omega)]; rfl
        refine ⟨fun q5 => ?_, fun q5 => ?_⟩
        · rw [bl_n] at q5
          exact fin τ2 (ag1.trans ag2) hS2 (by rw [hnd]; exact q5)
        · rw [bl_0] at q5
          rw [hnd, q5] at k
          exact k τ2 (ag1.trans ag2) hS2
      · obtain ⟨x, hx, hxm⟩ := get_lt (L := L) (i := i) (by omega)
        have hxb := hS.2.2.2 x hxm
        have nx : clrX K a d x = true → KK (τ1, nI i + 1) := by
          intro hc
          refine ih (L.length - (i + 1)) (τ1, nI i + 1) (by omega) ⟨i + 1, rfl, by omega, ag1, hS', (nI_1 i), ?_⟩
          rw [List.take_add_one, List.all_append, hall, hx]
          simp [hc]
        have no : clrX K a d x = false → post 0 τ1 := by
          intro hc
          have : clr K L a d = false := by
            unfold clr
            rw [List.all_eq_false]
            exact ⟨x, hxm, by rw [hc]; simp⟩
          rw [this] at k
          exact k τ1 ag1 hS'
        refine s_reading hM' hx (Or.inr (Or.inr ⟨rfl, rfl⟩)) ?_
        rw [nI_eq (by omega) (by omega)]
        refine ⟨fun q4 => nx (by unfold clrX; rw [decide_eq_false q4]; rfl), fun q4 => ?_⟩
        refine s_reading hM' hx (Or.inl ⟨rfl, rfl⟩) ?_
        rw [nI_eq (by omega) (by omega)]
        refine ⟨fun q5 => no (by unfold clrX; rw [decide_eq_true q4, decide_eq_true q5]; rfl), fun q5 => ?_⟩
        refine s_reading hM' hx (Or.inl ⟨rfl, rfl⟩) (s_gainsays hS'.1.1 (by omega) (by omega) ?_)
        refine ⟨fun q6 => ?_, fun q6 => ?_⟩
        · rw [bl_0] at q6
          exact nx (by unfold clrX; rw [decide_eq_true q4, decide_eq_false q5, q6]; rfl)
        · rw [bl_n] at q6
          exact no (by unfold clrX; rw [decide_eq_true q4, decide_eq_false q5, q6]; rfl)
    · have hl : lsn K d a = false := by unfold lsn; exact decide_eq_false (fun z => z q2)
      rw [hl] at k
      simp only [Bool.and_false, Bool.false_and] at k
      exact k τ ag hS1
end LG
