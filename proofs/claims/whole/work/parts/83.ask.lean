/-! ===== the small questions ===== -/
theorem inB_z {x : Int32} {hi : Nat} (h : inB x 0 (nI hi) = true) (hh : hi < 2 ^ 31) : ∃ j, j ≤ hi ∧ x = nI j := by
  have q := of_decide_eq_true h
  obtain ⟨e, h3⟩ := nI_toN q.1
  have h2 := q.2
  rw [e, nI_leI h3 hh] at h2
  exact ⟨_, h2, e⟩
theorem inB_o {x : Int32} {hi : Nat} (h : inB x 1 (nI hi) = true) (hh : hi < 2 ^ 31) : ∃ j, 1 ≤ j ∧ j ≤ hi ∧ x = nI j := by
  have q := of_decide_eq_true h
  have h0 : 0 ≤ x := by have := q.1; grind
  obtain ⟨e, h3⟩ := nI_toN h0
  have h1 := q.1
  have h2 := q.2
  rw [e, nI_leI h3 hh] at h2
  rw [e, show (1 : Int32) = nI 1 from rfl, nI_leI (by decide) h3] at h1
  exact ⟨_, h1, h2, e⟩
def isTm (a v : Int32) : Bool := if a = 0 then inB v 0 999 else if a = 1 then inB v 0 10 else if a = 2 then inB v 1 60 else if a = 3 then inB v 0 9 else false
def isFt (a v : Int32) : Bool := if a = 0 then inB v 1 60 else if a = 1 then inB v 1 30 else if a = 2 then inB v 1 63 else false
def ofS (K : Nat → Int32) (L : List RD) (d : Nat) (a1 a2 : Int32) : Int32 := if actB K a1 then (if inB a2 0 3 then K (4 * a1.toNatClampNeg + a2.toNatClampNeg) else if a2 = 5 then bl (hold K L a1.toNatClampNeg d) else if a2 = 4 then (match lat L a1.toNatClampNeg d with
  | none => -1
  | some x => nI d - nI x.2.2) else -1) else -1
def thrS (K : Nat → Int32) (L : List RD) (d : Nat) (a1 a2 : Int32) : Int32 := if rdrB K a1 then (if a2 = 0 then K (96 + 2 * a1.toNatClampNeg) else if a2 = 1 then K (96 + 2 * a1.toNatClampNeg + 1) else if a2 = 2 then left K L a1.toNatClampNeg d else -1) else -1
def askS (K : Nat → Int32) (L : List RD) (d : Nat) (a1 a2 a3 : Int32) : Int32 := if actB K a1 && rdrB K a2 then (if a3 = 0 then nI (lasN K a1.toNatClampNeg a2.toNatClampNeg (d % 7)) else if a3 = 1 then nI (takN K a1.toNatClampNeg a2.toNatClampNeg (d % 7)) else if a3 = 2 then bl (barN K a1.toNatClampNeg a2.toNatClampNeg (d % 7)) else if a3 = 3 then bl (can K L a1.toNatClampNeg a2.toNatClampNeg d) else -1) else -1
def logS (K : Nat → Int32) (L : List RD) (a1 a2 : Int32) : Int32 := if 0 ≤ a1 ∧ a1 < nI L.length then (match L[a1.toNatClampNeg]? with
  | none => -1
  | some x => if a2 = 0 then nI x.1 else if a2 = 1 then nI x.2.1 else if a2 = 2 then nI x.2.2 else if a2 = 3 then nI (lasN K x.1 x.2.1 (x.2.2 % 7)) else -1) else -1
def hldS (K : Nat → Int32) (L : List RD) (a1 : Int32) : Int32 := if inB a1 0 999 then held K L a1.toNatClampNeg else -1
def bndS (K : Nat → Int32) (L : List RD) (a1 a2 : Int32) : Int32 := if inB a1 0 5 && inB a2 0 999 then bits (fun a => bOf (K (4 * a + 2)) a1.toNatClampNeg && hold K L a a2.toNatClampNeg) (nA K) else -1
section AQ
variable {σ τ : DD} {T : TXT} {K : Nat → Int32} {L : List RD}
theorem s_Xlasts {a r d : Nat} {post : Int32 → DD → Prop} (hS : XS σ T K L) (ha : a < nA K) (hr : r < nR K) (hd : d < 2 ^ 31) (k : ∀ τ, AgX xq xl σ τ → XS τ T K L → post (nI (lasN K a r (d % 7))) τ) : w_Court_lasts T σ (nI a) (nI r) (nI d) post := by
  unfold w_Court_lasts
  refine s_answerOf hS.1 ha hr hd ?_
  intro τ ag c
  rw [(pack_e hS.1.2.2 ha).1]
  exact k τ ag (hS.q ag c)
theorem s_Xtakes {a r d : Nat} {post : Int32 → DD → Prop} (hS : XS σ T K L) (ha : a < nA K) (hr : r < nR K) (hd : d < 2 ^ 31) (k : ∀ τ, AgX xq xl σ τ → XS τ T K L → post (nI (takN K a r (d % 7))) τ) : w_Court_takes T σ (nI a) (nI r) (nI d) post := by
  unfold w_Court_takes
  refine s_answerOf hS.1 ha hr hd ?_
  intro τ ag c
  rw [(pack_e hS.1.2.2 ha).2.1]
  exact k τ ag (hS.q ag c)
theorem s_Xbars {a r d : Nat} {post : Int32 → DD → Prop} (hS : XS σ T K L) (ha : a < nA K) (hr : r < nR K) (hd : d < 2 ^ 31) (k : ∀ τ, AgX xq xl σ τ → XS τ T K L → post (bl (barN K a r (d % 7))) τ) : w_Court_bars T σ (nI a) (nI r) (nI d) post := by
  unfold w_Court_bars
  refine s_answerOf hS.1 ha hr hd ?_
  intro τ ag c
  have kk := k τ ag (hS.q ag c)
  have e := (pack_e hS.1.2.2 (r := r) (w := d % 7) ha).2.2
  refine ⟨fun q => ?_, fun q => ?_⟩
  · rw [e.1 q] at kk; exact kk
  · have : barN K a r (d % 7) = true := by
      cases h : barN K a r (d % 7)
      · exact absurd (e.2 h) q
      · rfl
    rw [this] at kk; exact kk
theorem s_XcanBeTerm {a v : Int32} {post : Int32 → DD → Prop} (k : post (bl (isTm a v)) σ) : w_Real_canBeTerm T σ a v post := by
  unfold w_Real_canBeTerm
  have neg : (a < 0 ∨ ¬ a < 4) → post 0 σ := by
    intro h
    have : isTm a v = false := by
      unfold isTm
      rw [if_neg (by grind), if_neg (by grind), if_neg (by grind), if_neg (by grind)]
    rw [this] at k; exact k
  refine ⟨fun q => neg (Or.inl q), fun q => ⟨fun q2 => ?_, fun q2 => neg (Or.inr q2)⟩⟩
  obtain ⟨n, hn, e⟩ := nI_ltE (x := a) (n := 4) ⟨by grind, q2⟩ (by decide)
  subst e
  rw [nI_clamp (by omega)]
  have hin := vp_in_nI (n := n) (N := 4) hn (by decide)
  have key : ∀ lo hi : Int32, tabV 2 n = lo → tabV 3 n = hi → isTm (nI n) v = inB v lo hi → vp_in (nI n) 4 ∧ (v < tabV 2 n → post 0 σ) ∧ (¬ v < tabV 2 n → vp_in (nI n) 4 ∧ (tabV 3 n < v → post 0 σ) ∧ (¬ tabV 3 n < v → post 1 σ)) := by
    intro lo hi e1 e2 e3
    rw [e1, e2]
    rw [e3] at k
    refine ⟨hin, fun z => ?_, fun z => ⟨hin, fun z2 => ?_, fun z2 => ?_⟩⟩
    · have : inB v lo hi = false := by unfold inB; exact decide_eq_false (by grind)
      rw [this] at k; exact k
    · have : inB v lo hi = false := by unfold inB; exact decide_eq_false (by grind)
      rw [this] at k; exact k
    · have : inB v lo hi = true := by unfold inB; exact decide_eq_true (by grind)
      rw [this] at k; exact k
  have h4 : n = 0 ∨ n = 1 ∨ n = 2 ∨ n = 3 := by omega
  rcases h4 with h | h | h | h <;> subst h
  · exact key 0 999 rfl rfl rfl
  · exact key 0 10 rfl rfl rfl
  · exact key 1 60 rfl rfl rfl
  · exact key 0 9 rfl rfl rfl
theorem s_XcanBeTrait {a v : Int32} {post : Int32 → DD → Prop} (k : post (bl (isFt a v)) σ) : w_Real_canBeTrait T σ a v post := by
  unfold w_Real_canBeTrait
  have neg : (a < 0 ∨ ¬ a < 3) → post 0 σ := by
    intro h
    have : isFt a v = false := by
      unfold isFt
      rw [if_neg (by grind), if_neg (by grind), if_neg (by grind)]
    rw [this] at k; exact k
  refine ⟨fun q => neg (Or.inl q), fun q => ⟨fun q2 => ?_, fun q2 => neg (Or.inr q2)⟩⟩
  obtain ⟨n, hn, e⟩ := nI_ltE (x := a) (n := 3) ⟨by grind, q2⟩ (by decide)
  subst e
  rw [nI_clamp (by omega)]
  have hin := vp_in_nI (n := n) (N := 3) hn (by decide)
  have key : ∀ lo hi : Int32, tabV 0 n = lo → tabV 1 n = hi → isFt (nI n) v = inB v lo hi → vp_in (nI n) 3 ∧ (v < tabV 0 n → post 0 σ) ∧ (¬ v < tabV 0 n → vp_in (nI n) 3 ∧ (tabV 1 n < v → post 0 σ) ∧ (¬ tabV 1 n < v → post 1 σ)) := by
    intro lo hi e1 e2 e3
    rw [e1, e2]
    rw [e3] at k
    refine ⟨hin, fun z => ?_, fun z => ⟨hin, fun z2 => ?_, fun z2 => ?_⟩⟩
    · have : inB v lo hi = false := by unfold inB; exact decide_eq_false (by grind)
      rw [this] at k; exact k
    · have : inB v lo hi = false := by unfold inB; exact decide_eq_false (by grind)
      rw [this] at k; exact k
    · have : inB v lo hi = true := by unfold inB; exact decide_eq_true (by grind)
      rw [this] at k; exact k
  have h4 : n = 0 ∨ n = 1 ∨ n = 2 := by omega
  rcases h4 with h | h | h <;> subst h
  · exact key 1 60 rfl rfl rfl
  · exact key 1 30 rfl rfl rfl
  · exact key 1 63 rfl rfl rfl
theorem s_isDay {v : Int32} {post : Int32 → DD → Prop} (k : post (bl (inB v 0 999)) σ) : w_M_isDay σ v post := s_lies ⟨bl_z _, k⟩
theorem s_isClass {v : Int32} {post : Int32 → DD → Prop} (k : post (bl (inB v 0 5)) σ) : w_M_isClass σ v post := s_lies ⟨bl_z _, k⟩
theorem s_isTerm {a v : Int32} {post : Int32 → DD → Prop} (k : post (bl (isTm a v)) σ) : w_M_isTerm σ a v post := by
  unfold w_M_isTerm
  unfold isTm at k
  refine ⟨fun q => ?_, fun q => ⟨fun q2 => ?_, fun q2 => ⟨fun q3 => ?_, fun q3 => ⟨fun q4 => ?_, fun q4 => ?_⟩⟩⟩⟩
  · rw [if_pos q] at k; exact s_isDay ⟨bl_z _, k⟩
  · rw [if_neg q, if_pos q2] at k; exact s_lies ⟨bl_z _, k⟩
  · rw [if_neg q, if_neg q2, if_pos q3] at k; exact s_lies ⟨bl_z _, k⟩
  · rw [if_neg q, if_neg q2, if_neg q3, if_pos q4] at k; exact s_lies ⟨bl_z _, k⟩
  · rw [if_neg q, if_neg q2, if_neg q3, if_neg q4] at k; exact k
theorem s_isFact {a v : Int32} {post : Int32 → DD → Prop} (k : post (bl (isFt a v)) σ) : w_M_isFact σ a v post := by
  unfold w_M_isFact
  unfold isFt at k
  refine ⟨fun q => ⟨fun q2 => ⟨fun q3 => ?_, fun q3 => ?_⟩, fun q2 => ?_⟩, fun q => ?_⟩
  · rw [if_neg q, if_neg q2, if_neg q3] at k; exact k
  · rw [if_neg q, if_neg q2, if_pos q3] at k
    refine s_lies (br0 (fun e => ?_) (fun e => ?_))
    · rw [e] at k; exact k
    · rw [e] at k; exact k
  · rw [if_neg q, if_pos q2] at k; exact s_lies ⟨bl_z _, k⟩
  · rw [if_pos q] at k; exact s_lies ⟨bl_z _, k⟩
theorem s_Mof {d : Nat} {a1 a2 : Int32} {post : Int32 → DD → Prop} (hS : MS σ K L) (hday : gI σ 4 395 = nI d) (hd : d ≤ 999) (k : ∀ τ, PM σ τ → MS τ K L → post (ofS K L d a1 a2) τ) : w_M_of σ a1 a2 post := by
  have ha8 := hS.2.1.a
  unfold w_M_of
  refine s_isAct hS.1.1 hS.2.1 (br1 (fun e => ?_) (fun e => ?_))
  · obtain ⟨a, ha, ea⟩ := actB_e hS.2.1 e
    simp only [ofS, e, if_true] at k
    subst ea
    rw [nI_clamp (by omega)] at k
    refine s_lies (br0 (fun e2 => ?_) (fun e2 => ?_))
    · simp only [e2, Bool.false_eq_true, if_false] at k
      refine ⟨fun q => ?_, fun q => ?_⟩
      · rw [if_neg q] at k
        rw [hday]
        refine s_latestOf hS.2.2.1 (by omega) (hS.2.2.2.b hS.2.1) (by omega) (fun hn => ?_) (fun i y hy hl => ?_)
        · rw [hn] at k
          refine ⟨fun q2 => ?_, fun q2 => ⟨fun z => absurd rfl z, fun _ => ?_⟩⟩
          · rw [if_neg q2] at k; exact k σ (PM.refl σ) hS
          · rw [if_pos q2] at k; exact k σ (PM.refl σ) hS
        · rw [hl] at k
          have hi : i < L.length := by rw [List.getElem?_eq_some_iff] at hy; exact hy.1
          have h84 := hS.2.2.1.2.1
          refine ⟨fun q2 => ?_, fun q2 => ⟨fun z => ?_, fun z => absurd z (nI_m1 (by omega))⟩⟩
          · rw [if_neg q2] at k; exact k σ (PM.refl σ) hS
          · rw [if_pos q2] at k
            refine s_reading hS.2.2.1 hy (Or.inr (Or.inr ⟨rfl, rfl⟩)) ?_
            rw [hday]
            exact k σ (PM.refl σ) hS
      · rw [if_pos q] at k
        rw [hday]
        refine s_holdsOn hS ha (by omega) ?_
        intro τ ag hS2
        have kk := k τ (PM.q ag) hS2
        refine br0 (fun e3 => ?_) (fun e3 => ?_)
        · rw [e3] at kk; exact kk
        · rw [e3] at kk; exact kk
    · obtain ⟨j, hj, ej⟩ := inB_z (hi := 3) e2 (by decide)
      simp only [e2, if_true] at k
      subst ej
      rw [nI_clamp (by omega)] at k
      refine s_fact j rfl (by omega) (by omega) ?_
      rw [hS.1.1 (4 * a + j) (dyn_lt (by omega))]
      exact k σ (PM.refl σ) hS
  · simp only [ofS, e, Bool.false_eq_true, if_false] at k
    exact k σ (PM.refl σ) hS
theorem s_Xof {d : Nat} {a1 a2 : Int32} {post : Int32 → DD → Prop} (hS : XS σ T K L) (hday : gI σ 208 0 = nI d) (hd : d ≤ 999) (k : ∀ τ, AgX scrX scrL σ τ → XS τ T K L → post (ofS K L d a1 a2) τ) : w_Face_of T σ a1 a2 post := by
  have hI := hS.1.2.2
  have ha8 := hI.a
  unfold w_Face_of
  refine s_XisAct hS.1.1 hI (br0 (fun e => ?_) (fun e => ?_))
  · simp only [ofS, e, Bool.false_eq_true, if_false] at k
    exact k σ (AgX.refl σ) hS
  · obtain ⟨a, ha, ea⟩ := actB_e hI e
    simp only [ofS, e, if_true] at k
    subst ea
    rw [nI_clamp (by omega)] at k
    have out : (a2 < 0 ∨ ¬ a2 ≤ 5) → post (-1) σ := by
      intro h
      have e2 : inB a2 0 3 = false := by unfold inB; exact decide_eq_false (by grind)
      simp only [e2, Bool.false_eq_true, if_false] at k
      rw [if_neg (by grind), if_neg (by grind)] at k
      exact k σ (AgX.refl σ) hS
    refine ⟨fun q => out (Or.inl q), fun q => ⟨fun q2 => ⟨fun q3 => ?_, fun q3 => ?_⟩, fun q2 => out (Or.inr q2)⟩⟩
    · have e2 : inB a2 0 3 = false := by unfold inB; exact decide_eq_false (by grind)
      simp only [e2, Bool.false_eq_true, if_false] at k
      intro v7 e7
      rw [hday] at e7
      subst e7
      refine ⟨fun q4 => ?_, fun q4 => ?_⟩
      · rw [if_pos (by grind)] at k
        refine s_holds hS ha (by omega) ?_
        intro τ ag hS2
        have kk := k τ ag.scr hS2
        refine br0 (fun e3 => ?_) (fun e3 => ?_)
        · rw [e3] at kk; exact kk
        · rw [e3] at kk; exact kk
      · rw [if_neg (by grind), if_pos q4] at k
        unfold w_Real_daysSince
        have h84 := hS.2.1.2.1
        refine s_latestTold hS (by omega) (by omega) (fun hn => ?_) (fun i y hy hl => ?_)
        · rw [hn] at k
          exact ⟨fun z => absurd rfl z, fun _ => k σ (AgX.refl σ) hS⟩
        · rw [hl] at k
          have hi : i < L.length := by rw [List.getElem?_eq_some_iff] at hy; exact hy.1
          refine ⟨fun z => ⟨vp_in_nI (by omega) (by decide), ?_⟩, fun z => absurd z (nI_m1 (by omega))⟩
          rw [nI_clamp (by omega), (hS.2.1.x hy).2.2]
          exact k σ (AgX.refl σ) hS
    · have e2 : inB a2 0 3 = true := by unfold inB; exact decide_eq_true (by grind)
      obtain ⟨j, hj, ej⟩ := inB_z (hi := 3) e2 (by decide)
      simp only [e2, if_true] at k
      subst ej
      rw [nI_clamp (by omega)] at k
      exact s_trait j rfl hS.1.1 hI ha (by omega) (k σ (AgX.refl σ) hS)
theorem s_Mthroat {d : Nat} {a1 a2 : Int32} {post : Int32 → DD → Prop} (hS : MS σ K L) (hday : gI σ 4 395 = nI d) (hd : d ≤ 999) (k : ∀ τ, PM σ τ → MS τ K L → post (thrS K L d a1 a2) τ) : w_M_throat σ a1 a2 post := by
  have hr4 := hS.2.1.r
  unfold w_M_throat
  refine s_isReader hS.1.1 hS.2.1 (br0 (fun e => ?_) (fun e => ?_))
  · simp only [thrS, e, Bool.false_eq_true, if_false] at k
    exact k σ (PM.refl σ) hS
  · obtain ⟨r, hr, er⟩ := rdrB_e hS.2.1 e
    simp only [thrS, e, if_true] at k
    subst er
    rw [nI_clamp (by omega)] at k
    refine s_lies (br1 (fun e2 => ?_) (fun e2 => ?_))
    · obtain ⟨j, hj, ej⟩ := inB_z (hi := 2) e2 (by decide)
      subst ej
      refine ⟨fun q => ?_, fun q => ?_⟩
      · have hj2 : j = 0 ∨ j = 1 := by
          have : ¬ j = 2 := fun z => q (by rw [z]; rfl)
          omega
        rw [show (96 : Int32) = nI 96 from rfl, show (2 : Int32) = nI 2 from rfl, pk_mul, nI_add, nI_add, nI_clamp (by omega), hS.1.1 (96 + 2 * r + j) (dyn_lt (by omega))]
        refine ⟨vp_in_nI (by omega) (by decide), ?_⟩
        rcases hj2 with z | z <;> subst z
        · exact k σ (PM.refl σ) hS
        · exact k σ (PM.refl σ) hS
      · have hj2 : j = 2 := (nI_eq (by omega) (by decide)).1 q
        subst hj2
        rw [hday]
        refine s_leftOn hS hr (by omega) ?_
        intro τ ag hS2
        exact k τ (PM.q ag) hS2
    · have q := of_decide_eq_false e2
      rw [if_neg (by grind), if_neg (by grind), if_neg (by grind)] at k
      exact k σ (PM.refl σ) hS
theorem s_Xthroat {d : Nat} {a1 a2 : Int32} {post : Int32 → DD → Prop} (hS : XS σ T K L) (hday : gI σ 208 0 = nI d) (hd : d ≤ 999) (k : ∀ τ, AgX scrX scrL σ τ → XS τ T K L → post (thrS K L d a1 a2) τ) : w_Face_throat T σ a1 a2 post := by
  have hI := hS.1.2.2
  have hr4 := hI.r
  unfold w_Face_throat
  refine s_XisReader hS.1.1 hI (br0 (fun e => ?_) (fun e => ?_))
  · simp only [thrS, e, Bool.false_eq_true, if_false] at k
    exact k σ (AgX.refl σ) hS
  · obtain ⟨r, hr, er⟩ := rdrB_e hI e
    simp only [thrS, e, if_true] at k
    subst er
    rw [nI_clamp (by omega)] at k
    rw [nI_clamp (by omega)]
    have out : (a2 < 0 ∨ ¬ a2 ≤ 2) → post (-1) σ := by
      intro h
      rw [if_neg (by grind), if_neg (by grind), if_neg (by grind)] at k
      exact k σ (AgX.refl σ) hS
    refine ⟨fun q => out (Or.inl q), fun q => ⟨fun q2 => ⟨fun q3 => ⟨fun q4 => ?_, fun q4 => ?_⟩, fun q3 => ?_⟩, fun q2 => out (Or.inr q2)⟩⟩
    · rw [if_neg q3, if_neg q4, if_pos (by grind)] at k
      rw [hday]
      refine s_voiceLeft hS hr (by omega) ?_
      intro τ ag hS2
      exact k τ ag.scr hS2
    · rw [if_neg q3, if_pos q4] at k
      rw [hS.1.1.ki hr]
      exact ⟨vp_in_nI (by omega) (by decide), k σ (AgX.refl σ) hS⟩
    · rw [if_pos q3] at k
      rw [hS.1.1.vo hr]
      exact ⟨vp_in_nI (by omega) (by decide), k σ (AgX.refl σ) hS⟩
theorem s_Masks {d : Nat} {a1 a2 a3 : Int32} {post : Int32 → DD → Prop} (hS : MS σ K L) (hday : gI σ 4 395 = nI d) (hd : d ≤ 999) (k : ∀ τ, PM σ τ → MS τ K L → post (askS K L d a1 a2 a3) τ) : w_M_asks σ a1 a2 a3 post := by
  have ha8 := hS.2.1.a
  have hr4 := hS.2.1.r
  unfold w_M_asks
  refine s_isAct hS.1.1 hS.2.1 (br0 (fun e => ?_) (fun e => ?_))
  · simp only [askS, e, Bool.false_and, Bool.false_eq_true, if_false] at k
    exact k σ (PM.refl σ) hS
  · refine s_isReader hS.1.1 hS.2.1 (br1 (fun e2 => ?_) (fun e2 => ?_))
    · obtain ⟨a, ha, ea⟩ := actB_e hS.2.1 e
      obtain ⟨r, hr, er⟩ := rdrB_e hS.2.1 e2
      simp only [askS, e, e2, Bool.and_self, if_true] at k
      subst ea; subst er
      rw [nI_clamp (by omega), nI_clamp (by omega)] at k
      rw [hday]
      refine ⟨fun q => ?_, fun q => ⟨fun q2 => ?_, fun q2 => ⟨fun q3 => ?_, fun q3 => ⟨fun q4 => ?_, fun q4 => ?_⟩⟩⟩⟩
      · rw [if_pos q] at k
        refine s_lasts hS.1 hS.2.1 ha hr (by omega) ?_
        intro τ ag hQ
        exact k τ (PM.q ag) (hS.q ag hQ)
      · rw [if_neg q, if_pos q2] at k
        refine s_takes hS.1 hS.2.1 ha hr (by omega) ?_
        intro τ ag hQ
        exact k τ (PM.q ag) (hS.q ag hQ)
      · rw [if_neg q, if_neg q2, if_pos q3] at k
        refine s_barred hS.1 hS.2.1 ha hr (by omega) ?_
        intro τ ag hQ
        have kk := k τ (PM.q ag) (hS.q ag hQ)
        refine br0 (fun e3 => ?_) (fun e3 => ?_)
        · rw [e3] at kk; exact kk
        · rw [e3] at kk; exact kk
      · rw [if_neg q, if_neg q2, if_neg q3, if_pos q4] at k
        refine s_canRead hS ha hr (by omega) ?_
        intro τ ag hQ
        have kk := k τ (PM.q ag) hQ
        refine br0 (fun e3 => ?_) (fun e3 => ?_)
        · rw [e3] at kk; exact kk
        · rw [e3] at kk; exact kk
      · rw [if_neg q, if_neg q2, if_neg q3, if_neg q4] at k
        exact k σ (PM.refl σ) hS
    · simp only [askS, e2, Bool.and_false, Bool.false_eq_true, if_false] at k
      exact k σ (PM.refl σ) hS
theorem s_Xasks {d : Nat} {a1 a2 a3 : Int32} {post : Int32 → DD → Prop} (hS : XS σ T K L) (hday : gI σ 208 0 = nI d) (hd : d ≤ 999) (k : ∀ τ, AgX scrX scrL σ τ → XS τ T K L → post (askS K L d a1 a2 a3) τ) : w_Face_asks T σ a1 a2 a3 post := by
  have hI := hS.1.2.2
  have ha8 := hI.a
  have hr4 := hI.r
  unfold w_Face_asks
  refine s_XisAct hS.1.1 hI (br0 (fun e => ?_) (fun e => ?_))
  · simp only [askS, e, Bool.false_and, Bool.false_eq_true, if_false] at k
    exact k σ (AgX.refl σ) hS
  · refine s_XisReader hS.1.1 hI (br1 (fun e2 => ?_) (fun e2 => ?_))
    · obtain ⟨a, ha, ea⟩ := actB_e hI e
      obtain ⟨r, hr, er⟩ := rdrB_e hI e2
      simp only [askS, e, e2, Bool.and_self, if_true] at k
      subst ea; subst er
      rw [nI_clamp (by omega), nI_clamp (by omega)] at k
      intro v7 e7
      rw [hday] at e7
      subst e7
      refine ⟨fun q => ?_, fun q => ⟨fun q2 => ?_, fun q2 => ⟨fun q3 => ?_, fun q3 => ⟨fun q4 => ?_, fun q4 => ?_⟩⟩⟩⟩
      · rw [if_pos q] at k
        refine s_Xlasts hS ha hr (by omega) ?_
        intro τ ag hQ
        exact k τ ag.scr hQ
      · rw [if_neg q, if_pos q2] at k
        refine s_Xtakes hS ha hr (by omega) ?_
        intro τ ag hQ
        exact k τ ag.scr hQ
      · rw [if_neg q, if_neg q2, if_pos q3] at k
        refine s_Xbars hS ha hr (by omega) ?_
        intro τ ag hQ
        have kk := k τ ag.scr hQ
        refine br0 (fun e3 => ?_) (fun e3 => ?_)
        · rw [e3] at kk; exact kk
        · rw [e3] at kk; exact kk
      · rw [if_neg q, if_neg q2, if_neg q3, if_pos q4] at k
        refine s_can hS ha hr (by omega) ?_
        intro τ ag hQ
        have kk := k τ ag.scr hQ
        refine br0 (fun e3 => ?_) (fun e3 => ?_)
        · rw [e3] at kk; exact kk
        · rw [e3] at kk; exact kk
      · rw [if_neg q, if_neg q2, if_neg q3, if_neg q4] at k
        exact k σ (AgX.refl σ) hS
    · simp only [askS, e2, Bool.and_false, Bool.false_eq_true, if_false] at k
      exact k σ (AgX.refl σ) hS
theorem s_Mlog {a1 a2 : Int32} {post : Int32 → DD → Prop} (hS : MS σ K L) (k : ∀ τ, PM σ τ → MS τ K L → post (logS K L a1 a2) τ) : w_M_log σ a1 a2 post := by
  have h84 := hS.2.2.1.2.1
  unfold w_M_log
  rw [hS.2.2.1.1]
  refine s_lies (br0 (fun e => ?_) (fun e => ?_))
  · have q := of_decide_eq_false e
    rw [lt_pred (by omega)] at q
    unfold logS at k
    rw [if_neg q] at k
    exact k σ (PM.refl σ) hS
  · have q := of_decide_eq_true e
    rw [lt_pred (by omega)] at q
    unfold logS at k
    rw [if_pos q] at k
    obtain ⟨i, hi, ei⟩ := nI_ltE q (by omega)
    subst ei
    rw [nI_clamp (by omega)] at k
    obtain ⟨y, hy, hym⟩ := get_lt (L := L) hi
    rw [hy] at k
    simp only [] at k
    have hb := hS.2.2.2 y hym
    refine s_lies (br1 (fun e2 => ?_) (fun e2 => ?_))
    · obtain ⟨j, hj, ej⟩ := inB_z (hi := 3) e2 (by decide)
      subst ej
      rw [show (3 : Int32) = nI 3 from rfl, nI_leI (by decide) (by omega)]
      refine ⟨fun z => ?_, fun z => ?_⟩
      · have hj3 : j = 3 := by omega
        subst hj3
        refine s_reading hS.2.2.1 hy (Or.inl ⟨rfl, rfl⟩) (s_reading hS.2.2.1 hy (Or.inr (Or.inl ⟨rfl, rfl⟩)) (s_reading hS.2.2.1 hy (Or.inr (Or.inr ⟨rfl, rfl⟩)) ?_))
        refine s_lasts hS.1 hS.2.1 hb.1 hb.2.1 (by omega) ?_
        intro τ ag hQ
        exact k τ (PM.q ag) (hS.q ag hQ)
      · have hj3 : j = 0 ∨ j = 1 ∨ j = 2 := by omega
        rcases hj3 with w | w | w <;> subst w
        · exact s_reading hS.2.2.1 hy (Or.inl ⟨rfl, rfl⟩) (k σ (PM.refl σ) hS)
        · exact s_reading hS.2.2.1 hy (Or.inr (Or.inl ⟨rfl, rfl⟩)) (k σ (PM.refl σ) hS)
        · exact s_reading hS.2.2.1 hy (Or.inr (Or.inr ⟨rfl, rfl⟩)) (k σ (PM.refl σ) hS)
    · have q := of_decide_eq_false e2
      rw [if_neg (by grind), if_neg (by grind), if_neg (by grind), if_neg (by grind)] at k
      exact k σ (PM.refl σ) hS
theorem s_Xlog {a1 a2 : Int32} {post : Int32 → DD → Prop} (hS : XS σ T K L) (k : ∀ τ, AgX scrX scrL σ τ → XS τ T K L → post (logS K L a1 a2) τ) : w_Face_log T σ a1 a2 post := by
  have h84 := hS.2.1.2.1
  unfold w_Face_log
  rw [hS.2.1.len]
  refine ⟨fun q => ?_, fun q => ⟨fun q2 => ?_, fun q2 => ?_⟩⟩
  · unfold logS at k
    rw [if_neg (by grind)] at k
    exact k σ (AgX.refl σ) hS
  · have qq : 0 ≤ a1 ∧ a1 < nI L.length := ⟨by grind, q2⟩
    unfold logS at k
    rw [if_pos qq] at k
    obtain ⟨i, hi, ei⟩ := nI_ltE qq (by omega)
    subst ei
    rw [nI_clamp (by omega)] at k
    obtain ⟨y, hy, hym⟩ := get_lt (L := L) hi
    rw [hy] at k
    simp only [] at k
    have hb := hS.2.2.1 y hym
    have hv := hS.2.1.x hy
    rw [nI_clamp (by omega), hv.1, hv.2.1, hv.2.2]
    have hin := vp_in_nI (n := i) (N := 84) (by omega) (by decide)
    refine ⟨fun z => ⟨hin, ?_⟩, fun z => ⟨fun z2 => ⟨hin, ?_⟩, fun z2 => ⟨fun z3 => ⟨hin, ?_⟩, fun z3 => ⟨fun z4 => ⟨hin, hin, hin, ?_⟩, fun z4 => ?_⟩⟩⟩⟩
    · rw [if_pos z] at k; exact k σ (AgX.refl σ) hS
    · rw [if_neg z, if_pos z2] at k; exact k σ (AgX.refl σ) hS
    · rw [if_neg z, if_neg z2, if_pos z3] at k; exact k σ (AgX.refl σ) hS
    · rw [if_neg z, if_neg z2, if_neg z3, if_pos z4] at k
      refine s_Xlasts hS hb.1 hb.2.1 (by omega) ?_
      intro τ ag hQ
      exact k τ ag.scr hQ
    · rw [if_neg z, if_neg z2, if_neg z3, if_neg z4] at k; exact k σ (AgX.refl σ) hS
  · unfold logS at k
    rw [if_neg (by grind)] at k
    exact k σ (AgX.refl σ) hS
theorem s_Mheld {a1 : Int32} {post : Int32 → DD → Prop} (hS : MS σ K L) (k : ∀ τ, PM σ τ → MS τ K L → post (hldS K L a1) τ) : w_M_held σ a1 post := by
  unfold w_M_held
  refine s_isDay (br0 (fun e => ?_) (fun e => ?_))
  · simp only [hldS, e, Bool.false_eq_true, if_false] at k
    exact k σ (PM.refl σ) hS
  · simp only [hldS, e, if_true] at k
    obtain ⟨j, hj, ej⟩ := inB_z (hi := 999) e (by decide)
    subst ej
    rw [nI_clamp (by omega)] at k
    refine s_heldOn hS (by omega) ?_
    intro τ ag hS2
    exact k τ (PM.q ag) hS2
theorem s_Xheld {a1 : Int32} {post : Int32 → DD → Prop} (hS : XS σ T K L) (k : ∀ τ, AgX scrX scrL σ τ → XS τ T K L → post (hldS K L a1) τ) : w_Face_held T σ a1 post := by
  unfold w_Face_held
  refine s_XcanBeTerm ?_
  have e0 : isTm 0 a1 = inB a1 0 999 := rfl
  rw [e0]
  refine br0 (fun e => ?_) (fun e => ?_)
  · simp only [hldS, e, Bool.false_eq_true, if_false] at k
    exact k σ (AgX.refl σ) hS
  · simp only [hldS, e, if_true] at k
    obtain ⟨j, hj, ej⟩ := inB_z (hi := 999) e (by decide)
    subst ej
    rw [nI_clamp (by omega)] at k
    refine s_heldBits hS (by omega) ?_
    intro τ ag hS2
    exact k τ ag.scr hS2
theorem s_Mbound {a1 a2 : Int32} {post : Int32 → DD → Prop} (hS : MS σ K L) (k : ∀ τ, PM σ τ → MS τ K L → post (bndS K L a1 a2) τ) : w_M_bound σ a1 a2 post := by
  have hI := hS.2.1
  have ha8 := hI.a
  unfold w_M_bound
  refine s_isClass (br0 (fun e => ?_) (fun e => ?_))
  · simp only [bndS, e, Bool.false_and, Bool.false_eq_true, if_false] at k
    exact k σ (PM.refl σ) hS
  · refine s_isDay (br1 (fun e2 => ?_) (fun e2 => ?_))
    · simp only [bndS, e, e2, Bool.and_self, if_true] at k
      obtain ⟨c, hc, ec⟩ := inB_z (hi := 5) e (by decide)
      obtain ⟨d, hd, ed⟩ := inB_z (hi := 999) e2 (by decide)
      subst ec; subst ed
      rw [nI_clamp (by omega), nI_clamp (by omega)] at k
      unfold w_M_bound_l21
      refine LoopN (fun n y => ∃ i, n = nA K - i ∧ i ≤ nA K ∧ Ag qP σ y.1 ∧ MS y.1 K L ∧ y.2.2 = nI i ∧ y.2.1 = bits (fun a => bOf (K (4 * a + 2)) c && hold K L a d) i) ?_ (n := nA K) ⟨0, rfl, Nat.zero_le _, Ag.refl σ, hS, rfl, rfl⟩
      rintro n ⟨τ, b, a4⟩ KK ⟨i, hn, hi, ag, hS', e4, hb⟩ ih
      simp only [] at ag hS' e4 hb ⊢
      subst e4
      unfold w_M_bound_b21 w_M_bound_j66 w_M_bound_j67
      rw [hS'.1.1 399 (by unfold dyn; omega), ha8.1, nI_leI (by omega) (by omega)]
      refine ⟨fun q => ?_, fun q => ?_⟩
      · have : i = nA K := by omega
        subst this
        rw [hb]; exact k τ (PM.q ag) hS'
      · have nx : ∀ τ2 v1, Ag qP τ τ2 → MS τ2 K L → v1 = bits (fun a => bOf (K (4 * a + 2)) c && hold K L a d) (i + 1) → KK (τ2, v1, nI i + 1) := fun τ2 v1 ag2 hS2 hv => ih (nA K - (i + 1)) (τ2, v1, nI i + 1) (by omega) ⟨i + 1, rfl, by omega, ag.trans ag2, hS2, (nI_1 i), hv⟩
        refine s_fact 2 rfl (by omega) (by omega) ?_
        rw [hS'.1.1 (4 * i + 2) (dyn_lt (by omega))]
        obtain ⟨B, h1, h2, eB⟩ := (hI.act (a := i) (by omega)).2.2.1
        rw [eB]
        refine s_isIn (n := 6) (by omega) (by omega) (by omega) (br0 (fun e3 => ?_) (fun e3 => ?_))
        · intro v1 ev
          refine nx τ v1 (Ag.refl τ) hS' ?_
          rw [ev, hb]
          simp [bits, eB, e3]
        · refine s_holdsOn hS' (by omega) (by omega) ?_
          intro τ2 ag2 hS2
          refine br0 (fun e4 => ?_) (fun e4 => ?_)
          · intro v1 ev
            refine nx τ2 v1 ag2 hS2 ?_
            rw [ev, hb]
            simp [bits, e4]
          · intro v1 ev
            refine nx τ2 v1 ag2 hS2 ?_
            rw [ev, hb]
            simp [bits, eB, e3, e4]
    · simp only [bndS, e2, Bool.and_false, Bool.false_eq_true, if_false] at k
      exact k σ (PM.refl σ) hS
theorem s_bindersOf {c : Nat} {post : Int32 → DD → Prop} (hS : XS σ T K L) (hc : c < 6) (k : post (bits (fun a => bOf (K (4 * a + 2)) c) (nA K)) σ) : w_Real_bindersOf T σ (nI c) post := by
  have hI := hS.1.2.2
  have ha8 := hI.a
  unfold w_Real_bindersOf w_Real_bindersOf_l4
  refine LoopN (fun n y => ∃ i, n = nA K - i ∧ i ≤ nA K ∧ y.1 = σ ∧ y.2.2 = nI i ∧ y.2.1 = bits (fun a => bOf (K (4 * a + 2)) c) i) ?_ (n := nA K) ⟨0, rfl, Nat.zero_le _, rfl, rfl, rfl⟩
  rintro n ⟨τ, b, a4⟩ KK ⟨i, hn, hi, es, e4, hb⟩ ih
  simp only [] at es e4 hb ⊢
  subst e4; subst es
  unfold w_Real_bindersOf_b4
  rw [hS.1.1.na, ha8.1, nI_leI (by omega) (by omega)]
  refine ⟨fun q => ?_, fun q => ?_⟩
  · have : i = nA K := by omega
    subst this
    rw [hb]; exact k
  · refine s_trait 2 rfl hS.1.1 hI (by omega) (by omega) ?_
    intro v4 e4
    obtain ⟨B, h1, h2, eB⟩ := (hI.act (a := i) (by omega)).2.2.1
    refine ih (nA K - (i + 1)) (τ, v4, nI i + 1) (by omega) ⟨i + 1, rfl, by omega, rfl, (nI_1 i), ?_⟩
    simp only []
    rw [e4, hb, eB, bOf_bit (m := B) (n := 6) (by omega) (by omega) (by omega)]
    simp only [bits, eB, show decide (c < 6) = true from decide_eq_true hc, Bool.true_and]
    congr 1
    cases bOf (nI B) c
    · simp only [Bool.false_eq_true, if_false]
      have := jshl_n (n := 0) (k := i) (by omega) (by omega)
      rw [show bl false = nI 0 from rfl, this, Nat.zero_mul]; rfl
    · rfl
theorem s_Xbound {a1 a2 : Int32} {post : Int32 → DD → Prop} (hS : XS σ T K L) (k : ∀ τ, AgX scrX scrL σ τ → XS τ T K L → post (bndS K L a1 a2) τ) : w_Face_bound T σ a1 a2 post := by
  have hI := hS.1.2.2
  have ha8 := hI.a
  unfold w_Face_bound
  have out : inB a1 0 5 = false → post (-1) σ := by
    intro e
    simp only [bndS, e, Bool.false_and, Bool.false_eq_true, if_false] at k
    exact k σ (AgX.refl σ) hS
  refine ⟨fun q => out (by unfold inB; exact decide_eq_false (by grind)), fun q => ⟨fun q2 => out (by unfold inB; exact decide_eq_false (by grind)), fun q2 => ?_⟩⟩
  have e : inB a1 0 5 = true := by unfold inB; exact decide_eq_true (by grind)
  refine s_XcanBeTerm ?_
  have e0 : isTm 0 a2 = inB a2 0 999 := rfl
  rw [e0]
  refine br1 (fun e2 => ?_) (fun e2 => ?_)
  · simp only [bndS, e, e2, Bool.and_self, if_true] at k
    obtain ⟨c, hc, ec⟩ := inB_z (hi := 5) e (by decide)
    obtain ⟨d, hd, ed⟩ := inB_z (hi := 999) e2 (by decide)
    subst ec; subst ed
    rw [nI_clamp (by omega), nI_clamp (by omega)] at k
    refine s_heldBits hS (by omega) ?_
    intro τ ag hS2
    refine s_bindersOf hS2 (by omega) ?_
    have kk := k τ ag.scr hS2
    unfold held
    rw [bits_and _ _ (by omega)]
    rw [bits_congr (q := fun a => bOf (K (4 * a + 2)) c && hold K L a d) (nA K) (fun i _ => Bool.and_comm _ _)]
    exact kk
  · simp only [bndS, e2, Bool.and_false, Bool.false_eq_true, if_false] at k
    exact k σ (AgX.refl σ) hS
end AQ
