/-! ===== orders: the class runs them ===== -/
def OrdX (x : CLS) : Prop := ((x.1 = 22 ∧ InI x.2.1 ∧ InI x.2.2.1) ∨ (x.1 = 24 ∧ x.2.1 = d1 ∧ x.2.2.1 = d1)) ∧ ∃ t, t ≤ 20 ∧ x.2.2.2.1 = nI t
theorem go_all {N : Nat} {c v : Nat → Int32} (hc : ∀ k, N ≤ k → c k = 0) (hv : ∀ k, 0 ≤ v k) : ∀ m i l xs, i ≤ N → l ≤ 50 → pGo true c v N m i l = .inr xs → ∀ x, x ∈ xs → OrdX x := by
  intro m
  induction m with
  | zero =>
    intro i l xs hi hl h x hx
    obtain ⟨j, l', x0, xs', h1, hxs, -, -, hr⟩ := pGo_inv hc h hi hl
    rcases hr with ⟨h2, -⟩ | ⟨m', h2, -⟩
    · rw [hxs, h2, List.mem_singleton] at hx
      rw [hx]; exact ord_in hv h1
    · omega
  | succ m ih =>
    intro i l xs hi hl h x hx
    obtain ⟨j, l', x0, xs', h1, hxs, -, hl', hr⟩ := pGo_inv hc h hi hl
    rw [hxs] at hx
    rcases List.mem_cons.1 hx with q | q
    · rw [q]; exact ord_in hv h1
    · rcases hr with ⟨h2, -⟩ | ⟨m', h2, hj, h3⟩
      · rw [h2] at q; cases q
      · have : m' = m := by omega
        subst this
        exact ih (j + 1) l' xs' hj hl' h3 x q
def oxQ (o k : Nat) : Prop := lwQ o k ∨ wrP o k ∨ (o = 208 ∧ k = 0) ∨ (o = 60 ∧ (k = 4 ∨ k = 5))
def oxL (o : Nat) : Prop := o = 53 ∨ o = 64
section RX2
variable {σ σ0 τ υ : DD} {T : TXT} {K : Nat → Int32} {L0 : List RD} {y : OST} {t m1 m2 u : Nat} {cl : List CLS}
def OX (σ0 σ : DD) (T : TXT) (K : Nat → Int32) (L0 : List RD) (y : OST) : Prop := AgX oxQ oxL σ0 σ ∧ XS σ T K y.1 ∧ gI σ 208 0 = nI y.2.1 ∧ y.2.1 ≤ 999 ∧ (∀ z, z ∈ y.1 → z.2.2 ≤ y.2.1) ∧ y.1.length ≤ 24 ∧ (∃ P, y.1 = L0 ++ P) ∧ gI σ 60 4 = nI y.2.2.1 ∧ gI σ 60 5 = y.2.2.2
/-- the text that is run -/
def TO (σ : DD) (T : TXT) (t m1 m2 u : Nat) (cl : List CLS) : Prop := 300 ≤ t ∧ T t = some (m1, m2) ∧ TxtOK σ T t true cl ∧ gI σ t 1 = nI u ∧ u < 2 ^ 16 ∧ ∀ x, x ∈ cl → ClP u x ∧ OrdX x
theorem TO.ag {P : Nat → Nat → Prop} {Q : Nat → Prop} (h : TO σ T t m1 m2 u cl) (a : AgX P Q σ τ) (hP : ∀ o k, P o k → o < 300) : TO τ T t m1 m2 u cl := by
  have h3 := h.1
  refine ⟨h.1, h.2.1, h.2.2.1.ag a (fun k w => by have := hP _ _ w; omega) (fun k w => by have := hP _ _ w; omega) (fun k w => by have := hP _ _ w; omega), ?_, h.2.2.2.2⟩
  rw [a.i _ _ (fun w => by have := hP _ _ w; omega)]; exact h.2.2.2.1
theorem ox_lt {o k : Nat} (h : oxQ o k) : o < 300 := by unfold oxQ lwQ xq wrP at h; omega
theorem OX.ag {P : Nat → Nat → Prop} {Q : Nat → Prop} (h : OX σ0 σ T K L0 y) (a : AgX P Q σ τ) (hX : XS τ T K y.1) (hP : ∀ o k, P o k → oxQ o k ∧ ¬ (o = 208 ∧ k = 0) ∧ ¬ o = 60) (hQ : ∀ o, Q o → oxL o) : OX σ0 τ T K L0 y := by
  obtain ⟨h1, h2, h3, h4, h5, h6, h7, h8, h9⟩ := h
  refine ⟨h1.trans (a.mono (fun o k w => (hP o k w).1) hQ), hX, ?_, h4, h5, h6, h7, ?_, ?_⟩
  · rw [a.i _ _ (fun w => (hP _ _ w).2.1 ⟨rfl, rfl⟩)]; exact h3
  · rw [a.i _ _ (fun w => (hP _ _ w).2.2 rfl)]; exact h8
  · rw [a.i _ _ (fun w => (hP _ _ w).2.2 rfl)]; exact h9
theorem ags_x {q dep : Nat} (a : AgS q dep σ τ) : AgX (fun _ _ => False) (fun o => o = q) σ τ := ⟨fun o k _ => a.i o k, fun o k w => a.2.2 o k (fun z => w z.1), a.2.1⟩
theorem runX_1 {x : CLS} {n : Nat} {post : Int32 → DD → Prop} (hO : OX σ0 σ T K L0 y) (hT : TO σ T t m1 m2 u cl) (hx : cl[n]? = some x)
    (k1 : ∀ y', oneO K x y = .inr y' → ∀ τ, OX σ0 τ T K L0 y' → TO τ T t m1 m2 u cl → post 0 τ)
    (k0 : ∀ w, oneO K x y = .inl w → (w = -3 ∨ w = -5) → ∀ τ y', OX σ0 τ T K L0 y' → TO τ T t m1 m2 u cl → post w τ) : w_Ord_runOnce T t m1 m2 σ (nI n) post := by
  obtain ⟨L, d, dn, la⟩ := y
  have hO' := hO
  obtain ⟨h1, h2, h3, h4, h5, h6, h7, h8, h9⟩ := hO
  simp only [] at h2 h3 h4 h5 h6 h7 h8 h9
  have hI := h2.1.2.2
  have hmem : x ∈ cl := List.mem_of_getElem? hx
  obtain ⟨hcl, hord⟩ := hT.2.2.2.2.2 x hmem
  have hu := hT.2.2.2.2.1
  unfold w_Ord_runOnce
  rw [hT.2.2.2.1]
  refine s_loadWords h2 h3 h4 h8 h9 hu (fun σ4 a4 hX4 hw => ?_)
  have hO4 : OX σ0 σ4 T K L0 (L, d, dn, la) := hO'.ag a4 hX4 (fun o k w => ⟨Or.inl w, by unfold lwQ xq at w; omega, by unfold lwQ xq at w; omega⟩) (fun o w => Or.inl w)
  have hT4 : TO σ4 T t m1 m2 u cl := hT.ag a4 (fun o k w => ox_lt (Or.inl w))
  have env : ∀ υ : DD, (∀ j, gI υ 63 j = gI σ4 63 j) → ∀ D, Dep u D → D (fun j => i2l (gI υ 63 j)) = D (envO K L d dn la) := by
    intro υ hυ D hD
    exact hD _ _ (fun j hj => by rw [hυ, hw j hj]; rfl)
  have hn12 : n < cl.length := by
    by_cases c : n < cl.length
    · exact c
    · rw [List.getElem?_eq_none (by omega)] at hx; cases hx
  -- a text's part is valued
  have val : ∀ (υ : DD) (s2 : Nat) (D : DS) (post : Int64 → DD → Prop), TO υ T t m1 m2 u cl → s2 < 3 → Dep u D → (∀ j, gI υ 63 j = gI σ4 63 j) → (∀ p0 p1 p2 p3, gI υ (t + 4) (6 * n) = nI p0 → gI υ (t + 4) (6 * n + 1) = nI p1 → gI υ (t + 4) (6 * n + 2) = nI p2 → gI υ (t + 4) (6 * n + 3) = nI p3 → p0 ≤ p1 → p1 ≤ p2 → p2 ≤ p3 → p3 ≤ m1 → Sec (gI υ (t + 3)) p0 p1 16 x.2.1 → Sec (gI υ (t + 3)) p1 p2 16 x.2.2.1 → Sec (gI υ (t + 3)) p2 p3 16 (tD x.2.2.2.2) → ∃ q0 q1, gI υ (t + 4) (6 * n + s2) = nI q0 ∧ gI υ (t + 4) (6 * n + s2 + 1) = nI q1 ∧ q1 ≤ m1 ∧ Sec (gI υ (t + 3)) q0 q1 16 D) → (∀ r τ, AgS 64 0 υ τ → (D (envO K L d dn la) = none → r = -4000000000) → (∀ x, D (envO K L d dn la) = some x → r = x) → post r τ) → w_Text_valueOf T t m1 m2 63 16 64 50 υ (nI n) (nI s2) post := by
    intro υ s2 D post hTu hs2 hD h63 hsec kk
    obtain ⟨-, q2, ⟨M1, M2, q3, q4, q5, q6, q7, q8⟩, -⟩ := hTu
    rw [q2] at q3
    cases q3
    obtain ⟨p0, p1, p2, p3, w0, w1, w2, w3, e0, e1, e2, e3, -, -, s0, s1, s2'⟩ := q8 n x hx
    obtain ⟨r0, r1, z0, z1, z2, z3⟩ := hsec p0 p1 p2 p3 w0 w1 w2 w3 e0 e1 e2 e3 s0 s1 s2'
    refine s_valueOf (W := 16) (e := fun j => i2l (gI υ 63 j)) (6 * n + s2) r0 r1 ?_ (by omega) (by omega) z0 z1 z3 ⟨Nat.le_refl _, z2, q4, fun k _ _ => rfl, Nat.le_refl _, Nat.le_refl _, fun j _ => rfl⟩ (fun r τ a n1 n2 => ?_)
    · rw [show (6 : Int32) = nI 6 from rfl, pk_mul, nI_add', Nat.mul_comm]
    · rw [env υ h63 D hD] at n1 n2
      exact kk r τ a n1 n2
  have hdr : ∀ (υ : DD) (P : Int32 → DD → Prop), TO υ T t m1 m2 u cl → P (kX x.1) υ → w_Text_headOf T t m1 m2 υ (nI n) 4 P := by
    intro υ P hTu hp
    obtain ⟨-, q2, ⟨M1, M2, q3, q4, q5, q6, q7, q8⟩, -⟩ := hTu
    rw [q2] at q3
    cases q3
    obtain ⟨p0, p1, p2, p3, w0, w1, w2, w3, e0, e1, e2, e3, k4, -⟩ := q8 n x hx
    unfold w_Text_headOf
    rw [show (6 : Int32) = nI 6 from rfl, pk_mul, show nI (n * 6) + 4 = nI (n * 6 + 4) from nI_add _ 4, Nat.mul_comm, nI_clamp (by omega), k4]
    exact ⟨vp_in_nI (by omega) (by omega), hp⟩
  have ox_s : ∀ {υ τ : DD}, AgS 64 0 υ τ → OX σ0 υ T K L0 (L, d, dn, la) → TO υ T t m1 m2 u cl → OX σ0 τ T K L0 (L, d, dn, la) ∧ TO τ T t m1 m2 u cl := fun a hO hT => ⟨hO.ag (ags_x a) (hO.2.1.i1 a.1 a.2.1) (fun o k w => absurd w (fun z => z)) (fun o w => Or.inr w), hT.ag (ags_x a) (fun o k w => absurd w (fun z => z))⟩
  have one : oneO K x (L, d, dn, la) = if x.2.2.2.2 (envO K L d dn la) = some true then (if x.1 = 24 then (if d = 999 then .inl (-3) else .inr (L, d + 1, dn + 1, la)) else sumsO K (L, d, dn, la) (x.2.1 (envO K L d dn la)) (x.2.2.1 (envO K L d dn la))) else .inr (L, d, dn, la) := rfl
  refine val σ4 2 (tD x.2.2.2.2) _ hT4 (by decide) hcl.2.2 (fun _ => rfl) (fun p0 p1 p2 p3 w0 w1 w2 w3 e0 e1 e2 e3 s0 s1 s2 => ⟨p2, p3, w2, w3, e3, s2⟩) (fun r5 σ6 a6 n1 n2 => ?_)
  obtain ⟨hO6, hT6⟩ := ox_s a6 hO4 hT4
  have h63 : ∀ j, gI σ6 63 j = gI σ4 63 j := fun j => a6.i _ _
  rw [lgc_eq]
  have test : r5 = 1 ↔ x.2.2.2.2 (envO K L d dn la) = some true := by
    cases hC : x.2.2.2.2 (envO K L d dn la) with
    | none =>
      have := n1 (by unfold tD; rw [hC]; rfl)
      rw [this]
      exact ⟨fun z => absurd z (by decide), fun z => by cases z⟩
    | some bb =>
      have := n2 (if bb then 1 else 0) (by unfold tD; rw [hC]; rfl)
      rw [this]
      cases bb
      · exact ⟨fun z => absurd z (by decide), fun z => by cases z⟩
      · exact ⟨fun _ => rfl, fun _ => rfl⟩
  refine ⟨fun z => ?_, fun z => ?_⟩
  · have zt := test.1 z
    rw [if_pos zt] at one
    refine hdr σ6 _ hT6 ?_
    have done : ∀ τ (L' : List RD) (d' : Nat) (la' : Int32), AgX oxQ oxL σ0 τ → XS τ T K L' → gI τ 208 0 = nI d' → d' ≤ 999 → (∀ z, z ∈ L' → z.2.2 ≤ d') → L'.length ≤ 24 → (∃ P, L' = L0 ++ P) → gI τ 60 4 = nI dn → gI τ 60 5 = la' → TO τ T t m1 m2 u cl → oneO K x (L, d, dn, la) = .inr (L', d', dn + 1, la') → w_Ord_runOnce_j143 T t m1 m2 post τ := by
      intro τ L' d' la' b1 b2 b3 b4 b5 b6 b7 b8 b9 bT h
      unfold w_Ord_runOnce_j143
      intro σ1 e1
      rw [b8, nI_1] at e1
      have b11 : AgX (fun o k => o = 60 ∧ k = 4) noL τ σ1 := by rw [e1]; exact AgX.put ⟨rfl, rfl⟩
      refine k1 _ h σ1 ⟨b1.trans (b11.mono (fun o k w => by unfold oxQ; omega) (fun _ w => absurd w (fun z => z))), b2.lo b11 (by omega), ?_, b4, b5, b6, b7, ?_, ?_⟩ (bT.ag b11 (by omega))
      · rw [b11.i _ _ (by omega)]; exact b3
      · rw [e1, gI_same]
      · rw [b11.i _ _ (by omega)]; exact b9
    rcases hord.1 with ⟨x22, inA, inB⟩ | ⟨x24, -, -⟩
    · rw [if_neg (by rw [x22]; decide)] at one
      refine ⟨fun _ => ?_, fun w => absurd w (by rw [x22]; decide)⟩
      refine val σ6 0 x.2.1 _ hT6 (by decide) hcl.1 h63 (fun p0 p1 p2 p3 w0 w1 w2 w3 e0 e1 e2 e3 s0 s1 s2 => ⟨p0, p1, w0, w1, by omega, s0⟩) (fun r11 σ12 a12 u1 u2 => ?_)
      obtain ⟨hO12, hT12⟩ := ox_s a12 hO6 hT6
      refine val σ12 1 x.2.2.1 _ hT12 (by decide) hcl.2.1 (fun j => (a12.i _ _).trans (h63 j)) (fun p0 p1 p2 p3 w0 w1 w2 w3 e0 e1 e2 e3 s0 s1 s2 => ⟨p1, p2, w1, w2, by omega, s1⟩) (fun r13 σ14 a14 v1 v2 => ?_)
      obtain ⟨hO14, hT14⟩ := ox_s a14 hO12 hT12
      rw [lgc_eq, lgc_eq]
      have henv : ∀ j, ∃ z : Int32, envO K L d dn la j = i2l z := fun j => ⟨_, rfl⟩
      have nb : ∀ z : Int32, ¬ i2l z = -4000000000 := by
        intro z w
        have := Int64.toInt_inj.2 w
        have e : (i2l z).toInt = z.toInt := Int32.toInt_toInt64 z
        rw [e] at this
        have h1 := Int32.le_toInt z
        have e2 : (-4000000000 : Int64).toInt = -4000000000 := rfl
        rw [e2] at this
        omega
      cases hA : x.2.1 (envO K L d dn la) with
      | none =>
        have : oneO K x (L, d, dn, la) = .inl (-3) := by rw [one, hA]; rfl
        exact ⟨fun _ => k0 (-3) this (Or.inl rfl) σ14 _ hO14 hT14, fun w => absurd (u1 hA) w⟩
      | some aa =>
        obtain ⟨za, ea⟩ := inA _ henv _ hA
        have er11 := u2 aa hA
        refine ⟨fun w => absurd w (by rw [er11, ea]; exact nb za), fun _ => ?_⟩
        cases hB : x.2.2.1 (envO K L d dn la) with
        | none =>
          have : oneO K x (L, d, dn, la) = .inl (-3) := by rw [one, hA, hB]; rfl
          exact ⟨fun w => absurd (v1 hB) w, fun _ => k0 (-3) this (Or.inl rfl) σ14 _ hO14 hT14⟩
        | some rr =>
          obtain ⟨zr, er⟩ := inB _ henv _ hB
          have er13 := v2 rr hB
          refine ⟨fun _ => ?_, fun w => absurd w (by rw [er13, er]; exact nb zr)⟩
          rw [er11, er13, ea, er, l2i_i2l, l2i_i2l]
          rw [hA, hB, ea, er] at one
          have one2 : oneO K x (L, d, dn, la) = tellO K (L, d, dn, la) za zr := by rw [one]; show tellO K _ (l2i (i2l za)) (l2i (i2l zr)) = _; rw [l2i_i2l, l2i_i2l]
          have tO : tellO K (L, d, dn, la) za zr = if (actB K za && rdrB K zr) = false then .inl (-3) else if canS K L d za zr = false then .inl (-3) else if L.length < 24 then .inr (L ++ [(za.toNatClampNeg, zr.toNatClampNeg, d)], d, dn + 1, za) else .inl (-5) := rfl
          refine s_tell hO14.2.1 hO14.2.2.1 h4 h5 (fun w => ?_) (fun τ2 w w2 a2 hX2 => ?_) (fun τ2 w w2 w3 a2 hX2 => ?_) (fun a r τ2 w w2 ea2 er2 ha hr hcan w3 a2 hX2 => ?_)
          · rw [if_pos w] at tO
            exact ⟨fun z => absurd z (by decide), fun _ => ⟨fun _ => k0 (-3) (one2.trans tO) (Or.inl rfl) σ14 _ hO14 hT14, fun z => absurd z (by decide)⟩⟩
          · rw [if_neg (by rw [w]; decide), if_pos w2] at tO
            have hO2 := hO14.ag a2 hX2 (fun o k w => ⟨Or.inl (Or.inl w), by unfold xq at w; omega, by unfold xq at w; omega⟩) (fun o w => Or.inl w)
            exact ⟨fun z => absurd z (by decide), fun _ => ⟨fun _ => k0 (-3) (one2.trans tO) (Or.inl rfl) τ2 _ hO2 (hT14.ag a2 (fun o k w => ox_lt (Or.inl (Or.inl w)))), fun z => absurd z (by decide)⟩⟩
          · rw [if_neg (by rw [w]; decide), if_neg (by rw [w2]; decide), if_neg w3] at tO
            have hO2 := hO14.ag a2 hX2 (fun o k w => ⟨Or.inl (Or.inl w), by unfold xq at w; omega, by unfold xq at w; omega⟩) (fun o w => Or.inl w)
            exact ⟨fun z => absurd z (by decide), fun _ => ⟨fun z => absurd rfl z, fun _ => k0 (-5) (one2.trans tO) (Or.inr rfl) τ2 _ hO2 (hT14.ag a2 (fun o k w => ox_lt (Or.inl (Or.inl w))))⟩⟩
          · rw [if_neg (by rw [w]; decide), if_neg (by rw [w2]; decide), if_pos w3] at tO
            have h8' := hI.a
            have h4' := hI.r
            have ta : za.toNatClampNeg = a := by rw [ea2, nI_clamp (by omega)]
            have tr : zr.toNatClampNeg = r := by rw [er2, nI_clamp (by omega)]
            rw [ta, tr] at tO
            have pos : 0 ≤ left K (L ++ [(a, r, d)]) r d := by
              rw [left_e]
              unfold can at hcan
              rw [Bool.and_eq_true] at hcan
              have h0 := of_decide_eq_true hcan.2
              have htk : takN K a r (d % 7) < 2 ^ 31 := by have := (takN_e hI (r := r) (w := d % 7) ha).2; omega
              have h00 := nI_pos' htk
              grind
            refine ⟨fun _ σ20 e20 => ?_, fun z => absurd pos z⟩
            have b20 : AgX (fun o k => o = 60 ∧ k = 5) noL τ2 σ20 := by rw [e20]; exact AgX.put ⟨rfl, rfl⟩
            refine done σ20 (L ++ [(a, r, d)]) d za ((hO14.1.trans (a2.mono (fun o k w => ?_) (fun o w => Or.inl w))).trans (b20.mono (fun o k w => by unfold oxQ; omega) (fun _ w => absurd w (fun z => z)))) (hX2.lo b20 (by omega)) ?_ h4 (fun z hz => ?_) ?_ ?_ ?_ ?_ ?_ (one2.trans tO)
            · rcases w with w | w
              · exact Or.inl (Or.inl w)
              · exact Or.inr (Or.inl w)
            · rw [b20.i _ _ (by omega), a2.i _ _ (by unfold tlX xq wrP; omega)]; exact hO14.2.2.1
            · rcases List.mem_append.1 hz with q | q
              · exact h5 z q
              · rw [List.mem_singleton.1 q]; exact Nat.le_refl _
            · have w3' : L.length < 24 := w3
              rw [List.length_append]; simp; omega
            · obtain ⟨P, hP⟩ := h7
              exact ⟨P ++ [(a, r, d)], by rw [hP, List.append_assoc]⟩
            · rw [b20.i _ _ (by omega), a2.i _ _ (by unfold tlX xq wrP; omega)]; exact hO14.2.2.2.2.2.2.2.1
            · rw [e20, gI_same]
            · refine (hT14.ag a2 (fun o k w => ?_)).ag b20 (by omega)
              rcases w with w | w
              · exact ox_lt (Or.inl (Or.inl w))
              · exact ox_lt (Or.inr (Or.inl w))
    · rw [if_pos x24] at one
      refine ⟨fun w => absurd (by rw [x24]; decide) w, fun _ => ?_⟩
      refine s_nextDay hO6.2.1 hO6.2.2.1 h4 (fun hd9 => ⟨fun z => absurd z (by decide), fun _ => ?_⟩) (fun τ2 hd9 a2 g2 hX2 => ⟨fun _ => ?_, fun z => absurd (lap_pos hI d) z⟩)
      · rw [if_pos hd9] at one
        exact k0 (-3) one (Or.inl rfl) σ6 _ hO6 hT6
      · have hd9' : d < 999 := hd9
        rw [if_neg (by omega)] at one
        refine done τ2 L (d + 1) la (hO6.1.trans (a2.mono (fun o k w => ?_) (fun o w => Or.inl w))) hX2 g2 (by omega) (fun z hz => by have := h5 z hz; omega) h6 h7 ?_ ?_ (hT6.ag a2 (fun o k w => ?_)) one
        · rcases w with w | w
          · exact Or.inl (Or.inl w)
          · exact Or.inr (Or.inr (Or.inl w))
        · rw [a2.i _ _ (by unfold xq; omega)]; exact hO6.2.2.2.2.2.2.2.1
        · rw [a2.i _ _ (by unfold xq; omega)]; exact hO6.2.2.2.2.2.2.2.2
        · unfold xq at w; omega
  · rw [if_neg (fun w => z (test.2 w))] at one
    exact k1 _ one σ6 hO6 hT6
end RX2
