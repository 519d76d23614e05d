/-! ===== the law: law, orders, image, back (by program: wip/whole/mkw.py) ===== -/
section LSP
variable {X : CT} {w v : WO} {A : Nat → Prop} {b : BZ} {z : EXa} {b0 N c0 s0 n p : Nat} {xs : Nat → Int32} {T : TXT} {x m : DD} {Q : State → Prop}
theorem GW.imR (G : GW b T w v x m n) : ∀ k b', k < 2 → gR x 2 k = some b' → LyR w b' := by
  intro k b' hk hr
  have key : ∀ b9, prK k b9 → LyR w b' := by
    intro b9 hp
    rcases G.img k b9 hp with ⟨h1, -⟩ | ⟨h1, h2⟩
    · rw [h1] at hr; cases hr
    · rw [h1] at hr; cases hr; exact h2
  rcases (show k = 0 ∨ k = 1 by omega) with e | e
  · exact key 230 (Or.inl ⟨e, rfl⟩)
  · exact key 260 (Or.inr ⟨e, rfl⟩)
theorem nI_or2 (a1 : Int32) : (a1 < 0 ∨ ¬ a1 < 2) ∨ ∃ k b9, prK k b9 ∧ a1 = nI k := by
  by_cases h0 : a1 < 0
  · exact Or.inl (Or.inl h0)
  · by_cases h2 : a1 < 2
    · obtain ⟨k, hk, e⟩ := nI_ltE (x := a1) (n := 2) ⟨by grind, h2⟩ (by decide)
      rcases (show k = 0 ∨ k = 1 by omega) with q | q
      · exact Or.inr ⟨k, 230, Or.inl ⟨q, rfl⟩, e⟩
      · exact Or.inr ⟨k, 260, Or.inr ⟨q, rfl⟩, e⟩
    · exact Or.inl (Or.inr h2)
/-- an image that stands, or none that can be -/
theorem GW.im0 {m1 x' : DD} {a1 : Int32} {n1 : Nat} (G : GW b T w v x m n) (hi : INV T m1 x' n1) (hx : IMx a1 x x') (hne : ∀ k b9, prK k b9 → a1 = nI k → gR x 2 k = none → False) : GW b T w v x' m1 n1 := by
  refine G.call hi (fun k hk => ?_)
  rcases nI_or2 a1 with h | ⟨k9, b9, hp, ea⟩
  · rw [hx.2 h]
  · obtain ⟨e1, e2⟩ := hx.1 k9 b9 hp ea
    by_cases e : k = k9
    · subst e
      rw [e2]
      exact ⟨fun q => (by cases q), fun q => (hne k b9 hp ea q).elim⟩
    · rw [e1 k e]
set_option maxRecDepth 20000 in
theorem i_imageN {l : Launch} {w : WO} {T : TXT} {z : EXa} {σ : DD} {sz : Nat} {b : BZ} {a1 : Int32} {post : Int32 → DD → Prop} (hK : KX b T w) (hbs : b.1 ≤ sz) (hZ : EXZ b z) (hr : a1 < 0 ∨ ¬ a1 < 2) (h : w_Face_refused T σ (-1) post) : Met l yX10_image (.code yX10_image cX10_image 3 (some .int) :: TT) rmIm (wPc w σ [.ref (wAd w 0), .int a1] sz) (wQmi w sz b (fun r u => u.1 = w ∧ post r u.2)) 15 369 (gA w sz) := by
  have hL := hK.ly hZ
  refine mk_head (by decide) rfl hK.2.2 hbs (fun X hX hi hsz C => ?_)
  subst hX
  generalize hQ : MQ X.below (wQmi w sz b (fun r u => u.1 = w ∧ post r u.2)) X.args X.s 15 369 (gA w sz) = Q
  show gW X w (gA w sz, 0, 0) 3 Q σ 0 [(0, .ref (wAd w 0)), (1, .int a1)] []
  have bad : gW X w (gA w sz, 0, 0) 3 Q σ 9 [(0, .ref (wAd w 0)), (1, .int a1)] [] := by
    refine r_aload_n C.1 0 rfl (dk_at dk_Face_image_0 5 rfl) ?_
    refine r_iconst C.1 (-1) (dk_at dk_Face_image_0 6 rfl) ?_
    refine r_cvI C.1 cl_Face_90 0 (hL.1 0 _ rfl) [.int (-1)] (m_Face_refused hL h) ⟨Nat.le_of_ble_eq_true rfl, Nat.le_of_ble_eq_true rfl, rfl, rfl⟩ rfl rfl (Nat.le_of_ble_eq_true rfl) (dk_at dk_Face_image_0 7 rfl) (fun r σ2 h => ?_)
    rw [← hQ]
    exact r_miret C rfl hsz ⟨Nat.zero_le _, Nat.zero_le _⟩ ⟨rfl, h⟩ (dk_at dk_Face_image_0 8 rfl)
  refine r_iload_n C.1 1 rfl (dk_at dk_Face_image_0 0 rfl) ?_
  refine r_if_lt C.1 9 rfl (dk_at dk_Face_image_0 1 rfl) (fun _ => bad) (fun c => ?_)
  refine r_iload_n C.1 1 rfl (dk_at dk_Face_image_0 2 rfl) ?_
  refine r_iconst C.1 2 (dk_at dk_Face_image_0 3 rfl) ?_
  exact r_icmp_lt C.1 15 rfl (dk_at dk_Face_image_0 4 rfl) (fun c2 => by rcases hr with q | q; exact absurd q c; exact absurd c2 q) (fun _ => bad)
theorem Met_pi {l : Launch} {y : MethodName} {ws : List Cond} {rm : Room} {Pc : Array Value → State → Prop} {w : WO} {sz mc ms : Nat} {b : BZ} {post post' : Int32 → WO × DD → Prop} {free : Addr → Prop} (h : Met l y ws rm Pc (wQmi w sz b post) mc ms free) (hp : ∀ r u, post r u → post' r u) : Met l y ws rm Pc (wQmi w sz b post') mc ms free := by
  intro p e ha hc hk s m args below hf happ hP hK
  obtain ⟨n, o, h1, h2, h3, ⟨⟨r, u, g1, g2, g3⟩, g4⟩, hl⟩ := h p e ha hc hk s m args below hf happ hP hK
  exact ⟨n, o, h1, h2, h3, ⟨⟨r, u, g1, hp r u g2, g3⟩, g4⟩, hl⟩
theorem i_imageA {w1 : WO} {x1 : DD} (G : GW b T w1 v x1 m n) (F : FX X v b z A b0 N xs) (hn : n < 2 ^ 20) (hNR : ∀ o, o < 300 → wLy w1 o = none → NR w1 x1 o) {a1 : Int32} {sz : Nat} (hsz : b.1 ≤ sz) : Met X.l yX10_image (.code yX10_image cX10_image 3 (some .int) :: TT) rmIm (wPc w1 x1 [.ref (wAd w1 0), .int a1] sz) (wQmi w1 sz b (fun r u => ((u.1 = w1 ∧ ∀ k b9, prK k b9 → a1 = nI k → gR x1 2 k = none → False) ∨ ∃ k b9, prK k b9 ∧ a1 = nI k ∧ gR x1 2 k = none ∧ IMW b T w1 b9 u.1) ∧ w_M_image m a1 (fun r' m' => r = r' ∧ INV T m' u.2 (n + 1) ∧ IMx a1 x1 u.2))) 15 369 (gA w1 sz) := by
  have hp := p_image (a1 := a1) G.inv hn
  rcases nI_or2 a1 with h | ⟨k, b9, hk, ea⟩
  · refine Met_pi (i_imageN G.kx hsz F.exz h (hp.1 h)) (fun r u q => ⟨Or.inl ⟨q.1, fun k b9 hk ea _ => ?_⟩, q.2⟩)
    subst ea
    unfold prK at hk
    rw [show (0 : Int32) = nI 0 from rfl, show (2 : Int32) = nI 2 from rfl, nI_ltI (by omega) (by decide), nI_ltI (by omega) (by decide)] at h
    omega
  · subst ea
    have hk2 : ∀ k' b', prK k' b' → nI k = nI k' → k' = k := by
      intro k' b' hk' e
      unfold prK at hk hk'
      have := (nI_eq (by omega) (by omega)).1 e
      omega
    have h9 : b9 = 230 ∨ b9 = 260 := by unfold prK at hk; omega
    have hRC : RLC b9 := by
      rcases h9 with e | e <;> subst e
      · exact rc_RealA
      · exact rc_RealB
    have hI : gR x1 2 k = some b9 → LyR w1 b9 := fun e => by
      rcases G.img k b9 hk with ⟨q, -⟩ | ⟨-, q⟩
      · rw [q] at e; cases e
      · exact q
    have hno : gR x1 2 k = none → ∀ j, j ≤ 20 → wLy w1 (b9 + j) = none := fun e => by
      rcases G.img k b9 hk with ⟨-, q⟩ | ⟨q, -⟩
      · exact q
      · rw [q] at e; cases e
    have hN : gR x1 2 k = none → NRs w1 x1 (fun o => b9 ≤ o ∧ o ≤ b9 + 20) := fun e o ho => hNR o (by omega) (by
      have := hno e (o - b9) (by omega)
      rw [show b9 + (o - b9) = o by omega] at this
      exact this)
    refine Met_pi (i_image hRC G.kx hsz F.exz G.fl hk G.t3 hI hno hN hp) (fun r u q => ⟨?_, q.2⟩)
    rcases q.1 with q1 | q1
    · exact Or.inl ⟨q1.1, fun k' b' hk' e hz => by rw [hk2 k' b' hk' e] at hz; exact q1.2 hz⟩
    · exact Or.inr ⟨k, b9, hk, rfl, q1.1, q1.2⟩
theorem cs_law (F : FX X v b z A b0 N xs) (C : CLw X w (A, c0, s0) b) (G : GW b T w v x m n) (hp : p + 7 ≤ N) (hn : n < 2 ^ 20) (hc : c0 + 15 ≤ 600000 ∧ s0 + 804 ≤ 7302250) (k : KT X v b A c0 s0 Q b0 p n) : gV X w v (A, c0, s0) Q x m 614 [(0, .ref b0), (1, .ref (wAd w 0)), (2, .ref (wAd v 0)), (3, .int (nI p))] [] := by
  obtain ⟨w1, x1, t, C, G, ea, tr, hF, hd, hNR⟩ := clean_all G C
  have ht := hF.1
  refine tr _ _ _ _ ?_
  rw [← ea]
  clear tr ea
  refine v_aload_n C 1 rfl (dk_at dk_Law_8 36 rfl) ?_
  refine v_cXM (rm' := rmLw) (mc := 3) (ms := 804) (c1 := c0 + 3) (s1 := s0 + 804) C G.fl G.dj G.y0 cl_Law_66 [] (fun sz hsz => i_law G.kx hsz F.exz G.fl hF (hd t (by omega)) (hd (t + 3) (by omega)) (hd (t + 4) (by omega)) (fun o ho => hNR o (by omega) (hd o (by omega))) (p_law G.inv hn)) ⟨Nat.le_of_ble_eq_true rfl, Nat.le_of_ble_eq_true rfl, rfl, rfl, rfl, rfl, by show c0 + 3 ≤ 600000; omega, by show s0 + 804 ≤ 7302250; omega⟩ rfl rfl (Nat.le_of_ble_eq_true rfl) (dk_at dk_Law_8 37 rfl) ?_
  rintro r w' x' hpost hDj C'
  rcases hpost with ⟨hw, h⟩ | ⟨qt, qc, qh, s, c, hw, hs, hcc, h⟩
  · have hw : w' = w1 := hw
    subst hw
    replace h : w_M_law m (fun r' m' => r = r' ∧ INV T m' x' (n + 1) ∧ ∀ c, gR x' 2 c = gR x1 2 c) := h
    refine v_aload_n C' 2 rfl (dk_at dk_Law_8 38 rfl) ?_
    refine v_cMI C' F.up F.km G.dj cl_Law_69 [] (m_M_law F.km.2.2.1 h) ⟨Nat.le_of_ble_eq_true rfl, Nat.le_of_ble_eq_true rfl, rfl, rfl⟩ rfl rfl (Nat.le_of_ble_eq_true rfl) (dk_at dk_Law_8 39 rfl) (fun r1 m1 h1 => ?_)
    obtain ⟨rfl, hi, hr⟩ := h1
    refine v_same C' 1391 rfl (dk_at dk_Law_9 0 rfl) ?_
    exact k w' T x' m1 (c0 + 3) (s0 + 804) C' (G.call hi (fun k _ => by rw [hr])) (by omega) (by omega)
  · have hw : w' = wTx w1 t qt qc qh s c := hw
    subst hw
    replace h : w_M_law m (fun r' m' => r = r' ∧ INV (adT T t s (6 * c)) m' x' (n + 1) ∧ ∀ c, gR x' 2 c = gR x1 2 c) := h
    have hDj' := hDj G.fl
    have e0 : wAd (wTx w1 t qt qc qh s c) 0 = wAd w1 0 := wTx_a (by omega)
    rw [← e0]
    refine v_aload_n C' 2 rfl (dk_at dk_Law_8 38 rfl) ?_
    refine v_cMI C' F.up F.km hDj' cl_Law_69 [] (m_M_law F.km.2.2.1 h) ⟨Nat.le_of_ble_eq_true rfl, Nat.le_of_ble_eq_true rfl, rfl, rfl⟩ rfl rfl (Nat.le_of_ble_eq_true rfl) (dk_at dk_Law_8 39 rfl) (fun r1 m1 h1 => ?_)
    obtain ⟨rfl, hi, hr⟩ := h1
    refine v_same C' 1391 rfl (dk_at dk_Law_9 0 rfl) ?_
    exact k _ _ x' m1 (c0 + 3) (s0 + 804) C' (G.tx hF hd hi C'.2.1 hDj' hr) (by omega) (by omega)
theorem cs_orders (F : FX X v b z A b0 N xs) (C : CLw X w (A, c0, s0) b) (G : GW b T w v x m n) (hp : p + 7 ≤ N) (hn : n < 2 ^ 20) (hc : c0 + 15 ≤ 600000 ∧ s0 + 804 ≤ 7302250) (k : KT X v b A c0 s0 Q b0 p n) : gV X w v (A, c0, s0) Q x m 627 [(0, .ref b0), (1, .ref (wAd w 0)), (2, .ref (wAd v 0)), (3, .int (nI p))] [] := by
  obtain ⟨w1, x1, t, C, G, ea, tr, hF, hd, hNR⟩ := clean_all G C
  have ht := hF.1
  refine tr _ _ _ _ ?_
  rw [← ea]
  clear tr ea
  refine v_aload_n C 1 rfl (dk_at dk_Law_9 3 rfl) ?_
  refine v_cXM (rm' := rmLw) (mc := 3) (ms := 804) (c1 := c0 + 3) (s1 := s0 + 804) C G.fl G.dj G.y0 cl_Law_70 [] (fun sz hsz => i_orders G.kx hsz F.exz hF (hd t (by omega)) (hd (t + 3) (by omega)) (hd (t + 4) (by omega)) (fun o ho => hNR o (by omega) (hd o (by omega))) (p_orders G.inv hn)) ⟨Nat.le_of_ble_eq_true rfl, Nat.le_of_ble_eq_true rfl, rfl, rfl, rfl, rfl, by show c0 + 3 ≤ 600000; omega, by show s0 + 804 ≤ 7302250; omega⟩ rfl rfl (Nat.le_of_ble_eq_true rfl) (dk_at dk_Law_9 4 rfl) ?_
  rintro r w' x' hpost hDj C'
  rcases hpost with ⟨hw, h⟩ | ⟨qt, qc, qh, s, c, hw, hs, hcc, h⟩
  · have hw : w' = w1 := hw
    subst hw
    replace h : w_M_orders m (fun r' m' => r = r' ∧ INV T m' x' (n + 1) ∧ ∀ c, gR x' 2 c = gR x1 2 c) := h
    refine v_aload_n C' 2 rfl (dk_at dk_Law_9 5 rfl) ?_
    refine v_cMI C' F.up F.km G.dj cl_Law_73 [] (m_M_orders F.km.2.2.1 h) ⟨Nat.le_of_ble_eq_true rfl, Nat.le_of_ble_eq_true rfl, rfl, rfl⟩ rfl rfl (Nat.le_of_ble_eq_true rfl) (dk_at dk_Law_9 6 rfl) (fun r1 m1 h1 => ?_)
    obtain ⟨rfl, hi, hr⟩ := h1
    refine v_same C' 1391 rfl (dk_at dk_Law_9 7 rfl) ?_
    exact k w' T x' m1 (c0 + 3) (s0 + 804) C' (G.call hi (fun k _ => by rw [hr])) (by omega) (by omega)
  · have hw : w' = wTx w1 t qt qc qh s c := hw
    subst hw
    replace h : w_M_orders m (fun r' m' => r = r' ∧ INV (adT T t s (6 * c)) m' x' (n + 1) ∧ ∀ c, gR x' 2 c = gR x1 2 c) := h
    have hDj' := hDj G.fl
    have e0 : wAd (wTx w1 t qt qc qh s c) 0 = wAd w1 0 := wTx_a (by omega)
    rw [← e0]
    refine v_aload_n C' 2 rfl (dk_at dk_Law_9 5 rfl) ?_
    refine v_cMI C' F.up F.km hDj' cl_Law_73 [] (m_M_orders F.km.2.2.1 h) ⟨Nat.le_of_ble_eq_true rfl, Nat.le_of_ble_eq_true rfl, rfl, rfl⟩ rfl rfl (Nat.le_of_ble_eq_true rfl) (dk_at dk_Law_9 6 rfl) (fun r1 m1 h1 => ?_)
    obtain ⟨rfl, hi, hr⟩ := h1
    refine v_same C' 1391 rfl (dk_at dk_Law_9 7 rfl) ?_
    exact k _ _ x' m1 (c0 + 3) (s0 + 804) C' (G.tx hF hd hi C'.2.1 hDj' hr) (by omega) (by omega)
theorem cs_image (F : FX X v b z A b0 N xs) (C : CLw X w (A, c0, s0) b) (G : GW b T w v x m n) (hp : p + 7 ≤ N) (hn : n < 2 ^ 20) (hc : c0 + 15 ≤ 600000 ∧ s0 + 804 ≤ 7302250) (k : KT X v b A c0 s0 Q b0 p n) : gV X w v (A, c0, s0) Q x m 1309 [(0, .ref b0), (1, .ref (wAd w 0)), (2, .ref (wAd v 0)), (3, .int (nI p))] [] := by
  obtain ⟨w1, x1, t, C, G, ea, tr, hF, hd, hNR⟩ := clean_all G C
  have ht := hF.1
  refine tr _ _ _ _ ?_
  rw [← ea]
  clear tr ea
  refine v_aload_n C 1 rfl (dk_at dk_Law_22 25 rfl) ?_
  refine v_aload_n C 0 rfl (dk_at dk_Law_22 26 rfl) ?_
  refine v_iload_n C 3 rfl (dk_at dk_Law_22 27 rfl) ?_
  refine v_iconst C 1 (dk_at dk_Law_22 28 rfl) ?_
  refine v_iadd C (dk_at dk_Law_22 29 rfl) ?_
  refine v_sld C F.sc (in_1 hp F.n3) (dk_at dk_Law_22 30 rfl) ?_
  have hmet : ∀ a1 sz, b.1 ≤ sz → Met X.l yX10_image (.code yX10_image cX10_image 3 (some .int) :: TT) rmIm (wPc w1 x1 [.ref (wAd w1 0), .int a1] sz) (wQmi w1 sz b (fun r u => ((u.1 = w1 ∧ ∀ k b9, prK k b9 → a1 = nI k → gR x1 2 k = none → False) ∨ ∃ k b9, prK k b9 ∧ a1 = nI k ∧ gR x1 2 k = none ∧ IMW b T w1 b9 u.1) ∧ w_M_image m a1 (fun r' m' => r = r' ∧ INV T m' u.2 (n + 1) ∧ IMx a1 x1 u.2))) 15 369 (gA w1 sz) := fun a1 sz hsz => i_imageA G F hn (fun o h1 h2 => hNR o (by omega) h2) hsz
  generalize ha : xs (nI p + 1).toNatClampNeg = a1
  refine v_cXM (rm' := rmIm) (mc := 15) (ms := 369) (c1 := c0 + 15) (s1 := s0 + 369) C G.fl G.dj G.y0 cl_Law_165 [.int a1] (hmet a1) ⟨Nat.le_of_ble_eq_true rfl, Nat.le_of_ble_eq_true rfl, rfl, rfl, rfl, rfl, by show c0 + 15 ≤ 600000; omega, by show s0 + 369 ≤ 7302250; omega⟩ rfl rfl (Nat.le_of_ble_eq_true rfl) (dk_at dk_Law_22 31 rfl) ?_
  rintro r w' x' ⟨hw, h⟩ hDj C'
  replace h : w_M_image m a1 (fun r' m' => r = r' ∧ INV T m' x' (n + 1) ∧ IMx a1 x1 x') := h
  have fin : ∀ m1, INV T m1 x' (n + 1) → IMx a1 x1 x' → GW b T w' v x' m1 (n + 1) ∧ wAd w' 0 = wAd w1 0 := by
    intro m1 hi hx
    rcases hw with ⟨hw, hne⟩ | ⟨k9, b9, hk, ea, h0, hI⟩
    · have hw : w' = w1 := hw
      subst hw
      exact ⟨G.im0 hi hx hne, rfl⟩
    · have hI : IMW b T w1 b9 w' := hI
      have e := hx.1 k9 b9 hk ea
      exact ⟨G.im hk h0 hI (hDj hI.2.2.2) hi e.1 e.2, (hI.2.1 0 (by unfold prK at hk; omega)).2⟩
  have e0 : wAd w' 0 = wAd w1 0 := by
    rcases hw with ⟨hw, hne⟩ | ⟨k9, b9, hk, ea, h0, hI⟩
    · have hw : w' = w1 := hw
      rw [hw]
    · have hI : IMW b T w1 b9 w' := hI
      exact (hI.2.1 0 (by unfold prK at hk; omega)).2
  have hDj' : Dj w' v := by
    rcases hw with ⟨hw, hne⟩ | ⟨k9, b9, hk, ea, h0, hI⟩
    · have hw : w' = w1 := hw
      rw [hw]; exact G.dj
    · have hI : IMW b T w1 b9 w' := hI
      exact hDj hI.2.2.2
  rw [← e0]
  refine v_aload_n C' 2 rfl (dk_at dk_Law_22 32 rfl) ?_
  refine v_aload_n C' 0 rfl (dk_at dk_Law_22 33 rfl) ?_
  refine v_iload_n C' 3 rfl (dk_at dk_Law_22 34 rfl) ?_
  refine v_iconst C' 1 (dk_at dk_Law_22 35 rfl) ?_
  refine v_iadd C' (dk_at dk_Law_22 36 rfl) ?_
  refine v_sld C' F.sc (in_1 hp F.n3) (dk_at dk_Law_22 37 rfl) ?_
  rw [ha]
  refine v_cMI C' F.up F.km hDj' cl_Law_168 [.int a1] (m_M_image F.km.2.2.1 h) ⟨Nat.le_of_ble_eq_true rfl, Nat.le_of_ble_eq_true rfl, rfl, rfl⟩ rfl rfl (Nat.le_of_ble_eq_true rfl) (dk_at dk_Law_22 38 rfl) (fun r1 m1 h1 => ?_)
  obtain ⟨rfl, hi, hx⟩ := h1
  refine v_same C' 1391 rfl (dk_at dk_Law_22 39 rfl) ?_
  exact k w' T x' m1 (c0 + 15) (s0 + 369) C' (fin m1 hi hx).1 (by omega) (by omega)
theorem cs_back (F : FX X v b z A b0 N xs) (C : CLw X w (A, c0, s0) b) (G : GW b T w v x m n) (hp : p + 7 ≤ N) (hn : n < 2 ^ 20) (hc : c0 + 15 ≤ 600000 ∧ s0 + 804 ≤ 7302250) (k : KT X v b A c0 s0 Q b0 p n) : gV X w v (A, c0, s0) Q x m 1332 [(0, .ref b0), (1, .ref (wAd w 0)), (2, .ref (wAd v 0)), (3, .int (nI p))] [] := by
  refine v_aload_n C 1 rfl (dk_at dk_Law_23 2 rfl) ?_
  refine v_aload_n C 0 rfl (dk_at dk_Law_23 3 rfl) ?_
  refine v_iload_n C 3 rfl (dk_at dk_Law_23 4 rfl) ?_
  refine v_iconst C 1 (dk_at dk_Law_23 5 rfl) ?_
  refine v_iadd C (dk_at dk_Law_23 6 rfl) ?_
  refine v_sld C F.sc (in_1 hp F.n3) (dk_at dk_Law_23 7 rfl) ?_
  refine v_cXB C G.fl G.dj G.y0 cl_Law_169 [.int (xs (nI p + 1).toNatClampNeg)] (m_Face_back (G.ly F) (IM := fun q => LyR w q) (fun _ h => h) G.fl (p_back G.inv hn G.imR)) ⟨Nat.le_of_ble_eq_true rfl, Nat.le_of_ble_eq_true rfl, rfl, rfl⟩ rfl rfl (Nat.le_of_ble_eq_true rfl) (dk_at dk_Law_23 8 rfl) (fun r x1 h => ?_)
  refine v_aload_n C 2 rfl (dk_at dk_Law_23 9 rfl) ?_
  refine v_aload_n C 0 rfl (dk_at dk_Law_23 10 rfl) ?_
  refine v_iload_n C 3 rfl (dk_at dk_Law_23 11 rfl) ?_
  refine v_iconst C 1 (dk_at dk_Law_23 12 rfl) ?_
  refine v_iadd C (dk_at dk_Law_23 13 rfl) ?_
  refine v_sld C F.sc (in_1 hp F.n3) (dk_at dk_Law_23 14 rfl) ?_
  refine v_cMI C F.up F.km G.dj cl_Law_172 [.int (xs (nI p + 1).toNatClampNeg)] (m_M_back F.km.2.2.1 h) ⟨Nat.le_of_ble_eq_true rfl, Nat.le_of_ble_eq_true rfl, rfl, rfl⟩ rfl rfl (Nat.le_of_ble_eq_true rfl) (dk_at dk_Law_23 15 rfl) (fun r1 m1 h1 => ?_)
  obtain ⟨rfl, hi, hr⟩ := h1
  refine v_same C 1391 rfl (dk_at dk_Law_23 16 rfl) ?_
  exact k w T x1 m1 c0 s0 C (G.call hi (fun k _ => by rw [hr])) (by omega) (by omega)
end LSP
