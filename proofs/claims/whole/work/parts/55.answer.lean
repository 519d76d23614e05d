/-! ===== the court's answers ===== -/
section AN
variable {σ τ : DD} {T : TXT} {K : Nat → Int32} {L : List RD}
theorem s_trait {a : Nat} {x : Int32} {post : Int32 → DD → Prop} (j : Nat) (hx : x = nI j) (hR : RXs σ 200 T K) (hI : KI K) (ha : a < nA K) (hj : j < 4) (k : post (K (4 * a + j)) σ) : w_Real_trait T σ (nI a) x post := by
  have ha8 := hI.a
  unfold w_Real_trait
  have e : (nI a * 4) + x = nI (4 * a + j) := by
    rw [hx, show (4 : Int32) = nI 4 from rfl, pk_mul, nI_add]; congr 1; omega
  rw [e, nI_clamp (by omega)]
  refine ⟨vp_in_nI (by omega) (by decide), ?_⟩
  have h2 : gI σ 202 (4 * a + j) = K (4 * a + j) := hR.2.2.2.2.2.1 a j ha hj
  rw [h2]; exact k
theorem s_textIn {post : Option Nat → DD → Prop} (hR : RXs σ 200 T K) (hI : KI K) (k0 : K 404 = -1 → post none σ) (k1 : ∀ f t, K 404 = nI f → f < nLw K → 300 ≤ t → TxtOK σ T t false (clsOf K f) → post (some t) σ) : w_Real_textInForce T σ post := by
  unfold w_Real_textInForce
  have h19 : gI σ 200 19 = K 404 := hR.2.2.2.2.1
  have h17 : gI σ 200 17 = K 403 := hR.2.2.2.1
  have hl := hI.l
  rw [h19, h17]
  rcases hI.fo with h | ⟨f, hf, h⟩
  · refine ⟨fun _ => k0 h, fun z => absurd (by rw [h]; decide) z⟩
  · obtain ⟨t, ht, hr, hx⟩ := hR.2.2.2.2.2.2.2.2.2.2.2 f hf
    have hr : gR σ 219 f = some t := hr
    rw [h, hl.1, nI_clamp (by omega), hr]
    refine ⟨fun z => absurd z (nI_pos (by omega)), fun _ => ⟨fun z => absurd z (by rw [nI_leI (by omega) (by omega)]; omega), fun _ => ⟨vp_in_nI (by omega) (by decide), k1 f t h hf ht hx⟩⟩⟩
theorem jl_clamp (s : Int64) : jlmax 0 (jlmin 99 s) = clampL s := by
  unfold jlmax jlmin clampL; grind
theorem ones8_in {n : Nat} (hn : n < 256) : rng (ones8 (nI n)) 0 8 := by
  have : 0 ≤ ones8 (nI n) ∧ ones8 (nI n) ≤ 8 := co_dec (N := 256) (P := fun n => 0 ≤ ones8 (nI n) ∧ ones8 (nI n) ≤ 8) (by decide +kernel) hn
  obtain ⟨h1, h2⟩ := nI_toN this.1
  refine ⟨_, Nat.zero_le _, ?_, h1⟩
  have h3 := this.2
  rw [h1, show (8 : Int32) = nI 8 from rfl, nI_leI h2 (by decide)] at h3
  exact h3
theorem rng_Bd {x : Int32} {lo hi : Nat} (h : rng x lo hi) (hh : hi ≤ 1000) : Bd (i2l x) := by
  obtain ⟨n, h1, h2, e⟩ := h
  subst e
  exact i2l_Bd (nI_pos' (by omega)) (by rw [show (1000 : Int32) = nI 1000 from rfl]; exact nI_le (by omega) (by decide))
theorem env_Bd (hI : KI K) {a r w : Nat} (ha : a < nA K) (hr : r < nR K) (hw : w < 7) : ∀ j, Bd (envL K a r w j) := by
  intro j
  have ha8 := hI.a
  have hr4 := hI.r
  have hA := hI.act ha
  unfold envL
  split
  · exact rng_Bd ⟨a, Nat.zero_le _, (by omega : a ≤ 8), rfl⟩ (by omega)
  · split
    · exact rng_Bd hA.1 (by omega)
    · split
      · exact rng_Bd hA.2.1 (by omega)
      · split
        · obtain ⟨n, h1, h2, e⟩ := hA.2.2.1
          rw [e]; exact rng_Bd (ones8_in (by omega)) (by omega)
        · split
          · exact rng_Bd ⟨r, Nat.zero_le _, (by omega : r ≤ 8), rfl⟩ (by omega)
          · split
            · exact rng_Bd (hI.rd hr).2 (by omega)
            · split
              · exact rng_Bd ⟨w, Nat.zero_le _, (by omega : w ≤ 8), rfl⟩ (by omega)
              · exact rng_Bd hI.tm.2.2 (by omega)
theorem l2i_i2l (x : Int32) : l2i (i2l x) = x := by unfold l2i i2l; simp
def zb (z : Bool) : Int64 := if z then 1 else 0
theorem s_ans326 {a r w : Nat} {x5 x6 x7 : Int32} {post : Int32 → DD → Prop} (hS : XQ σ T K) (ha : a < nA K) (hr : r < nR K) (hw : w < 7) (h5 : x5 = ans K 1 a r w) (h6 : x6 = ans K 2 a r w) (h7 : x7 = bl (barN K a r w)) (k : ∀ τ, AgX xq xl σ τ → XQ τ T K → post (pack K a r w) τ) : w_Court_answerOf_j326 T post σ (nI (cx a r w)) x5 x6 x7 := by
  obtain ⟨hR, ⟨n, n1, n2, hn, hc⟩, hI⟩ := hS
  have ha8 := hI.a
  have hr4 := hI.r
  have hlt : cx a r w < 224 := by unfold cx; omega
  have hin : vp_in (nI (cx a r w)) 224 := vp_in_nI hlt (by decide)
  unfold w_Court_answerOf_j326
  rw [nI_clamp (by omega)]
  refine ⟨hin, fun σ8 e8 => ⟨hin, fun σ11 e11 => ⟨hin, ?_⟩⟩⟩
  subst e8; subst e11
  rw [gI_same, h5, h6, h7]
  have ag : AgX xq xl σ (sI (sI σ 55 (cx a r w) (gI σ 50 5)) 54 (cx a r w) (ans K 1 a r w ||| jshl (ans K 2 a r w) 7 ||| jshl (bl (barN K a r w)) 14)) := (AgX.put (Or.inr (Or.inr rfl))).set (Or.inr (Or.inl rfl))
  refine k _ ag ⟨hR.ag ag (xq200 (by omega)) (by omega), ⟨n, n1, n2, ?_, ?_⟩, hI⟩
  · rw [gI_sI, if_neg (by omega), gI_sI, if_neg (by omega)]; exact hn
  · intro a' r' w' g1 g2 g3
    obtain ⟨m, m1, m2, m3⟩ := hc a' r' w' g1 g2 g3
    by_cases he : cx a' r' w' = cx a r w
    · have : a' = a ∧ r' = r ∧ w' = w := by unfold cx at he; omega
      obtain ⟨z1, z2, z3⟩ := this
      subst z1; subst z2; subst z3
      refine ⟨n, Nat.le_refl _, ?_, fun _ => ⟨ha, hr, ?_⟩⟩
      · rw [gI_sI, if_neg (by omega), gI_sI, if_pos ⟨rfl, rfl⟩]; exact hn
      · rw [gI_same]; rfl
    · refine ⟨m, m1, ?_, fun z => ?_⟩
      · rw [gI_sI, if_neg (by omega), gI_sI, if_neg (fun z => he z.2)]; exact m2
      · rw [gI_sI, if_neg (fun z => he z.2), gI_sI, if_neg (by omega)]; exact m3 z
theorem kX_law {x : CLS} (h : COK false x) : (kX x.1 = 0 ↔ x.1 = 1) ∧ (kX x.1 = 1 ↔ x.1 = 2) ∧ (kX x.1 = 2 ↔ x.1 = 3) := by
  have h1 := h.2.2.2
  simp only [Bool.false_eq_true, if_false] at h1
  rcases h1.1 with z | z | z <;> rw [z] <;> decide
theorem s_answerOf {a r d : Nat} {post : Int32 → DD → Prop} (hS : XQ σ T K) (ha : a < nA K) (hr : r < nR K) (hd : d < 2 ^ 31) (k : ∀ τ, AgX xq xl σ τ → XQ τ T K → post (pack K a r (d % 7)) τ) : w_Court_answerOf T σ (nI a) (nI r) (nI d) post := by
  obtain ⟨hR, hC, hI⟩ := hS
  have hS : XQ σ T K := ⟨hR, hC, hI⟩
  obtain ⟨n, n1, n2, hn, hc⟩ := hC
  have ha8 := hI.a
  have hr4 := hI.r
  have hw7 : d % 7 < 7 := Nat.mod_lt _ (by decide)
  have hlt : cx a r (d % 7) < 224 := by unfold cx; omega
  have hin : vp_in (nI (cx a r (d % 7))) 224 := vp_in_nI hlt (by decide)
  unfold w_Court_answerOf
  have ev : (((nI a * 4) + nI r) * 7) + jrem (nI d) 7 = nI (cx a r (d % 7)) := by
    rw [jrem7 hd, show (4 : Int32) = nI 4 from rfl, pk_mul, nI_add, show (7 : Int32) = nI 7 from rfl, pk_mul, nI_add]
    congr 1; unfold cx; omega
  rw [ev]
  intro v28 e28
  subst e28
  rw [nI_clamp (by omega)]
  refine ⟨hin, fun _ => ?_, fun q => ⟨hin, ?_⟩⟩
  rotate_left
  · obtain ⟨m, m1, m2, m3⟩ := hc a r (d % 7) (by omega) (by omega) hw7
    rw [m2, hn, nI_eq (by omega) (by omega)] at q
    rw [(m3 q).2.2]
    exact k σ (AgX.refl σ) hS
  · refine s_trait 1 rfl hR hI ha (by omega) (s_trait 0 rfl hR hI ha (by omega) (s_textIn hR hI ?_ ?_))
    · intro h404
      refine ⟨fun _ => ?_, fun t ht => by simp at ht⟩
      refine s_ans326 hS ha hr hw7 ?_ ?_ ?_ k
      · unfold ans ansW; rw [if_pos h404]; rfl
      · unfold ans ansW; rw [if_pos h404]; rfl
      · unfold barN ans ansW; rw [if_pos h404]; rfl
    · intro f t h404 hf ht hT
      refine ⟨fun z => by simp at z, fun t38 et => ?_⟩
      injection et with et
      subst et
      intro σ39 e39 σ41 e41 σ43 e43
      have ag43 : AgX xq xl σ σ43 := by
        subst e39; subst e41; subst e43
        exact (((AgX.put (Or.inl rfl)).set (Or.inl rfl)).set (Or.inl rfl))
      have hR43 := hR.ag ag43 (xq200 (by omega)) (by omega)
      refine s_trait 2 rfl hR43 hI ha (by omega) ?_
      obtain ⟨bn, b1, b2, be⟩ := (hI.act ha).2.2.1
      rw [be]
      refine s_bitCount (by omega) ?_
      intro σ49 e49 σ51 e51
      have h206 : gI σ 206 r = K (96 + 2 * r + 1) := (hR.2.2.2.2.2.2.2.1 r hr).2
      have h208 : gI σ 208 3 = K 398 := hR.2.2.2.2.2.2.2.2.2.1.2.2
      rw [nI_clamp (by omega)]
      refine ⟨vp_in_nI (by omega) (by decide), fun σ54 e54 σ56 e56 σ58 e58 => ?_⟩
      rw [jrem7 hd] at e56
      have ag58 : AgX xq xl σ σ58 := by
        subst e49; subst e51; subst e54; subst e56; subst e58
        exact (((((ag43.set (Or.inl rfl)).set (Or.inl rfl)).set (Or.inl rfl)).set (Or.inl rfl)).set (Or.inl rfl))
      have hE : ∀ j, j < 8 → i2l (gI σ58 52 j) = envL K a r (d % 7) j := by
        intro j hj
        unfold envL
        rw [be]
        subst e39; subst e41; subst e43; subst e49; subst e51; subst e54; subst e56; subst e58
        have : j = 0 ∨ j = 1 ∨ j = 2 ∨ j = 3 ∨ j = 4 ∨ j = 5 ∨ j = 6 ∨ j = 7 := by omega
        simp only [gI_sI]
        rcases this with h | h | h | h | h | h | h | h <;> subst h <;> simp [h206, h208]
      have hlaw := clsOf_ok (hI.lw hf)
      generalize hcl : clsOf K f = cl at hT hlaw
      have hans : ∀ h, ans K h a r (d % 7) = l2i (cl.foldl (tellF (nI h) (envL K a r (d % 7))) (i2l (wo K h a))) := by
        intro h
        have hl := hI.l
        unfold ans ansW
        rw [if_neg (by rw [h404]; exact nI_m1 (by omega)), h404, nI_clamp (by omega), hcl]
      have hBd := env_Bd hI ha hr hw7
      generalize hee : envL K a r (d % 7) = e at hE hans hBd
      obtain ⟨m1, m2, hTt, hm1, hm2, hcl12, hlen, hcls⟩ := hT
      unfold w_Court_answerOf_l169
      refine LoopN (fun m y => ∃ c z, m = cl.length - c ∧ c ≤ cl.length ∧ AgX xq xl σ y.1 ∧ y.1.1 = σ58.1 ∧ y.2.2.2.2 = nI c ∧ y.2.1 = l2i ((cl.take c).foldl (tellF (nI 1) e) (i2l (wo K 1 a))) ∧ y.2.2.1 = l2i ((cl.take c).foldl (tellF (nI 2) e) (i2l (wo K 2 a))) ∧ y.2.2.2.1 = bl z ∧ (cl.take c).foldl (tellF (nI 3) e) (i2l (wo K 3 a)) = zb z) ?_ (n := cl.length) ⟨0, false, rfl, Nat.zero_le _, ag58, rfl, rfl, ?_, ?_, rfl, rfl⟩
      · rintro m ⟨υ, x5, x6, x7, x9⟩ KK ⟨c, z, hm, hc', agu, hu, h9, h5, h6, h7, hz⟩ ih
        simp only [] at agu hu h9 h5 h6 h7 hz ⊢
        subst h9
        have gu : ∀ o k, gI υ o k = gI σ58 o k := by intro o k; unfold gI; rw [hu]
        unfold w_Court_answerOf_b169
        refine ⟨m1, m2, hTt, ?_⟩
        have hut : gI υ t 0 = nI cl.length := by rw [agu.i t 0 (by unfold xq; omega)]; exact hlen
        rw [hut, nI_leI (by omega) (by omega)]
        have hRu := hR.ag agu (xq200 (by omega)) (by omega)
        have hSu : XQ υ T K := by
          refine ⟨hRu, ⟨n, n1, n2, ?_, ?_⟩, hI⟩
          · rw [agu.i 50 5 (by unfold xq; omega)]; exact hn
          · intro a' r' w' g1 g2 g3
            have e54 : gI υ 54 (cx a' r' w') = gI σ 54 (cx a' r' w') := by
              rw [gu]; subst e39; subst e41; subst e43; subst e49; subst e51; subst e54; subst e56; subst e58
              simp [gI_sI]
            have e55 : gI υ 55 (cx a' r' w') = gI σ 55 (cx a' r' w') := by
              rw [gu]; subst e39; subst e41; subst e43; subst e49; subst e51; subst e54; subst e56; subst e58
              simp [gI_sI]
            rw [e54, e55]; exact hc a' r' w' g1 g2 g3
        refine ⟨fun q => ?_, fun q => ?_⟩
        · have hce : c = cl.length := by omega
          subst hce
          rw [List.take_length] at h5 h6 hz
          refine s_ans326 hSu ha hr hw7 (by rw [h5, hans 1]) (by rw [h6, hans 2]) ?_ ?_
          · rw [h7]; unfold barN; rw [hans 3, hz]; cases z <;> rfl
          · intro τ2 ag2 hS2; exact k τ2 (agu.trans ag2) hS2
        · obtain ⟨x, hx, hxm⟩ := get_lt (L := cl) (i := c) (by omega)
          obtain ⟨p0, p1, p2, p3, g0, g1, g2, g3, l01, l12, l23, l3m, gk, gt, s0, s1, s2⟩ := hcls c x hx
          have cok := hlaw.1 x hxm
          have hk := kX_law cok
          have c3 := cok.2.2.2
          simp only [Bool.false_eq_true, if_false] at c3 s0 s1 s2
          have th : ∀ k, gI υ (t + 4) k = gI σ (t + 4) k := fun k => agu.i _ _ (by unfold xq; omega)
          have tc : gI υ (t + 3) = gI σ (t + 3) := agu.row _ (fun k => by unfold xq; omega)
          have vc : ∀ (υ' : DD) (q0 q1 : Nat), υ'.1 = υ.1 → q1 ≤ m1 → VC (gI σ (t + 3)) q0 q1 8 t m1 52 8 q1 υ' e := by
            intro υ' q0 q1 hu' hq
            have gu' : ∀ o k, gI υ' o k = gI υ o k := by intro o k; unfold gI; rw [hu']
            refine ⟨Nat.le_refl _, hq, hm1, fun k _ _ => ?_, Nat.le_refl _, by omega, fun j hj => ?_⟩
            · rw [gu', tc]
            · rw [gu', gu]; exact hE j hj
          have e6 : ∀ j : Nat, (nI c * 6) + nI j = nI (6 * c + j) := by
            intro j; rw [show (6 : Int32) = nI 6 from rfl, pk_mul, nI_add]; congr 1; omega
          have nx : ∀ (υ' : DD) (y5 y6 : Int32) (z' : Bool), AgX xq xl υ υ' → υ'.1 = υ.1 → y5 = l2i (tellF (nI 1) e ((cl.take c).foldl (tellF (nI 1) e) (i2l (wo K 1 a))) x) → y6 = l2i (tellF (nI 2) e ((cl.take c).foldl (tellF (nI 2) e) (i2l (wo K 2 a))) x) → tellF (nI 3) e (zb z) x = zb z' → KK (υ', y5, y6, bl z', nI c + 1) := by
            intro υ' y5 y6 z' ag' hu' f5 f6 f7
            refine ih (cl.length - (c + 1)) _ (by omega) ⟨c + 1, z', rfl, by omega, agu.trans ag', by rw [hu', hu], (nI_1 c), ?_, ?_, rfl, ?_⟩
            · rw [foldl_take hx]; exact f5
            · rw [foldl_take hx]; exact f6
            · rw [foldl_take hx, hz]; exact f7
          have hh1 : nI 1 = 1 := rfl
          have hh2 : nI 2 = 2 := rfl
          have hh3 : nI 3 = 3 := rfl
          unfold w_Text_headOf
          rw [show (4 : Int32) = nI 4 from rfl, e6, nI_clamp (by omega), th, gk]
          refine ⟨vp_in_nI (by omega) (by omega), ?_⟩
          refine s_valueOf (6 * c + 2) p2 p3 (by rw [show (2 : Int32) = nI 2 from rfl, e6]) (by omega) (by omega) (by rw [th]; exact g2) (by rw [th]; exact g3) s2 (vc υ p2 p3 rfl l3m) ?_
          intro r22 υ1 ag1 hv0 hv1
          have agx1 : AgX xq xl υ υ1 := ag1.x rfl
          have no : ¬ x.2.2.2.2 e = some true → KK (υ1, x5, x6, x7, nI c + 1) := by
            intro hno
            rw [h7]
            have tf : ∀ h t', tellF h e t' x = t' := by intro h t'; unfold tellF; rw [if_neg (fun w => hno w.2)]
            exact nx υ1 x5 x6 z agx1 ag1.1 (by rw [tf]; exact h5) (by rw [tf]; exact h6) (tf _ _)
          have r1 : (lg_cmp r22 1 = 0) ↔ x.2.2.2.2 e = some true := by
            rw [lgc_eq]
            cases hq : x.2.2.2.2 e with
            | none =>
              have := hv0 (by unfold tD; rw [hq]; rfl)
              rw [this]; simp
            | some y =>
              have := hv1 (if y then 1 else 0) (by unfold tD; rw [hq]; rfl)
              rw [this]; cases y <;> simp <;> decide
          have j241 : ∀ (υ2 : DD) (t0 : Int64), AgX xq xl υ υ2 → υ2.1 = υ.1 → x.2.2.2.2 e = some true → (x.1 = 3 → t0 = 1) → (x.2.1 e = none → t0 = -4000000000) → (∀ s, x.2.1 e = some s → t0 = s) → w_Court_answerOf_j241 T (fun σ a5 a6 a7 a9 => KK (σ, a5, a6, a7, a9)) post υ2 (nI (cx a r (d % 7))) x5 x6 x7 t (nI c) (kX x.1) r22 t0 := by
            intro υ2 t0 ag2 hu2 htt h31 hn0 hs0
            unfold w_Court_answerOf_j241
            refine ⟨fun w => absurd (r1.2 htt) w, fun _ => ⟨fun w v5 e5 => ?_, fun w => ?_⟩⟩
            · cases hsum : x.2.1 e with
              | none => exact absurd (lgc_eq.2 (hn0 hsum)) w
              | some s =>
                have := hs0 s hsum
                subst this
                rw [jl_clamp] at e5
                have tfE : ∀ h, x.1 = h → ∀ t', tellF h e t' x = clampL t0 := by
                  intro h hh t'; unfold tellF; rw [if_pos ⟨hh, htt⟩, hsum]
                have tfN : ∀ h, ¬ x.1 = h → ∀ t', tellF h e t' x = t' := by
                  intro h hh t'; unfold tellF; rw [if_neg (fun w => hh w.1)]
                unfold w_Court_answerOf_j289 w_Court_answerOf_j304 w_Court_answerOf_j318
                rw [e5, h7, hk.1, hk.2.1, hk.2.2]
                have d12 : x.1 = 1 → ¬ x.1 = 2 := fun h => by rw [h]; decide
                have d13 : x.1 = 1 → ¬ x.1 = 3 := fun h => by rw [h]; decide
                have d23 : x.1 = 2 → ¬ x.1 = 3 := fun h => by rw [h]; decide
                have fin := fun y5 y6 z' => nx υ2 y5 y6 z' ag2 hu2
                refine ⟨fun w1 => ⟨fun w2 => ⟨fun w3 => ?_, fun w3 => ?_⟩, fun w2 => ⟨fun w3 => ?_, fun w3 => ?_⟩⟩, fun w1 => ⟨fun w2 => ⟨fun w3 => ?_, fun w3 => ?_⟩, fun w2 => ⟨fun w3 => ?_, fun w3 => ?_⟩⟩⟩
                · rcases c3.1 with w | w | w
                  · exact absurd w w1
                  · exact absurd w w2
                  · exact absurd w w3
                · have t1 := h31 w3
                  refine fin x5 x6 true (by rw [tfN (nI 1) w1]; exact h5) (by rw [tfN (nI 2) w2]; exact h6) ?_
                  rw [tfE (nI 3) w3, t1]; rfl
                · exact fin x5 _ z (by rw [tfN (nI 1) w1]; exact h5) (by rw [tfE (nI 2) w2]) (by rw [tfN (nI 3) w3])
                · exact absurd w3 (d23 w2)
                · exact fin _ x6 z (by rw [tfE (nI 1) w1]) (by rw [tfN (nI 2) w2]; exact h6) (by rw [tfN (nI 3) w3])
                · exact absurd w3 (d13 w1)
                · exact absurd w2 (d12 w1)
                · exact absurd w2 (d12 w1)
            · cases hsum : x.2.1 e with
              | none =>
                rw [h7]
                have tf : ∀ h t', tellF h e t' x = t' := by intro h t'; unfold tellF; rw [hsum]; simp
                exact nx υ2 x5 x6 z ag2 hu2 (by rw [tf]; exact h5) (by rw [tf]; exact h6) (tf _ _)
              | some s =>
                exfalso
                have hb := cok.1 e hBd s hsum
                have := hs0 s hsum
                rw [lgc_eq, this] at w
                rw [w] at hb
                exact absurd hb.1 (by decide)
          unfold w_Court_answerOf_j239
          refine ⟨fun w => ?_, fun w => ⟨fun w2 => ?_, fun w2 => ?_⟩⟩
          · unfold w_Court_answerOf_j241
            refine ⟨fun _ => no (fun h => w (r1.2 h)), fun w' => absurd w' w⟩
          · have w3 := hk.2.2.1 w2
            have hd1 := c3.2.1 w3
            have hr22 := lgc_eq.1 w
            rw [hr22]
            have := j241 υ1 1 agx1 ag1.1 (r1.1 w) (fun _ => rfl) (by rw [hd1]; simp [d1]) (by intro s hs; rw [hd1] at hs; simp [d1] at hs; exact hs)
            rw [hr22] at this
            exact this
          · refine s_valueOf (6 * c) p0 p1 (by rw [show (0 : Int32) = nI 0 from rfl, e6]; rfl) (by omega) (by omega) ?_ ?_ s0 (vc υ1 p0 p1 ag1.1 (by omega)) ?_
            · have gu1 : gI υ1 (t + 4) (6 * c) = gI υ (t + 4) (6 * c) := ag1.i _ _
              rw [gu1, th]; exact g0
            · have gu1 : gI υ1 (t + 4) (6 * c + 1) = gI υ (t + 4) (6 * c + 1) := ag1.i _ _
              rw [gu1, th]; exact g1
            · intro r26 υ2 ag2 hs0 hs1
              exact j241 υ2 r26 (agx1.trans (ag2.x rfl)) (ag2.1.trans ag1.1) (r1.1 w) (fun h => absurd (hk.2.2.2 h) w2) hs0 hs1
      · exact (l2i_i2l _).symm
      · exact (l2i_i2l _).symm
end AN
