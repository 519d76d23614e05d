/-! ===== years by draws ===== -/
def nxS (s : Nat) : Nat := (1103 * s + 12345) % 1000003
abbrev YS : Type := Nat × List RD × (Nat → Nat) × (Nat → Nat)
def yRd (K : Nat → Int32) (day s : Nat) (L : List RD) : Bool := can K L (nxS (nxS s) % nA K) (nxS (nxS (nxS s)) % nR K) day && !(decide (nxS s % 10 < ranN K) && decide (dryN K < takN K (nxS (nxS s) % nA K) (nxS (nxS (nxS s)) % nR K) (day % 7)))
def yL (K : Nat → Int32) (day s : Nat) (L : List RD) : List RD := if yRd K day s L then L ++ [(nxS (nxS s) % nA K, nxS (nxS (nxS s)) % nR K, day)] else L
def yStep (K : Nat → Int32) (day : Nat) (y : YS) : YS := (nxS (nxS (nxS y.1)), yL K day y.1 y.2.1, (if yRd K day y.1 y.2.1 then upU y.2.2.1 (nxS (nxS y.1) % nA K) (y.2.2.1 (nxS (nxS y.1) % nA K) + 1) else y.2.2.1), fun o => y.2.2.2 o + (if hold K (yL K day y.1 y.2.1) o day then 1 else 0))
def yI (K : Nat → Int32) (L : List RD) (d0 s0 : Nat) : Nat → YS
  | 0 => (s0, L, fun _ => 0, fun _ => 0)
  | i + 1 => yStep K (d0 + i) (yI K L d0 s0 i)
section YE
variable {σ τ : DD} {T : TXT} {K : Nat → Int32} {L : List RD}
theorem nxS_lt (s : Nat) : nxS s < 1000003 := Nat.mod_lt _ (by decide)
/-- what the years keep -/
theorem yI_ok (hA : 0 < nA K) (hR : 0 < nR K) (hL : LI K L) (hS : Srt L) {d0 s0 : Nat} (hd : d0 ≤ 999) (hLd : ∀ x, x ∈ L → x.2.2 ≤ d0) (hs : s0 ≤ 1000000) : ∀ i, d0 + i ≤ 1000 → (yI K L d0 s0 i).1 < 1000003 ∧ LI K (yI K L d0 s0 i).2.1 ∧ Srt (yI K L d0 s0 i).2.1 ∧ (∀ x, x ∈ (yI K L d0 s0 i).2.1 → x.2.2 ≤ d0 + i) ∧ (∃ P, (yI K L d0 s0 i).2.1 = L ++ P ∧ P.length ≤ i) := by
  intro i
  induction i with
  | zero => intro _; exact ⟨by show s0 < _; omega, hL, hS, hLd, [], by simp [yI], by simp⟩
  | succ i ih =>
    intro hi
    obtain ⟨h1, h2, h3, h4, P, h5, h6⟩ := ih (by omega)
    refine ⟨nxS_lt _, ?_, ?_, ?_, ?_⟩
    · show LI K (yL K (d0 + i) _ _)
      unfold yL
      split
      · intro x hx
        rcases List.mem_append.1 hx with w | w
        · exact h2 x w
        · simp at w; subst w; exact ⟨Nat.mod_lt _ hA, Nat.mod_lt _ hR, by simp only []; omega⟩
      · exact h2
    · show Srt (yL K (d0 + i) _ _)
      unfold yL
      split
      · unfold Srt
        rw [List.pairwise_append]
        refine ⟨h3, by simp, ?_⟩
        intro x hx y hy
        simp at hy; subst hy
        exact h4 x hx
      · exact h3
    · show ∀ x, x ∈ yL K (d0 + i) _ _ → _
      unfold yL
      split
      · intro x hx
        rcases List.mem_append.1 hx with w | w
        · have := h4 x w; omega
        · simp at w; subst w; simp only []; omega
      · intro x hx; have := h4 x hx; omega
    · show ∃ P, yL K (d0 + i) _ _ = _ ∧ _
      unfold yL
      split
      · rw [h5, List.append_assoc]; exact ⟨_, rfl, by simp; omega⟩
      · exact ⟨P, h5, by omega⟩
theorem draw_l {s : Nat} (hs : s < 1000003) : l2i (jlrem ((1103 * (i2l (nI s))) + 12345) 1000003) = nI (nxS s) := by
  have e : i2l (nI s) = lN s := nI_l (by omega)
  unfold jlrem
  rw [e, show (1103 : Int64) = lN 1103 from rfl, show (12345 : Int64) = lN 12345 from rfl, show (1000003 : Int64) = lN 1000003 from rfl, lN_mul, lN_add, pk_lRem (by omega) (by decide) (by decide)]
  exact lN_i _
theorem draw_i {s : Nat} (hs : s < 1000003) : jrem ((nI s * 1103) + 12345) 1000003 = nI (nxS s) := by
  unfold jrem
  rw [show (1103 : Int32) = nI 1103 from rfl, show (12345 : Int32) = nI 12345 from rfl, show (1000003 : Int32) = nI 1000003 from rfl, pk_mul, nI_add, pk_rem (by omega) (by decide) (by decide), Nat.mul_comm]
  rfl
theorem jrem_n {a b : Nat} (ha : a < 2 ^ 31) (hb : 0 < b) (hb2 : b < 2 ^ 31) : jrem (nI a) (nI b) = nI (a % b) := by
  unfold jrem; exact pk_rem ha hb hb2
theorem s_draws {s m : Nat} {post : Int32 → DD → Prop} (h56 : gI σ 0 56 = nI s) (hs : s < 1000003) (hm : 0 < m) (hm2 : m < 2 ^ 31) (k : ∀ σ1, σ1 = sI σ 0 56 (nI (nxS s)) → post (nI (nxS s % m)) σ1) : w_M_draws σ (nI m) post := by
  have n1 := nxS_lt s
  unfold w_M_draws
  intro σ1 e1
  rw [h56, draw_l hs] at e1
  have f1 : gI σ1 0 56 = nI (nxS s) := by subst e1; exact gI_same
  rw [f1, jrem_n (by omega) hm hm2]
  exact ⟨nI_ne0 hm hm2, k σ1 e1⟩
theorem MS.cut {P : List RD} (hS : MS σ K (L ++ P)) {v : Int32} (hv : v = nI L.length) : MS (sI σ 4 401 v) K L := by
  obtain ⟨hQ, hI, hM, hL⟩ := hS
  have ag : Ag lgP σ (sI σ 4 401 v) := Ag.put ⟨rfl, by omega⟩
  have h84 := hM.2.1
  rw [List.length_append] at h84
  refine ⟨⟨hQ.1.lg ag (fun p => dyn_lg), hQ.2.ag ag (by unfold lgP; omega) (by unfold lgP; omega) (by unfold lgP; omega)⟩, hI, ⟨?_, by omega, ?_⟩, fun y hy => hL y (List.mem_append_left _ hy)⟩
  · rw [gI_same, hv]
  · intro i y hy
    have hi : i < L.length := by rw [List.getElem?_eq_some_iff] at hy; exact hy.1
    rw [gI_sI, if_neg (by omega), gI_sI, if_neg (by omega), gI_sI, if_neg (by omega)]
    exact hM.2.2 i y (by rw [List.getElem?_append_left hi]; exact hy)
theorem MS.day {v : Int32} (hS : MS σ K L) : MS (sI σ 4 395 v) K L := by
  obtain ⟨hQ, hI, hM, hL⟩ := hS
  have ag : Ag (fun o p => o = 4 ∧ p = 395) σ (sI σ 4 395 v) := Ag.put ⟨rfl, rfl⟩
  refine ⟨⟨hQ.1.lg ag (by intro p hp h; unfold dyn at hp; omega), hQ.2.ag ag (by omega) (by omega) (by omega)⟩, hI, ⟨?_, hM.2.1, ?_⟩, hL⟩
  · rw [gI_sI, if_neg (by omega)]; exact hM.1
  · intro i y hy
    have hi : i < L.length := by rw [List.getElem?_eq_some_iff] at hy; exact hy.1
    have := hM.2.1
    rw [gI_sI, if_neg (by omega), gI_sI, if_neg (by omega), gI_sI, if_neg (by omega)]
    exact hM.2.2 i y hy
def yP (o p : Nat) : Prop := qP o p ∨ lgP o p ∨ o = 54 ∨ o = 55 ∨ (o = 0 ∧ (p = 55 ∨ p = 56)) ∨ (o = 4 ∧ p = 395)
theorem yP_q (a : Ag qP σ τ) : Ag yP σ τ := a.mono (fun o p h => Or.inl h)
theorem yP_l (a : Ag lgP σ τ) : Ag yP σ τ := a.mono (fun o p h => Or.inr (Or.inl h))
theorem yP_54 (a : Ag (fun o _ => o = 54) σ τ) : Ag yP σ τ := a.mono (fun o p h => by unfold yP; omega)
def yT (n d0 : Nat) : Nat := min n (1000 - d0)
/-- the model's years, from the cleared rows on -/
theorem s_years129 {n d0 s0 : Nat} {post : Int32 → DD → Prop} (hI : KI K) (hA : 0 < nA K) (hR : 0 < nR K) (hL : LI K L) (hSrt : Srt L) (hd : d0 ≤ 999) (hLd : ∀ x, x ∈ L → x.2.2 ≤ d0) (hs : s0 ≤ 1000000) (hn1 : 1 ≤ n) (hn : n ≤ 60) (hL24 : L.length ≤ 24) (hS : MS σ K L) (hday : gI σ 4 395 = nI d0) (h55 : gI σ 0 55 = nI (nA K)) (h56 : gI σ 0 56 = nI s0) (hdr : ∀ a, a < 8 → gI σ 54 a = 0 ∧ gI σ 55 a = 0) (k : ∀ τ, Ag yP σ τ → MS τ K L → gI τ 4 395 = nI d0 → gI τ 0 55 = nI (nA K) → (∀ a, a < nA K → gI τ 54 a = nI ((yI K L d0 s0 (yT n d0)).2.2.1 a) ∧ gI τ 55 a = nI ((yI K L d0 s0 (yT n d0)).2.2.2 a)) → w_M_good τ (nI ((yI K L d0 s0 (yT n d0)).2.1.length - L.length)) post) : w_M_years_l129 post σ (nI n) (nI L.length) (nI d0) 1 0 := by
  have ha8 := hI.a
  have hr4 := hI.r
  have hdr' := rng_n hI.tm.2.1 (show 60 < 2 ^ 31 by decide)
  have hrn := rng_n hI.tm.1 (show 10 < 2 ^ 31 by decide)
  have hok := yI_ok (K := K) (d0 := d0) (s0 := s0) hA hR hL hSrt hd hLd hs
  unfold w_M_years_l129
  refine LoopN (fun c y => ∃ i, c = n + 1 - i ∧ i ≤ yT n d0 ∧ Ag yP σ y.1 ∧ MS y.1 K (yI K L d0 s0 i).2.1 ∧ gI y.1 0 55 = nI (nA K) ∧ gI y.1 0 56 = nI (yI K L d0 s0 i).1 ∧ (∀ a, a < nA K → gI y.1 54 a = nI ((yI K L d0 s0 i).2.2.1 a) ∧ gI y.1 55 a = nI ((yI K L d0 s0 i).2.2.2 a)) ∧ y.2.2 = nI i ∧ ((y.2.1 = 1 ∧ gI y.1 4 395 = nI (d0 + i) ∧ d0 + i ≤ 999) ∨ (y.2.1 = 0 ∧ i = yT n d0))) ?_ (n := n + 1) ⟨0, rfl, Nat.zero_le _, Ag.refl σ, hS, h55, h56, fun a ha => hdr a (by omega), rfl, Or.inl ⟨rfl, hday, hd⟩⟩
  rintro c ⟨υ, a5, a6⟩ KK ⟨i, hc, hi, ag, hSu, g55, g56, grow, e6, hgo⟩ ih
  simp only [] at ag hSu g55 g56 grow e6 hgo ⊢
  subst e6
  have hi' : i ≤ n ∧ i ≤ 1000 - d0 := by unfold yT at hi; omega
  obtain ⟨o1, o2, o3, o4, P, o5, o6⟩ := hok i (by omega)
  have j359 : i = yT n d0 → w_M_years_j359 post υ (nI L.length) (nI d0) := by
    intro hit
    unfold w_M_years_j359
    intro v33 e33 σ35 e35 σ37 e37
    have hlen : (yI K L d0 s0 i).2.1.length = L.length + P.length := by rw [o5, List.length_append]
    rw [hSu.2.2.1.1, pk_sub (by omega)] at e33
    rw [o5] at hSu
    subst e33
    have hS37 : MS σ37 K L := by subst e35; subst e37; exact (hSu.cut rfl).day
    rw [hit] at grow ⊢
    refine k σ37 ?_ hS37 ?_ ?_ ?_
    · subst e35; subst e37; exact (ag.set (Or.inr (Or.inl ⟨rfl, by omega⟩))).set (by unfold yP; omega)
    · subst e37; exact gI_same
    · subst e35; subst e37; rw [gI_sI, if_neg (by omega), gI_sI, if_neg (by omega)]; exact g55
    · intro a ha
      subst e35; subst e37
      rw [gI_sI, if_neg (by omega), gI_sI, if_neg (by omega), gI_sI, if_neg (by omega), gI_sI, if_neg (by omega)]
      exact grow a ha
  unfold w_M_years_b129
  rw [nI_leI (by omega) (by omega)]
  refine ⟨fun z => j359 (by unfold yT; omega), fun z => ⟨fun z2 => ?_, fun z2 => ?_⟩⟩
  · rcases hgo with ⟨w, -⟩ | ⟨-, w⟩
    · rw [w] at z2; exact absurd z2 (by decide)
    · exact j359 w
  · obtain ⟨-, gday, hdi⟩ : a5 = 1 ∧ gI υ 4 395 = nI (d0 + i) ∧ d0 + i ≤ 999 := by
      rcases hgo with w | ⟨w, -⟩
      · exact w
      · exact absurd w z2
    generalize hY : yI K L d0 s0 i = Y at hSu g56 grow o1 o2 o3 o4 o5
    obtain ⟨s, M, dr, dh⟩ := Y
    simp only [] at hSu g56 grow o1 o2 o3 o4 o5
    have hnext : yI K L d0 s0 (i + 1) = yStep K (d0 + i) (s, M, dr, dh) := by rw [yI, hY]
    have n1 := nxS_lt s
    have n2 := nxS_lt (nxS s)
    have n3 := nxS_lt (nxS (nxS s))
    have hML : M.length < 84 := by rw [o5, List.length_append]; omega
    have keep56 : ∀ {υ1 : DD} (v : Int32), MS υ1 K M → MS (sI υ1 0 56 v) K M := fun v h => h.ag (P := fun o p => o = 0 ∧ p = 56) (Ag.put ⟨rfl, rfl⟩) (by omega) (by omega) (by omega) (by omega)
    rw [show (10 : Int32) = nI 10 from rfl]
    refine s_draws g56 o1 (by decide) (by decide) ?_
    intro σ1 e1
    have f1 : gI σ1 0 56 = nI (nxS s) := by subst e1; exact gI_same
    have hS1 : MS σ1 K M := by subst e1; exact keep56 _ hSu
    have ag1 : Ag yP υ σ1 := by subst e1; exact Ag.put (by unfold yP; omega)
    -- after the reading: who holds
    have j266 : ∀ (υ2 : DD), Ag yP υ υ2 → MS υ2 K (yL K (d0 + i) s M) → gI υ2 4 395 = nI (d0 + i) → gI υ2 0 55 = nI (nA K) → gI υ2 0 56 = nI (nxS (nxS (nxS s))) → (∀ a, a < nA K → gI υ2 54 a = nI ((yStep K (d0 + i) (s, M, dr, dh)).2.2.1 a) ∧ gI υ2 55 a = nI (dh a)) → w_M_years_j266 (fun σ a5 a6 => KK (σ, a5, a6)) post υ2 (nI n) (nI L.length) (nI d0) (nI i) := by
      intro υ2 ag2 hS2 q395 q55 q56 qrow
      unfold w_M_years_j266
      rw [q395]
      refine s_heldOn hS2 (by omega) ?_
      intro υ3 ag3 hS3
      have agA : Ag yP υ υ3 := ag2.trans (yP_q ag3)
      unfold w_M_years_l283
      refine LoopN (fun c y => ∃ o, c = nA K - o ∧ o ≤ nA K ∧ Ag yP υ y.1 ∧ MS y.1 K (yL K (d0 + i) s M) ∧ gI y.1 4 395 = nI (d0 + i) ∧ gI y.1 0 55 = nI (nA K) ∧ gI y.1 0 56 = nI (nxS (nxS (nxS s))) ∧ (∀ a, a < nA K → gI y.1 54 a = nI ((yStep K (d0 + i) (s, M, dr, dh)).2.2.1 a)) ∧ y.2 = nI o ∧ (∀ a, a < o → gI y.1 55 a = nI ((yStep K (d0 + i) (s, M, dr, dh)).2.2.2 a)) ∧ ∀ a, o ≤ a → a < nA K → gI y.1 55 a = nI (dh a)) ?_ (n := nA K) ⟨0, rfl, Nat.zero_le _, agA, hS3, ?_, ?_, ?_, ?_, rfl, by omega, ?_⟩
      · rintro c ⟨υ4, a11⟩ KK2 ⟨o, hco, ho, ag4, hS4, r395, r55, r56, r54, e11, hlo, hhi⟩ ih2
        simp only [] at ag4 hS4 r395 r55 r56 r54 e11 hlo hhi ⊢
        subst e11
        unfold w_M_years_b283
        rw [r55, nI_leI (by omega) (by omega), r395, show (999 : Int32) = nI 999 from rfl, nI_leI (by decide) (by omega)]
        refine ⟨fun w => ?_, fun w => ?_⟩
        · have hoe : o = nA K := by omega
          subst hoe
          unfold w_M_years_j334
          have go : ∀ (υ5 : DD) (t0 : Int32), Ag yP υ4 υ5 → MS υ5 K (yL K (d0 + i) s M) → (∀ o p, ¬ (o = 4 ∧ p = 395) → gI υ5 o p = gI υ4 o p) → ((t0 = 1 ∧ gI υ5 4 395 = nI (d0 + (i + 1)) ∧ d0 + (i + 1) ≤ 999) ∨ (t0 = 0 ∧ i + 1 = yT n d0)) → KK (υ5, t0, nI i + 1) := by
            intro υ5 t0 ag5 hS5 same hgo5
            rw [nI_1]
            refine ih (n + 1 - (i + 1)) _ (by omega) ⟨i + 1, rfl, by unfold yT; omega, ag.trans (ag4.trans ag5), ?_, ?_, ?_, ?_, rfl, hgo5⟩
            · rw [hnext]; exact hS5
            · simp only []; rw [same 0 55 (by omega)]; exact r55
            · simp only []; rw [same 0 56 (by omega), hnext]; exact r56
            · intro a ha
              simp only []
              rw [same 54 a (by omega), same 55 a (by omega), hnext]
              exact ⟨r54 a ha, hlo a ha⟩
          refine ⟨fun w2 => ⟨fun _ => go υ4 0 (Ag.refl _) hS4 (fun _ _ _ => rfl) (Or.inr ⟨rfl, by unfold yT; omega⟩), fun w3 => absurd rfl w3⟩, fun w2 => ⟨fun w3 => absurd w3 (by decide), fun _ σ6 e6 => ?_⟩⟩
          rw [r395, nI_1] at e6
          refine go σ6 1 ?_ ?_ ?_ (Or.inl ⟨rfl, ?_, by omega⟩)
          · subst e6; exact Ag.put (by unfold yP; omega)
          · subst e6; exact hS4.day
          · intro o p h; subst e6; rw [gI_sI, if_neg h]
          · subst e6; exact gI_same
        · have hin : vp_in (nI o) 8 := vp_in_nI (by omega) (by decide)
          rw [nI_clamp (by omega), hhi o (Nat.le_refl _) (by omega)]
          unfold held
          rw [bits_bit _ (by omega) (by omega), decide_eq_true (show o < nA K by omega), Bool.true_and]
          refine ⟨hin, hin, fun σ11 e11 => ?_⟩
          rw [nI_1]
          have ag11 : Ag (fun o p => o = 55) υ4 σ11 := by subst e11; exact Ag.put rfl
          have s11 : ∀ o p, ¬ o = 55 → gI σ11 o p = gI υ4 o p := fun o p h => ag11.at o p h
          refine ih2 (nA K - (o + 1)) _ (by omega) ⟨o + 1, rfl, by omega, ag4.trans (ag11.mono (by intro o p h; unfold yP; omega)), hS4.ag ag11 (by omega) (by omega) (by omega) (by omega), ?_, ?_, ?_, ?_, rfl, ?_, ?_⟩
          · simp only []; rw [s11 4 395 (by omega)]; exact r395
          · simp only []; rw [s11 0 55 (by omega)]; exact r55
          · simp only []; rw [s11 0 56 (by omega)]; exact r56
          · intro a ha; simp only []; rw [s11 54 a (by omega)]; exact r54 a ha
          · intro a ha
            subst e11
            simp only []
            rw [gI_sI]
            by_cases hao : a = o
            · subst hao
              rw [if_pos ⟨rfl, rfl⟩]
              show nI (dh a) + bl (hold K (yL K (d0 + i) s M) a (d0 + i)) = nI (dh a + (if hold K (yL K (d0 + i) s M) a (d0 + i) then 1 else 0))
              cases hold K (yL K (d0 + i) s M) a (d0 + i) with
              | false => show nI (dh a) + nI 0 = _; rw [nI_add]; rfl
              | true => show nI (dh a) + nI 1 = _; rw [nI_add]; rfl
            · rw [if_neg (fun x => hao x.2)]; exact hlo a (by omega)
          · intro a h1 h2
            subst e11
            simp only []
            rw [gI_sI, if_neg (by omega)]; exact hhi a (by omega) h2
      · simp only []; rw [ag3.at 4 395 (by unfold qP; omega)]; exact q395
      · simp only []; rw [ag3.at 0 55 (by unfold qP; omega)]; exact q55
      · simp only []; rw [ag3.at 0 56 (by unfold qP; omega)]; exact q56
      · intro a ha; simp only []; rw [ag3.at 54 a (by unfold qP; omega)]; exact (qrow a ha).1
      · intro a _ ha; simp only []; rw [ag3.at 55 a (by unfold qP; omega)]; exact (qrow a ha).2
    have j162 : ∀ b : Bool, b = decide (nxS s % 10 < ranN K) → w_M_years_j162 (fun σ a5 a6 => KK (σ, a5, a6)) post σ1 (nI n) (nI L.length) (nI d0) (nI i) (bl b) := by
      intro b hb
      have p55 : gI σ1 0 55 = nI (nA K) := by subst e1; rw [gI_sI, if_neg (by omega)]; exact g55
      unfold w_M_years_j162
      rw [p55]
      refine s_draws f1 n1 hA (by omega) ?_
      intro σ2 e2
      have f2 : gI σ2 0 56 = nI (nxS (nxS s)) := by subst e2; exact gI_same
      have hS2 : MS σ2 K M := by subst e2; exact keep56 _ hS1
      rw [hS2.1.1 400 (by unfold dyn; omega), hr4.1]
      refine s_draws f2 n2 hR (by omega) ?_
      intro σ3 e3
      have f3 : gI σ3 0 56 = nI (nxS (nxS (nxS s))) := by subst e3; exact gI_same
      have hS3 : MS σ3 K M := by subst e3; exact keep56 _ hS2
      have ag3 : Ag yP υ σ3 := by
        subst e2; subst e3
        exact ag1.trans ((Ag.put (by unfold yP; omega)).set (by unfold yP; omega))
      have s3 : ∀ o p, ¬ (o = 0 ∧ p = 56) → gI σ3 o p = gI υ o p := by
        intro o p h
        subst e1; subst e2; subst e3
        rw [gI_sI, if_neg h, gI_sI, if_neg h, gI_sI, if_neg h]
      rw [s3 4 395 (by omega), gday]
      generalize ha : nxS (nxS s) % nA K = a at *
      generalize hr : nxS (nxS (nxS s)) % nR K = r at *
      have haA : a < nA K := by rw [← ha]; exact Nat.mod_lt _ hA
      have hrR : r < nR K := by rw [← hr]; exact Nat.mod_lt _ hR
      refine s_canRead hS3 haA hrR (by omega) ?_
      intro υ4 ag4 hS4
      have s4 : ∀ o p, ¬ qP o p → ¬ (o = 0 ∧ p = 56) → gI υ4 o p = gI υ o p := fun o p h1 h2 => by rw [ag4.at o p h1]; exact s3 o p h2
      have d4 : gI υ4 4 395 = nI (d0 + i) := by rw [s4 4 395 (by unfold qP; omega) (by omega)]; exact gday
      have q56 : ∀ υ', Ag qP υ4 υ' → gI υ' 0 56 = nI (nxS (nxS (nxS s))) := fun υ' a' => by rw [a'.at 0 56 (by unfold qP; omega), ag4.at 0 56 (by unfold qP; omega)]; exact f3
      have yq : ∀ {υ1 υ2 : DD}, Ag qP υ1 υ2 → Ag yP υ1 υ2 := fun a => a.mono (fun o p h => Or.inl h)
      have eRd : yRd K (d0 + i) s M = (can K M a r (d0 + i) && !(b && decide (dryN K < takN K a r ((d0 + i) % 7)))) := by
        unfold yRd; rw [ha, hr, ← hb]
      -- nothing is read
      have noR : ∀ υ', Ag qP υ4 υ' → MS υ' K M → yRd K (d0 + i) s M = false → w_M_years_j266 (fun σ a5 a6 => KK (σ, a5, a6)) post υ' (nI n) (nI L.length) (nI d0) (nI i) := by
        intro υ' a' hS' hf
        have sx : ∀ o p, ¬ qP o p → ¬ (o = 0 ∧ p = 56) → gI υ' o p = gI υ o p := fun o p h1 h2 => by rw [a'.at o p h1]; exact s4 o p h1 h2
        refine j266 υ' (ag3.trans ((yq ag4).trans (yq a'))) ?_ ?_ ?_ (q56 υ' a') ?_
        · unfold yL; rw [if_neg (by rw [hf]; simp)]; exact hS'
        · rw [sx 4 395 (by unfold qP; omega) (by omega)]; exact gday
        · rw [sx 0 55 (by unfold qP; omega) (by omega)]; exact g55
        · intro x hx
          rw [sx 54 x (by unfold qP; omega) (by omega), sx 55 x (by unfold qP; omega) (by omega)]
          refine ⟨?_, (grow x hx).2⟩
          show _ = nI ((if yRd K (d0 + i) s M then _ else dr) x)
          rw [if_neg (by rw [hf]; simp)]; exact (grow x hx).1
      -- it is
      have isR : ∀ υ', Ag qP υ4 υ' → MS υ' K M → yRd K (d0 + i) s M = true → w_M_years_j239 (fun σ a5 a6 => KK (σ, a5, a6)) post υ' (nI n) (nI L.length) (nI d0) (nI i) (nI a) (nI r) := by
        intro υ' a' hS' ht
        have sx : ∀ o p, ¬ qP o p → ¬ (o = 0 ∧ p = 56) → gI υ' o p = gI υ o p := fun o p h1 h2 => by rw [a'.at o p h1]; exact s4 o p h1 h2
        unfold w_M_years_j239
        rw [sx 4 395 (by unfold qP; omega) (by omega), gday]
        refine s_logs hS' haA hrR (by omega) hML ?_
        intro υ5 ag5 hS5
        have sl : ∀ o p, ¬ qP o p → ¬ (o = 0 ∧ p = 56) → ¬ lgP o p → gI υ5 o p = gI υ o p := fun o p h1 h2 h3 => by rw [ag5.at o p h3]; exact sx o p h1 h2
        rw [nI_clamp (by omega), sl 54 a (by unfold qP; omega) (by omega) (by unfold lgP; omega), (grow a haA).1]
        refine ⟨vp_in_nI (by omega) (by decide), vp_in_nI (by omega) (by decide), fun σ19 e19 => ?_⟩
        rw [nI_1] at e19
        have ag19 : Ag (fun o _ => o = 54) υ5 σ19 := by subst e19; exact Ag.put rfl
        have hS19 := hS5.ag ag19 (by omega) (by omega) (by omega) (by omega)
        refine j266 σ19 (ag3.trans ((yq ag4).trans ((yq a').trans ((yP_l ag5).trans (yP_54 ag19))))) ?_ ?_ ?_ ?_ ?_
        · unfold yL; rw [if_pos ht, ha, hr]; exact hS19
        · rw [ag19.at 4 395 (by omega), sl 4 395 (by unfold qP; omega) (by omega) (by unfold lgP; omega)]; exact gday
        · rw [ag19.at 0 55 (by omega), sl 0 55 (by unfold qP; omega) (by omega) (by unfold lgP; omega)]; exact g55
        · rw [ag19.at 0 56 (by omega), ag5.at 0 56 (by unfold lgP; omega)]; exact q56 υ' a'
        · intro x hx
          refine ⟨?_, ?_⟩
          · show _ = nI ((if yRd K (d0 + i) s M then upU dr (nxS (nxS s) % nA K) (dr (nxS (nxS s) % nA K) + 1) else dr) x)
            rw [if_pos ht, ha]
            subst e19
            rw [gI_sI]
            unfold upU
            by_cases hxa : x = a
            · rw [if_pos ⟨rfl, hxa⟩, if_pos hxa]
            · rw [if_neg (fun y => hxa y.2), if_neg hxa, sl 54 x (by unfold qP; omega) (by omega) (by unfold lgP; omega)]; exact (grow x hx).1
          · rw [ag19.at 55 x (by omega), sl 55 x (by unfold qP; omega) (by omega) (by unfold lgP; omega)]; exact (grow x hx).2
      refine br0 (fun hcan => noR υ4 (Ag.refl _) hS4 (by rw [eRd, hcan]; rfl)) (fun hcan => ?_)
      refine br0 (fun hbb => isR υ4 (Ag.refl _) hS4 (by rw [eRd, hcan, hbb]; rfl)) (fun hbb => ?_)
      rw [d4]
      refine s_takes hS4.1 hI haA hrR (by omega) ?_
      intro υ5 ag5 hQ5
      have hS5 := hS4.q ag5 hQ5
      have htk := (takN_e hI (r := r) (w := (d0 + i) % 7) haA).2
      rw [hS5.1.1 397 (by unfold dyn; omega), hdr'.1, nI_ltI (by omega) (by omega)]
      refine ⟨fun w => noR υ5 ag5 hS5 ?_, fun w => isR υ5 ag5 hS5 ?_⟩
      · rw [eRd, hcan, hbb, decide_eq_true (show dryN K < takN K a r ((d0 + i) % 7) from w)]; rfl
      · rw [eRd, hcan, hbb, decide_eq_false (show ¬ dryN K < takN K a r ((d0 + i) % 7) from w)]; rfl
    rw [hS1.1.1 396 (by unfold dyn; omega), hrn.1, nI_leI (by omega) (by omega)]
    refine ⟨fun w => ?_, fun w => ?_⟩
    · exact j162 false (decide_eq_false (show ¬ nxS s % 10 < ranN K by unfold ranN; omega)).symm
    · exact j162 true (decide_eq_true (show nxS s % 10 < ranN K by unfold ranN; omega)).symm
end YE
