section YX
variable {σ τ : DD} {T : TXT} {K : Nat → Int32} {L : List RD}
/-- where the log and the day stand, and what lies ahead of the realm -/
def logP (o k : Nat) : Prop := (o = 200 ∧ k = 8) ∨ (o = 208 ∧ k = 0) ∨ (209 ≤ o ∧ o ≤ 212) ∨ o < 200
theorem RXs.ag2 {P : Nat → Nat → Prop} {Q : Nat → Prop} (h : RXs σ 200 T K) (a : AgX P Q σ τ) (hp : ∀ o k, P o k → logP o k) : RXs τ 200 T K := by
  have n : ∀ o k, ¬ logP o k → gI τ o k = gI σ o k := fun o k q => a.i o k (fun w => q (hp o k w))
  have row : ∀ o, (213 ≤ o ∨ (201 ≤ o ∧ o ≤ 207)) → gI τ o = gI σ o := fun o ho => funext (fun k => n o k (by unfold logP; omega))
  obtain ⟨h1, h2, h3, h4, h5, h6, h7, h8, h9, h10, h11, h12⟩ := h
  refine ⟨?_, ?_, ?_, ?_, ?_, ?_, ?_, ?_, ?_, ?_, ?_, ?_⟩
  · rw [n 200 0 (by unfold logP; omega)]; exact h1
  · rw [n 200 3 (by unfold logP; omega)]; exact h2
  · rw [n 200 12 (by unfold logP; omega)]; exact h3
  · rw [n 200 17 (by unfold logP; omega)]; exact h4
  · rw [n 200 19 (by unfold logP; omega)]; exact h5
  · intro x j hx hj; rw [row (200 + 2) (by omega)]; exact h6 x j hx hj
  · intro x hx; rw [row (200 + 3) (by omega)]; exact h7 x hx
  · intro r hr; rw [row (200 + 5) (by omega), row (200 + 6) (by omega)]; exact h8 r hr
  · intro w hw; rw [row (200 + 7) (by omega)]; exact h9 w hw
  · rw [n (200 + 8) 1 (by unfold logP; omega), n (200 + 8) 2 (by unfold logP; omega), n (200 + 8) 3 (by unfold logP; omega)]; exact h10
  · intro i hi; rw [row (200 + 14) (by omega), row (200 + 15) (by omega), row (200 + 16) (by omega), row (200 + 17) (by omega)]; exact h11 i hi
  · intro f hf
    obtain ⟨t, ht, hr, hx⟩ := h12 f hf
    refine ⟨t, ht, by rw [a.r]; exact hr, hx.ag a ?_ ?_ ?_⟩
    · intro k w; have := hp _ _ w; unfold logP at this; omega
    · intro k w; have := hp _ _ w; unfold logP at this; omega
    · intro k w; have := hp _ _ w; unfold logP at this; omega
theorem XQ.ag2 {P : Nat → Nat → Prop} {Q : Nat → Prop} (h : XQ σ T K) (a : AgX P Q σ τ) (hp : ∀ o k, P o k → logP o k) (h5 : ¬ P 50 5) (h54 : ∀ k, ¬ P 54 k) (h55 : ∀ k, ¬ P 55 k) : XQ τ T K := by
  obtain ⟨hR, ⟨n, n1, n2, hn, hc⟩, hI⟩ := h
  refine ⟨hR.ag2 a hp, ⟨n, n1, n2, ?_, ?_⟩, hI⟩
  · rw [a.i 50 5 h5]; exact hn
  · intro x r w g1 g2 g3
    rw [a.i 54 _ (h54 _), a.i 55 _ (h55 _)]
    exact hc x r w g1 g2 g3
def wrP (o p : Nat) : Prop := (210 ≤ o ∧ o ≤ 212) ∨ (o = 200 ∧ p = 8)
theorem s_write {a r d : Nat} {post : DD → Prop} (hS : XS σ T K L) (ha : a < nA K) (hr : r < nR K) (hd : d < 2000) (hl : L.length < 84) (hLd : ∀ x, x ∈ L → x.2.2 ≤ d) (k : ∀ τ, AgX wrP (fun _ => False) σ τ → XS τ T K (L ++ [(a, r, d)]) → post τ) : w_Real_write T σ (nI a) (nI r) (nI d) post := by
  obtain ⟨hQ, hD, hL, hs⟩ := hS
  unfold w_Real_write
  rw [hD.len, show (84 : Int32) = nI 84 from rfl, nI_ltI (by omega) (by decide), nI_clamp (by omega)]
  have hin : vp_in (nI L.length) 84 := vp_in_nI hl (by decide)
  refine ⟨fun _ => ⟨hin, fun σ2 e2 => ?_⟩, fun z => absurd hl z⟩
  have q2 : gI σ2 200 8 = nI L.length := by subst e2; rw [gI_sI, if_neg (by omega)]; exact hD.len
  rw [q2, nI_clamp (by omega)]
  refine ⟨hin, fun σ5 e5 => ?_⟩
  have q5 : gI σ5 200 8 = nI L.length := by subst e5; rw [gI_sI, if_neg (by omega)]; exact q2
  rw [q5, nI_clamp (by omega)]
  refine ⟨hin, fun σ8 e8 σ11 e11 => ?_⟩
  have q8 : gI σ8 200 8 = nI L.length := by subst e8; rw [gI_sI, if_neg (by omega)]; exact q5
  rw [q8, nI_1] at e11
  have ag : AgX wrP (fun _ => False) σ σ11 := by
    subst e2; subst e5; subst e8; subst e11
    exact (((AgX.put (Or.inl (by omega))).set (Or.inl (by omega))).set (Or.inl (by omega))).set (Or.inr ⟨rfl, rfl⟩)
  refine k σ11 ag ⟨hQ.ag2 ag (by intro o k h; unfold wrP at h; unfold logP; omega) (by unfold wrP; omega) (by unfold wrP; omega) (by unfold wrP; omega), ⟨?_, ?_, ?_⟩, ?_, ?_⟩
  · subst e11; rw [gI_same, List.length_append]; rfl
  · rw [List.length_append]; simp; omega
  · intro i x hx
    have hget : (i < L.length ∧ L[i]? = some x) ∨ (i = L.length ∧ x = (a, r, d)) := by
      by_cases hi : i < L.length
      · left; rw [List.getElem?_append_left hi] at hx; exact ⟨hi, hx⟩
      · right
        rw [List.getElem?_append_right (by omega)] at hx
        have : i - L.length = 0 := by
          rw [List.getElem?_eq_some_iff] at hx
          have := hx.1
          simp at this; omega
        rw [this] at hx
        simp at hx
        exact ⟨by omega, hx.symm⟩
    subst e2; subst e5; subst e8; subst e11
    rcases hget with ⟨hi, hx2⟩ | ⟨hi, hx2⟩
    · have := hD.2.2 i x hx2
      refine ⟨?_, ?_, ?_⟩
      · rw [gI_sI, if_neg (by omega), gI_sI, if_neg (by omega), gI_sI, if_neg (by omega), gI_sI, if_neg (by omega)]; exact this.1
      · rw [gI_sI, if_neg (by omega), gI_sI, if_neg (by omega), gI_sI, if_neg (by omega), gI_sI, if_neg (by omega)]; exact this.2.1
      · rw [gI_sI, if_neg (by omega), gI_sI, if_neg (by omega), gI_sI, if_neg (by omega), gI_sI, if_neg (by omega)]; exact this.2.2
    · subst hi; subst hx2
      refine ⟨?_, ?_, ?_⟩
      · rw [gI_sI, if_neg (by omega), gI_sI, if_neg (by omega), gI_sI, if_neg (by omega), gI_sI, if_pos ⟨rfl, rfl⟩]
      · rw [gI_sI, if_neg (by omega), gI_sI, if_neg (by omega), gI_sI, if_pos ⟨rfl, rfl⟩]
      · rw [gI_sI, if_neg (by omega), gI_sI, if_pos ⟨rfl, rfl⟩]
  · intro x hx
    rcases List.mem_append.1 hx with w | w
    · exact hL x w
    · simp at w; subst w; exact ⟨ha, hr, hd⟩
  · unfold Srt
    rw [List.pairwise_append]
    refine ⟨hs, by simp, ?_⟩
    intro x hx y hy
    simp at hy; subst hy
    exact hLd x hx
theorem XS.cut {P : List RD} (hS : XS σ T K (L ++ P)) : XS (sI σ 200 8 (nI L.length)) T K L := by
  obtain ⟨hQ, hD, hL, hs⟩ := hS
  have ag : AgX wrP (fun _ => False) σ (sI σ 200 8 (nI L.length)) := AgX.put (Or.inr ⟨rfl, rfl⟩)
  have h84 := hD.2.1
  rw [List.length_append] at h84
  refine ⟨hQ.ag2 ag (by intro o k h; unfold wrP at h; unfold logP; omega) (by unfold wrP; omega) (by unfold wrP; omega) (by unfold wrP; omega), ⟨gI_same, by omega, ?_⟩, fun y hy => hL y (List.mem_append_left _ hy), ?_⟩
  · intro i y hy
    have hi : i < L.length := by rw [List.getElem?_eq_some_iff] at hy; exact hy.1
    rw [gI_sI, if_neg (by omega), gI_sI, if_neg (by omega), gI_sI, if_neg (by omega)]
    exact hD.2.2 i y (by rw [List.getElem?_append_left hi]; exact hy)
  · unfold Srt at hs ⊢
    rw [List.pairwise_append] at hs
    exact hs.1
theorem s_Xdraw {s m : Nat} {post : Int32 → DD → Prop} (h5 : gI σ 110 5 = nI s) (hs : s < 1000003) (hm : 0 < m) (hm2 : m < 2 ^ 31) (k : ∀ σ1, σ1 = sI σ 110 5 (nI (nxS s)) → post (nI (nxS s % m)) σ1) : w_Year_draw T σ (nI m) post := by
  have n1 := nxS_lt s
  unfold w_Year_draw
  intro σ1 e1
  rw [h5, draw_i hs] at e1
  have f1 : gI σ1 110 5 = nI (nxS s) := by subst e1; exact gI_same
  rw [f1, jrem_n (by omega) hm hm2]
  refine ⟨fun z => absurd z (nI_nle hm hm2), fun _ => ⟨nI_ne0 hm hm2, k σ1 e1⟩⟩
theorem s_fill {o n : Nat} {v : Int32} {post : DD → Prop} (hn : n < 2 ^ 31) (k : ∀ τ, AgX (fun x _ => x = o) (fun _ => False) σ τ → (∀ j, j < n → gI τ o j = v) → post τ) : w_J7_fill_53178 T o n σ v post := by
  unfold w_J7_fill_53178 w_J7_fill_53178_l5
  intro v5 e5
  subst e5
  refine LoopN (fun c y => ∃ i, c = n - i ∧ i ≤ n ∧ AgX (fun x _ => x = o) (fun _ => False) σ y.1 ∧ y.2 = nI i ∧ ∀ j, j < i → gI y.1 o j = v) ?_ (n := n) ⟨0, rfl, Nat.zero_le _, AgX.refl σ, rfl, by omega⟩
  rintro c ⟨υ, a2⟩ KK ⟨i, hc, hi, ag, e2, hz⟩ ih
  simp only [] at ag e2 hz ⊢
  subst e2
  unfold w_J7_fill_53178_b5
  rw [show Int32.ofNat n = nI n from rfl, nI_leI (by omega) (by omega)]
  refine ⟨fun z => ?_, fun z => ?_⟩
  · have : i = n := by omega
    subst this
    exact k υ ag hz
  · rw [nI_clamp (by omega), nI_1]
    refine ⟨vp_in_nI (by omega) (by omega), fun σ2 e2 => ?_⟩
    refine ih (n - (i + 1)) _ (by omega) ⟨i + 1, rfl, by omega, ?_, rfl, ?_⟩
    · subst e2; exact ag.set rfl
    · intro j hj
      subst e2
      simp only []
      rw [gI_sI]
      by_cases hji : j = i
      · rw [if_pos ⟨rfl, hji⟩]
      · rw [if_neg (fun x => hji x.2)]; exact hz j (by omega)
def ylP (o p : Nat) : Prop := xq o p ∨ wrP o p ∨ o = 114 ∨ o = 115 ∨ (o = 110 ∧ (p = 2 ∨ p = 5))
theorem ylQ {P : Nat → Nat → Prop} {Q : Nat → Prop} (a : AgX P Q σ τ) (h : ∀ o p, P o p → ylP o p) (hq : ∀ o, Q o → xl o) : AgX ylP xl σ τ := a.mono h hq
theorem s_live {n d0 s0 : Nat} {post : Int32 → DD → Prop} (hA : 0 < nA K) (hR : 0 < nR K) (hd : d0 ≤ 999) (hLd : ∀ x, x ∈ L → x.2.2 ≤ d0) (hs : s0 ≤ 1000000) (hn1 : 1 ≤ n) (hn : n ≤ 60) (hL24 : L.length ≤ 24) (hS : XS σ T K L) (hday : gI σ 208 0 = nI d0) (k : ∀ τ, AgX ylP xl σ τ → XS τ T K L → gI τ 110 2 = nI (nA K) → (∀ a, a < nA K → gI τ 114 a = nI ((yI K L d0 s0 (yT n d0)).2.2.1 a) ∧ gI τ 115 a = nI ((yI K L d0 s0 (yT n d0)).2.2.2 a)) → post (nI ((yI K L d0 s0 (yT n d0)).2.1.length - L.length)) τ) : w_Year_live T σ (nI s0) (nI n) post := by
  have hI := hS.1.2.2
  have ha8 := hI.a
  have hr4 := hI.r
  have hdr' := rng_n hI.tm.2.1 (show 60 < 2 ^ 31 by decide)
  have hrn := rng_n hI.tm.1 (show 10 < 2 ^ 31 by decide)
  have hok := yI_ok (K := K) (d0 := d0) (s0 := s0) hA hR hS.2.2.1 hS.2.2.2 hd hLd hs
  unfold w_Year_live
  intro v35 e35 v37 e37 σ39 e39 σ41 e41
  rw [hS.2.1.len] at e35
  rw [hday] at e37
  subst e35; subst e37
  have n41 : gI σ39 200 0 = nI (nA K) := by subst e39; rw [gI_sI, if_neg (by omega), hS.1.1.na]; exact ha8.1
  rw [n41] at e41
  have ag41 : AgX (fun o p => o = 110 ∧ (p = 2 ∨ p = 5)) (fun _ => False) σ σ41 := by
    subst e39; subst e41
    refine (AgX.put ?_).set ?_
    · exact ⟨rfl, Or.inr rfl⟩
    · exact ⟨rfl, Or.inl rfl⟩
  have g2 : gI σ41 110 2 = nI (nA K) := by subst e41; exact gI_same
  have g5 : gI σ41 110 5 = nI s0 := by subst e41; rw [gI_sI, if_neg (by omega)]; subst e39; exact gI_same
  refine s_fill (by decide) ?_
  intro υ1 ag1 z1
  refine s_fill (by decide) ?_
  intro υ2 ag2 z2
  have agA : AgX ylP xl σ υ2 := (ylQ ag41 (by intro o p h; unfold ylP; omega) (fun o h => h.elim)).trans ((ylQ ag1 (by intro o p h; unfold ylP; omega) (fun o h => h.elim)).trans (ylQ ag2 (by intro o p h; unfold ylP; omega) (fun o h => h.elim)))
  have hS2 : XS υ2 T K L := ((hS.ag ag41 (by omega) (by omega) (by omega) (by omega)).ag ag1 (by omega) (by omega) (by omega) (by omega)).ag ag2 (by omega) (by omega) (by omega) (by omega)
  have f2 : gI υ2 110 2 = nI (nA K) := by rw [ag2.i 110 2 (by omega), ag1.i 110 2 (by omega)]; exact g2
  have f5 : gI υ2 110 5 = nI s0 := by rw [ag2.i 110 5 (by omega), ag1.i 110 5 (by omega)]; exact g5
  unfold w_Year_live_l55
  refine LoopN (fun c y => ∃ i, c = n + 1 - i ∧ i ≤ yT n d0 ∧ AgX ylP xl σ y.1 ∧ XS y.1 T K (yI K L d0 s0 i).2.1 ∧ gI y.1 110 2 = nI (nA K) ∧ gI y.1 110 5 = nI (yI K L d0 s0 i).1 ∧ (∀ a, a < nA K → gI y.1 114 a = nI ((yI K L d0 s0 i).2.2.1 a) ∧ gI y.1 115 a = nI ((yI K L d0 s0 i).2.2.2 a)) ∧ y.2 = nI (d0 + i)) ?_ (n := n + 1) ⟨0, rfl, Nat.zero_le _, agA, hS2, f2, f5, ?_, rfl⟩
  rotate_left
  · intro a ha
    refine ⟨?_, ?_⟩
    · rw [ag2.i 114 a (by omega)]; exact z1 a (by omega)
    · exact z2 a (by omega)
  rintro c ⟨υ, a5⟩ KK ⟨i, hc, hi, ag, hSu, q2, q5, qrow, e5⟩ ih
  simp only [] at ag hSu q2 q5 qrow e5 ⊢
  subst e5
  have hi' : i ≤ n ∧ i ≤ 1000 - d0 := by unfold yT at hi; omega
  obtain ⟨o1, o2, o3, o4, P, o5, o6⟩ := hok i (by omega)
  have j257 : i = yT n d0 → w_Year_live_j257 T post υ (nI L.length) := by
    intro hit
    unfold w_Year_live_j257
    intro v26 e26 σ28 e28
    have hlen : (yI K L d0 s0 i).2.1.length = L.length + P.length := by rw [o5, List.length_append]
    rw [hSu.2.1.len, pk_sub (by omega)] at e26
    subst e26
    rw [hit] at qrow ⊢
    refine k σ28 ?_ ?_ ?_ ?_
    · subst e28; exact ag.set (Or.inr (Or.inl (Or.inr ⟨rfl, rfl⟩)))
    · subst e28; rw [o5] at hSu; exact hSu.cut
    · subst e28; rw [gI_sI, if_neg (by omega)]; exact q2
    · intro a ha; subst e28; rw [gI_sI, if_neg (by omega), gI_sI, if_neg (by omega)]; exact qrow a ha
  unfold w_Year_live_b55
  rw [nI_add, nI_leI (by omega) (by omega), show (999 : Int32) = nI 999 from rfl, nI_ltI (by decide) (by omega)]
  refine ⟨fun z => j257 (by unfold yT; omega), fun z => ⟨fun z2 => j257 (by unfold yT; omega), fun z2 => ?_⟩⟩
  generalize hY : yI K L d0 s0 i = Y at hSu q5 qrow o1 o2 o3 o4 o5
  obtain ⟨s, M, dr, dh⟩ := Y
  simp only [] at hSu q5 qrow o1 o2 o3 o4 o5
  have hnext : yI K L d0 s0 (i + 1) = yStep K (d0 + i) (s, M, dr, dh) := by rw [yI, hY]
  have n1 := nxS_lt s
  have n2 := nxS_lt (nxS s)
  have n3 := nxS_lt (nxS (nxS s))
  have hML : M.length < 84 := by rw [o5, List.length_append]; omega
  have kp : ∀ {υ1 : DD} (v : Int32), XS υ1 T K M → XS (sI υ1 110 5 v) T K M := fun v h => h.ag (P := fun o p => o = 110) (Q := fun _ => False) (AgX.put rfl) (by omega) (by omega) (by omega) (by omega)
  rw [show (10 : Int32) = nI 10 from rfl]
  refine s_Xdraw q5 o1 (by decide) (by decide) ?_
  intro σ1 e1
  have f1 : gI σ1 110 5 = nI (nxS s) := by subst e1; exact gI_same
  have hS1 : XS σ1 T K M := by subst e1; exact kp _ hSu
  have j205 : ∀ (υ2 : DD), AgX ylP xl υ υ2 → XS υ2 T K (yL K (d0 + i) s M) → gI υ2 110 2 = nI (nA K) → gI υ2 110 5 = nI (nxS (nxS (nxS s))) → (∀ a, a < nA K → gI υ2 114 a = nI ((yStep K (d0 + i) (s, M, dr, dh)).2.2.1 a) ∧ gI υ2 115 a = nI (dh a)) → w_Year_live_j205 T (fun σ a5 => KK (σ, a5)) post υ2 (nI n) (nI L.length) (nI d0) (nI (d0 + i)) := by
    intro υ2 ag2 hS2 p2 p5 prow
    unfold w_Year_live_j205
    refine s_heldBits hS2 (by omega) ?_
    intro υ3 ag3 hS3
    have agA : AgX ylP xl υ υ3 := ag2.trans (ylQ ag3 (fun o p h => Or.inl h) (fun o h => h))
    unfold w_Year_live_l219
    refine LoopN (fun c y => ∃ o, c = nA K - o ∧ o ≤ nA K ∧ AgX ylP xl υ y.1 ∧ XS y.1 T K (yL K (d0 + i) s M) ∧ gI y.1 110 2 = nI (nA K) ∧ gI y.1 110 5 = nI (nxS (nxS (nxS s))) ∧ (∀ a, a < nA K → gI y.1 114 a = nI ((yStep K (d0 + i) (s, M, dr, dh)).2.2.1 a)) ∧ y.2 = nI o ∧ (∀ a, a < o → gI y.1 115 a = nI ((yStep K (d0 + i) (s, M, dr, dh)).2.2.2 a)) ∧ ∀ a, o ≤ a → a < nA K → gI y.1 115 a = nI (dh a)) ?_ (n := nA K) ⟨0, rfl, Nat.zero_le _, agA, hS3, ?_, ?_, ?_, rfl, by omega, ?_⟩
    · rintro c ⟨υ4, a11⟩ KK2 ⟨o, hco, ho, ag4, hS4, r2, r5, r114, e11, hlo, hhi⟩ ih2
      simp only [] at ag4 hS4 r2 r5 r114 e11 hlo hhi ⊢
      subst e11
      unfold w_Year_live_b219
      rw [r2, nI_leI (by omega) (by omega)]
      refine ⟨fun w => ?_, fun w => ?_⟩
      · have hoe : o = nA K := by omega
        subst hoe
        rw [nI_1]
        refine ih (n + 1 - (i + 1)) _ (by omega) ⟨i + 1, rfl, by unfold yT; omega, ag.trans ag4, ?_, r2, ?_, ?_, rfl⟩
        · rw [hnext]; exact hS4
        · rw [hnext]; exact r5
        · intro a ha; rw [hnext]; exact ⟨r114 a ha, hlo a ha⟩
      · have hin : vp_in (nI o) 8 := vp_in_nI (by omega) (by decide)
        rw [nI_clamp (by omega), hhi o (Nat.le_refl _) (by omega)]
        unfold held
        rw [bits_bit _ (by omega) (by omega), decide_eq_true (show o < nA K by omega), Bool.true_and]
        refine ⟨hin, hin, fun σ11 e11 => ?_⟩
        rw [nI_1]
        have ag11 : AgX (fun o _ => o = 115) (fun _ => False) υ4 σ11 := by subst e11; exact AgX.put rfl
        refine ih2 (nA K - (o + 1)) _ (by omega) ⟨o + 1, rfl, by omega, ag4.trans (ylQ ag11 (by intro o p h; unfold ylP; omega) (fun o h => h.elim)), hS4.ag ag11 (by omega) (by omega) (by omega) (by omega), ?_, ?_, ?_, rfl, ?_, ?_⟩
        · simp only []; rw [ag11.i 110 2 (by omega)]; exact r2
        · simp only []; rw [ag11.i 110 5 (by omega)]; exact r5
        · intro a ha; simp only []; rw [ag11.i 114 a (by omega)]; exact r114 a ha
        · intro a ha
          subst e11
          simp only []
          rw [gI_sI]
          by_cases hao : a = o
          · subst hao
            rw [if_pos ⟨rfl, rfl⟩]
            show nI (dh a) + bl (hold K (yL K (d0 + i) s M) a (d0 + i)) = nI (dh a + (if hold K (yL K (d0 + i) s M) a (d0 + i) then 1 else 0))
            cases hold K (yL K (d0 + i) s M) a (d0 + i) with
            | false => show nI (dh a) + nI 0 = _; rw [nI_add]; rfl
            | true => show nI (dh a) + nI 1 = _; rw [nI_add]; rfl
          · rw [if_neg (fun x => hao x.2)]; exact hlo a (by omega)
        · intro a h1 h2
          subst e11
          simp only []
          rw [gI_sI, if_neg (by omega)]; exact hhi a (by omega) h2
    · rw [ag3.i 110 2 (by unfold xq; omega)]; exact p2
    · rw [ag3.i 110 5 (by unfold xq; omega)]; exact p5
    · intro a ha; rw [ag3.i 114 a (by unfold xq; omega)]; exact (prow a ha).1
    · intro a _ ha; rw [ag3.i 115 a (by unfold xq; omega)]; exact (prow a ha).2
  have j95 : ∀ b : Bool, b = decide (nxS s % 10 < ranN K) → w_Year_live_j95 T (fun σ a5 => KK (σ, a5)) post σ1 (nI n) (nI L.length) (nI d0) (nI (d0 + i)) (bl b) := by
    intro b hb
    unfold w_Year_live_j95
    rw [hS1.1.1.na, ha8.1]
    refine s_Xdraw f1 n1 hA (by omega) ?_
    intro σ2 e2
    have f2 : gI σ2 110 5 = nI (nxS (nxS s)) := by subst e2; exact gI_same
    have hS2 : XS σ2 T K M := by subst e2; exact kp _ hS1
    rw [hS2.1.1.nr, hr4.1]
    refine s_Xdraw f2 n2 hR (by omega) ?_
    intro σ3 e3
    have f3 : gI σ3 110 5 = nI (nxS (nxS (nxS s))) := by subst e3; exact gI_same
    have hS3 : XS σ3 T K M := by subst e3; exact kp _ hS2
    have ag3 : AgX (fun o p => o = 110 ∧ p = 5) (fun _ => False) υ σ3 := by
      subst e1; subst e2; subst e3
      exact ((AgX.put ⟨rfl, rfl⟩).set ⟨rfl, rfl⟩).set ⟨rfl, rfl⟩
    have y3 : AgX ylP xl υ σ3 := ylQ ag3 (by intro o p h; unfold ylP; omega) (fun o h => h.elim)
    have s3 : ∀ o p, ¬ (o = 110 ∧ p = 5) → gI σ3 o p = gI υ o p := fun o p h => ag3.i o p h
    generalize ha : nxS (nxS s) % nA K = a at *
    generalize hr : nxS (nxS (nxS s)) % nR K = r at *
    have haA : a < nA K := by rw [← ha]; exact Nat.mod_lt _ hA
    have hrR : r < nR K := by rw [← hr]; exact Nat.mod_lt _ hR
    have eRd : yRd K (d0 + i) s M = (can K M a r (d0 + i) && !(b && decide (dryN K < takN K a r ((d0 + i) % 7)))) := by
      unfold yRd; rw [ha, hr, ← hb]
    have yx : ∀ {υ1 υ2 : DD}, AgX xq xl υ1 υ2 → AgX ylP xl υ1 υ2 := fun a => ylQ a (fun o p h => Or.inl h) (fun o h => h)
    have sx : ∀ υ', AgX xq xl σ3 υ' → ∀ o p, ¬ xq o p → ¬ (o = 110 ∧ p = 5) → gI υ' o p = gI υ o p := fun υ' a' o p h1 h2 => by rw [a'.i o p h1]; exact s3 o p h2
    have noR : ∀ υ', AgX xq xl σ3 υ' → XS υ' T K M → yRd K (d0 + i) s M = false → w_Year_live_j205 T (fun σ a5 => KK (σ, a5)) post υ' (nI n) (nI L.length) (nI d0) (nI (d0 + i)) := by
      intro υ' a' hS' hf
      refine j205 υ' (y3.trans (yx a')) ?_ ?_ ?_ ?_
      · unfold yL; rw [if_neg (by rw [hf]; simp)]; exact hS'
      · rw [sx υ' a' 110 2 (by unfold xq; omega) (by omega)]; exact q2
      · rw [a'.i 110 5 (by unfold xq; omega)]; exact f3
      · intro x hx
        rw [sx υ' a' 114 x (by unfold xq; omega) (by omega), sx υ' a' 115 x (by unfold xq; omega) (by omega)]
        refine ⟨?_, (qrow x hx).2⟩
        show _ = nI ((if yRd K (d0 + i) s M then _ else dr) x)
        rw [if_neg (by rw [hf]; simp)]; exact (qrow x hx).1
    have j157 : ∀ υ', AgX xq xl σ3 υ' → XS υ' T K M → (b && decide (dryN K < takN K a r ((d0 + i) % 7))) = false → w_Year_live_j157 T (fun σ a5 => KK (σ, a5)) post υ' (nI n) (nI L.length) (nI d0) (nI (d0 + i)) (nI a) (nI r) := by
      intro υ' a' hS' hdry
      unfold w_Year_live_j157 w_Year_live_j158
      refine ⟨fun w => absurd rfl w, fun _ => s_can hS' haA hrR (by omega) ?_⟩
      intro υ4 ag4 hS4
      have a4 := a'.trans ag4
      refine br0 (fun hcan => noR υ4 a4 hS4 (by rw [eRd, hcan]; rfl)) (fun hcan => ?_)
      have ht : yRd K (d0 + i) s M = true := by rw [eRd, hcan, hdry]; rfl
      refine s_write hS4 haA hrR (by omega) hML o4 ?_
      intro υ5 ag5 hS5
      have sl : ∀ o p, ¬ xq o p → ¬ (o = 110 ∧ p = 5) → ¬ wrP o p → gI υ5 o p = gI υ o p := fun o p h1 h2 h3 => by rw [ag5.i o p h3]; exact sx υ4 a4 o p h1 h2
      rw [nI_clamp (by omega), sl 114 a (by unfold xq; omega) (by omega) (by unfold wrP; omega), (qrow a haA).1]
      refine ⟨vp_in_nI (by omega) (by decide), vp_in_nI (by omega) (by decide), fun σ15 e15 => ?_⟩
      rw [nI_1] at e15
      have ag15 : AgX (fun o _ => o = 114) (fun _ => False) υ5 σ15 := by subst e15; exact AgX.put rfl
      refine j205 σ15 (y3.trans ((yx a4).trans ((ylQ ag5 (fun o p h => Or.inr (Or.inl h)) (fun o h => h.elim)).trans (ylQ ag15 (by intro o p h; unfold ylP; omega) (fun o h => h.elim))))) ?_ ?_ ?_ ?_
      · unfold yL; rw [if_pos ht, ha, hr]; exact hS5.ag ag15 (by omega) (by omega) (by omega) (by omega)
      · rw [ag15.i 110 2 (by omega), sl 110 2 (by unfold xq; omega) (by omega) (by unfold wrP; omega)]; exact q2
      · rw [ag15.i 110 5 (by omega), ag5.i 110 5 (by unfold wrP; omega), a4.i 110 5 (by unfold xq; omega)]; exact f3
      · intro x hx
        refine ⟨?_, ?_⟩
        · show _ = nI ((if yRd K (d0 + i) s M then upU dr (nxS (nxS s) % nA K) (dr (nxS (nxS s) % nA K) + 1) else dr) x)
          rw [if_pos ht, ha]
          subst e15
          rw [gI_sI]
          unfold upU
          by_cases hxa : x = a
          · rw [if_pos ⟨rfl, hxa⟩, if_pos hxa]
          · rw [if_neg (fun y => hxa y.2), if_neg hxa, sl 114 x (by unfold xq; omega) (by omega) (by unfold wrP; omega)]; exact (qrow x hx).1
        · rw [ag15.i 115 x (by omega), sl 115 x (by unfold xq; omega) (by omega) (by unfold wrP; omega)]; exact (qrow x hx).2
    refine br0 (fun hbb => j157 σ3 (AgX.refl _) hS3 (by rw [hbb]; rfl)) (fun hbb => ?_)
    unfold w_Court_takes
    refine s_answerOf hS3.1 haA hrR (by omega) ?_
    intro υ4 ag4 hQ4
    have hS4 := hS3.q ag4 hQ4
    have htk := (takN_e hI (r := r) (w := (d0 + i) % 7) haA).2
    have h208 : gI υ4 208 2 = K 397 := hS4.1.1.2.2.2.2.2.2.2.2.2.1.2.1
    rw [(pack_e hI haA).2.1]
    simp only []
    rw [h208, hdr'.1, nI_leI (by omega) (by omega)]
    refine ⟨fun w => j157 υ4 ag4 hS4 ?_, fun w => ?_⟩
    · rw [decide_eq_false (show ¬ dryN K < takN K a r ((d0 + i) % 7) by unfold dryN; omega), Bool.and_false]
    · unfold w_Year_live_j158
      refine ⟨fun _ => noR υ4 ag4 hS4 ?_, fun w2 => absurd w2 (by decide)⟩
      rw [eRd, hbb, decide_eq_true (show dryN K < takN K a r ((d0 + i) % 7) by unfold dryN; omega)]; simp
  have h2081 : gI σ1 208 1 = K 396 := hS1.1.1.2.2.2.2.2.2.2.2.2.1.1
  rw [h2081, hrn.1, nI_leI (by omega) (by omega)]
  refine ⟨fun w => ?_, fun w => ?_⟩
  · exact j95 false (decide_eq_false (show ¬ nxS s % 10 < ranN K by unfold ranN; omega)).symm
  · exact j95 true (decide_eq_true (show nxS s % 10 < ranN K by unfold ranN; omega)).symm
end YX
