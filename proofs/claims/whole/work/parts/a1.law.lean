/-! ===== a law is laid down ===== -/
section LW
variable {m x σ τ : DD} {T : TXT} {n : Nat} {K : Nat → Int32} {L : List RD}
def lwS (f p : Nat) : Prop := p = 403 ∨ p = 405 + f ∨ (412 + 400 * f ≤ p ∧ p < 412 + 400 * f + 400) ∨ (3212 + 400 * f ≤ p ∧ p < 3212 + 400 * f + 400)
theorem tV_00 {b : Nat → Nat} {sz N k : Nat} (hN2 : ∀ i, N ≤ i → tP b sz i = sz) (hk : N ≤ k) : tV b sz k = 0 := by
  unfold tV vlT; rw [hN2 k hk, if_neg (fun z => Nat.lt_irrefl _ z.1)]; rfl
def lwK (K : Nat → Int32) (m : DD) (f p : Nat) : Int32 := if p = 403 ∨ p = 405 + f ∨ (412 + 400 * f ≤ p ∧ p < 412 + 400 * f + 400) ∨ (3212 + 400 * f ≤ p ∧ p < 3212 + 400 * f + 400) then gI m 4 p else K p
theorem lwK_i {f p : Nat} (h : lwS f p) : lwK K m f p = gI m 4 p := by unfold lwS at h; unfold lwK; rw [if_pos h]
theorem lwK_o {f p : Nat} (h : ¬ lwS f p) : lwK K m f p = K p := by unfold lwS at h; unfold lwK; rw [if_neg h]
/-- the kept row with one law more -/
theorem lwK_law {b : Nat → Nat} {sz N f : Nat} {cl : List CLS} (hf : f < 6) (hN : N ≤ 400) (hN2 : ∀ i, N ≤ i → tP b sz i = sz) (hcl : pAll false (tC b sz) (tV b sz) N = .inr cl) (h5 : gI m 4 (405 + f) = nI N) (hr : ∀ i, i < N → gI m 4 (412 + (400 * f + i)) = tC b sz i ∧ gI m 4 (3212 + (400 * f + i)) = tV b sz i) : LawOK (lwK K m f) f ∧ clsOf (lwK K m f) f = cl := by
  have e5 : lwK K m f (405 + f) = nI N := by rw [lwK_i (Or.inr (Or.inl rfl))]; exact h5
  have eN : nT (lwK K m f) f = N := by unfold nT; rw [e5, nI_clamp (by omega)]
  have ec : cO (lwK K m f) f = tC b sz := by
    funext k
    unfold cO
    rw [eN]
    by_cases hk : k < N
    · rw [if_pos hk, lwK_i (by unfold lwS; omega)]; exact (hr k hk).1
    · rw [if_neg hk, tC_0 hN2 k (by omega)]
  have ev : vO (lwK K m f) f = tV b sz := by
    funext k
    unfold vO
    rw [eN]
    by_cases hk : k < N
    · rw [if_pos hk, lwK_i (by unfold lwS; omega)]; exact (hr k hk).2
    · rw [if_neg hk, tV_00 hN2 (by omega)]
  refine ⟨?_, ?_⟩
  · unfold LawOK
    rw [eN, ec, ev]
    exact ⟨hN, e5, ⟨cl, hcl⟩, fun k => tV_0 k⟩
  · unfold clsOf
    rw [eN, ec, ev, hcl]
theorem lwK_E {f f' : Nat} (hf : f < 6) (h' : f' < f) : LwE K (lwK K m f) f' := ⟨lwK_o (by unfold lwS; omega), fun k hk => ⟨lwK_o (by unfold lwS; omega), lwK_o (by unfold lwS; omega)⟩⟩
theorem RXd.g' {b : Nat} (h : RXd σ b L) (e : ∀ a c, (b = a ∧ c = 8) ∨ (b + 10 ≤ a ∧ a ≤ b + 12) → gI τ a c = gI σ a c) : RXd τ b L := by
  refine ⟨?_, h.2.1, fun i y hy => ?_⟩
  · rw [e _ _ (by omega)]; exact h.1
  · rw [e _ _ (by omega), e _ _ (by omega), e _ _ (by omega)]; exact h.2.2 i y hy
theorem mkT_sI {a k t : Nat} {v : Int32} (hF : 300 ≤ t) (ha : a < 300) (h : ¬ a = 30 ∧ ¬ a = 32 ∧ ¬ a = 33) : sI (mkT σ t) a k v = mkT (sI σ a k v) t := by
  refine Prod.ext (funext fun q => funext fun c => ?_) rfl
  show (if q = a ∧ c = k then v else gI (mkT σ t) q c) = gI (mkT (sI σ a k v) t) q c
  by_cases q1 : q = t
  · subst q1
    rw [if_neg (by omega)]
    show (if q = q then (if c = 0 then gI σ 30 5 else if c = 1 then gI σ 30 7 else 0) else _) = (if q = q then (if c = 0 then gI (sI σ a k v) 30 5 else if c = 1 then gI (sI σ a k v) 30 7 else 0) else _)
    have g5 : gI (sI σ a k v) 30 5 = gI σ 30 5 := by rw [gI_sI, if_neg (by omega)]
    have g7 : gI (sI σ a k v) 30 7 = gI σ 30 7 := by rw [gI_sI, if_neg (by omega)]
    rw [if_pos rfl, if_pos rfl, g5, g7]
  · by_cases q2 : q = t + 3
    · subst q2
      rw [if_neg (by omega), mkT_c, mkT_c, gI_sI, if_neg (by omega)]
    · by_cases q3 : q = t + 4
      · subst q3
        rw [if_neg (by omega), mkT_h, mkT_h, gI_sI, if_neg (by omega)]
      · rw [mkT_i ⟨q1, q2, q3⟩, mkT_i ⟨q1, q2, q3⟩, gI_sI]
theorem lwK_ch {t f d : Nat} {T' : TXT} {σ1 σ3 m1 m7 : DD} {cl : List CLS} (hn : n < 2 ^ 20) (hM1 : MS m1 K L) (hB2 : INB T' m1 σ1 n (n + 1) K L d) (hf : nLw K = f) (f6 : f < 6) (ht : 300 ≤ t) (hTx : TxtOK σ1 T' t false cl) (X3 : ∀ a c, ¬ (a = 200 ∧ c = 17) → gI σ3 a c = gI σ1 a c) (g3 : gI σ3 200 17 = nI (f + 1)) (R3 : ∀ a c, gR σ3 a c = if a = 219 ∧ c = f then some t else gR σ1 a c) (M7 : Ag (fun o p => o = 4 ∧ lwS f p) m1 m7) (g7 : gI m7 4 403 = nI (f + 1)) (hlk : LawOK (lwK K m7 f) f ∧ clsOf (lwK K m7 f) f = cl) : INV T' (gdM m7) (sI σ3 0 11 0) (n + 1) := by
  obtain ⟨hX, h1, h2, h3, h4, h5, hRS, i0, i1, ⟨v, hv1, hv2⟩, g, hg1, hg2⟩ := hB2
  have hI := hX.1.2.2
  have KE : ∀ p, ¬ lwS f p → lwK K m7 f p = K p := fun p hp => lwK_o hp
  have eA : nA (lwK K m7 f) = nA K := nA_cg (KE 399 (by unfold lwS; omega))
  have eR : nR (lwK K m7 f) = nR K := nR_cg (KE 400 (by unfold lwS; omega))
  have k3 : lwK K m7 f 403 = nI (f + 1) := by rw [lwK_i (Or.inl rfl)]; exact g7
  have eL : nLw (lwK K m7 f) = f + 1 := nL_of k3 (by omega)
  have lw : ∀ f', f' < nLw K → LwE K (lwK K m7 f) f' := fun f' h' => lwK_E f6 (by omega)
  have e4 : lwK K m7 f 404 = K 404 := KE _ (by unfold lwS; omega)
  have e8 : lwK K m7 f 398 = K 398 := KE _ (by unfold lwS; omega)
  obtain ⟨pA, pG, pR, pW, pT, pF, ⟨b1, b2, b3, b4, b5, b6⟩⟩ := pts_of hX.1.1 hI
  have hp : PTS σ3 200 T' (lwK K m7 f) := by
    refine ⟨pA.cg (X3 _ _ (by omega)) (fun k hk => X3 _ _ (by omega)) (fun p hp => KE p (by unfold lwS; omega)), pG.cg (fun k hk => X3 _ _ (by omega)) (fun p q1 q2 => KE p (by unfold lwS; omega)), pR.cg (X3 _ _ (by omega)) (fun k hk => X3 _ _ (by omega)) (fun k hk => X3 _ _ (by omega)) (fun p hp => KE p (by unfold lwS; omega)), pW.cg (fun k hk => X3 _ _ (by omega)) (fun p q1 q2 => KE p (by unfold lwS; omega)), pT.cg (fun k q1 q2 => X3 _ _ (by omega)) (fun p q1 q2 => KE p (by unfold lwS; omega)), pF.cg (X3 _ _ (by omega)) (fun k hk => ⟨X3 _ _ (by omega), X3 _ _ (by omega), X3 _ _ (by omega), X3 _ _ (by omega)⟩) (fun p hp => KE p (by unfold lwS; omega)) (by omega), ?_⟩
    have tg : ∀ q cl, TxtOK σ1 T' q false cl → 300 ≤ q → TxtOK σ3 T' q false cl := fun q cl h hq => h.g hq (fun a c w => X3 a c (by omega))
    refine ⟨?_, ?_, ?_, ?_, ?_, ?_⟩
    · rw [g3, k3]
    · rw [X3 _ _ (by omega), e4]; exact b2
    · rw [eL]; exact ⟨k3, by omega⟩
    · rw [e4, eL]
      rcases b4 with z | ⟨f', z1, z2⟩
      · exact Or.inl z
      · exact Or.inr ⟨f', by omega, z2⟩
    · intro f' hf'
      rw [eL] at hf'
      by_cases ef : f' = f
      · rw [ef]; exact hlk.1
      · exact lok_cg (b5 f' (by omega)) (lw f' (by omega))
    · intro f' hf'
      rw [eL] at hf'
      by_cases ef : f' = f
      · refine ⟨t, ht, by rw [R3, if_pos ⟨rfl, ef⟩], ?_⟩
        rw [ef, hlk.2]; exact tg _ _ hTx ht
      · obtain ⟨q, q1, q2, q3⟩ := b6 f' (by omega)
        refine ⟨q, q1, by rw [R3, if_neg (fun z => ef z.2)]; exact q2, ?_⟩
        rw [cls_cg (b5 f' (by omega)).1 (lw f' (by omega))]
        exact tg _ _ q3 q1
  obtain ⟨hR', hI'⟩ := of_pts hp
  have hc : CX σ3 (lwK K m7 f) := by
    refine hX.1.2.1.cg (X3 _ _ (by omega)) (fun k => X3 _ _ (by omega)) (fun k => X3 _ _ (by omega)) (by omega) (by omega) (fun a r w ha hr _ => ?_)
    have := hI.a
    have := hI.r
    exact pack_cg hI e4 e8 (fun j hj => KE _ (by unfold lwS; omega)) (KE _ (by unfold lwS; omega)) lw
  have hL' : LI (lwK K m7 f) L := hX.2.2.1.mo (by omega) (by omega)
  have hXs : XS σ3 T' (lwK K m7 f) L := ⟨⟨hR', hc, hI'⟩, hX.2.1.g' (fun a c w => X3 a c (by omega)), hL', hX.2.2.2⟩
  have hM0 : MS0 m7 (lwK K m7 f) L := by
    refine ⟨fun p hp => ?_, hM1.1.2.1.ag M7 (by omega) (by omega), hI', hM1.2.2.1.fr (fun p hp => M7.at 4 p (by unfold lwS; omega)), hL'⟩
    by_cases c : lwS f p
    · rw [lwK_i c]
    · rw [M7.at 4 p (fun w => c w.2), lwK_o c]; exact hM1.1.1 p hp
  have im : ∀ k b, (b = 230 ∨ b = 260) → IMG m1 σ1 T' k b → IMG m7 σ3 T' k b := fun k b hb hi => hi.g (by omega) (fun p => ⟨M7.at _ _ (by omega), M7.at _ _ (by omega)⟩) (fun a c w => X3 a c (by omega)) (fun c => by rw [R3, if_neg (by omega)]) (fun c => by rw [R3, if_neg (by omega)])
  refine INB.good hM0 ⟨hXs, ?_, ?_, h3, h4, h5, ?_, im 0 230 (Or.inl rfl) i0, im 1 260 (Or.inr rfl) i1, ⟨v, hv1, ?_⟩, g, by omega, ?_⟩ hn
  · rw [M7.at _ _ (by unfold lwS; omega)]; exact h1
  · rw [X3 _ _ (by omega)]; exact h2
  · exact hRS.fr (fun o p w => M7.at o p (by unfold pr2 at w; omega)) (fun o p w => X3 _ _ (by unfold xr2 at w; omega))
  · rw [M7.at _ _ (by omega)]; exact hv2
  · rw [X3 _ _ (by omega)]; exact hg2
theorem p_law (h : INV T m x n) (hn : n < 2 ^ 20) : wz_law T x (fun T' r x' => w_M_law m (fun r' m' => r = r' ∧ INV T' m' x' (n + 1) ∧ ∀ c, gR x' 2 c = gR x 2 c)) := by
  obtain ⟨K, L, d, hM, hB, -⟩ := h.b
  have hX := hB.1
  have hI := hX.1.2.2
  have hRS := hB.2.2.2.2.2.2.1
  obtain ⟨b, sz, N, hsz, hTB, hb, h13, hN, hN1, hN2, hw⟩ := tape_b hRS
  have hl := hI.l
  have eX : gI x 200 17 = nI (nLw K) := by rw [hX.1.1.2.2.2.1]; exact hl.1
  have eM : gI m 4 403 = nI (nLw K) := by rw [hM.1.1 403 (by unfold dyn; omega)]; exact hl.1
  generalize hf : nLw K = f at eX eM hl
  have f6 := hl.2
  unfold wz_law
  rw [eX, show (6 : Int32) ≤ nI f ↔ 6 ≤ f from nI_leI (a := 6) (by decide) (by omega)]
  refine ⟨fun z => ?_, fun z => ?_⟩
  · refine s_refused (Or.inr (Or.inr (Or.inr (Or.inl rfl)))) ?_
    unfold w_M_law
    rw [eM, show f = 6 by omega]
    refine ⟨fun w => absurd rfl w, fun _ σ13 e13 => s_refuses (Or.inr (Or.inr (Or.inr (Or.inl rfl)))) ⟨rfl, ?_, fun _ => rfl⟩⟩
    have hh := h.tp (m' := σ13) (x' := sI x 20 1 0) (P := fun o p => o = 0 ∧ p = 13) (P2 := fun o p => o = 20 ∧ p = 1) (by rw [e13]; exact Ag.put ⟨rfl, rfl⟩) (by omega) (AgX.put ⟨rfl, rfl⟩) (by omega) ⟨0, by omega, gI_same, by rw [e13, gI_same]; rfl, by omega⟩
    obtain ⟨K2, L2, d2, hM2, hB2, -⟩ := hh.b
    exact hB2.ref hM2 (Or.inr (Or.inr (Or.inr (Or.inl rfl))))
  · have n6 : ¬ nI f = 6 := by
      rw [show (6 : Int32) = nI 6 from rfl, nI_eq (by omega) (by decide)]; omega
    refine s_compile (o := false) hTB hN hN1 hN2 (fun e he x1 ax e8 => ?_) (fun cl hcl h12 x1 i l s u hC hi => ?_)
    · refine s_refused (Or.inr (Or.inr (Or.inr (Or.inr rfl)))) ?_
      unfold w_M_law
      rw [eM]
      refine ⟨fun _ => s_readsAs (o := false) hw hb hsz h13 hN hN1 hN2 (fun e' he' _ m1 am m13 m14 => ⟨fun w => absurd rfl w, fun _ => s_refuses (Or.inr (Or.inr (Or.inr (Or.inr rfl)))) ⟨rfl, ?_, fun c => ax.r 2 c⟩⟩) (fun cl' hcl' => ?_), fun w => absurd w n6⟩
      · rw [he] at he'
        cases he'
        obtain ⟨hM1, hB1⟩ := INB.rd (m' := m1) (x' := sI x1 20 1 0) hM hB (am.mono (fun o p w => Or.inl w)) ((ax.mono (fun o p w => Or.inl w) (fun _ w => w)).set (Or.inr (Or.inl ⟨rfl, rfl⟩))) m13 gI_same (by rw [gI_sI, if_neg (by omega), e8, m14]) (by rw [gI_sI, if_neg (by omega), ax.i _ _ (by unfold cpQ; omega), am.at _ _ (by unfold rdA spP; omega)]; exact hRS.1.2.2)
        exact hB1.ref hM1 (Or.inr (Or.inr (Or.inr (Or.inr rfl))))
      · rw [he] at hcl'; cases hcl'
    · have ax := hC.1
      have hs := hC.2.1.2.2.2.2.2.1
      refine ⟨ax.2.2, s, cl.length, by omega, h12, hC.2.1.2.2.1, hC.2.2.1, fun t hF σ1 e1 => ?_⟩
      have hTx := txt_made (T := T) (t := t) hC h12 (by omega)
      have hFt : t ≥ 300 := hF.1
      have g17 : gI σ1 200 17 = nI f := by rw [e1, gI_sI, if_neg (by omega), mkT_lo hF (by omega), ax.i _ _ (by unfold cpQ; omega)]; exact eX
      rw [g17, nI_clamp (by omega)]
      refine ⟨vp_in_nI (by omega) (by decide), fun σ2 e2 σ3 e3 => s_granted ?_⟩
      unfold w_M_law
      rw [eM]
      refine ⟨fun _ => s_readsAs (o := false) hw hb hsz h13 hN hN1 hN2 (fun e' he' => ?_) (fun cl' hcl' m1 am m13 m14 m18 mrow => ⟨fun _ => ?_, fun w => absurd w (by decide)⟩), fun w => absurd w n6⟩
      · rw [hcl] at he'; cases he'
      · rw [hcl] at hcl'
        cases hcl'
        have m403 : gI m1 4 403 = nI f := by rw [am.at _ _ (by unfold rdA spP; omega)]; exact eM
        rw [m403]
        refine s_lays (f := f) (by omega) (by omega) m18 mrow (fun m6 a6 q405 qrow => fun σ7 e7 => ?_)
        have m6_403 : gI m6 4 403 = nI f := by rw [a6.at _ _ (by omega)]; exact m403
        rw [m6_403, nI_1] at e7
        have g7 : gI σ7 4 403 = nI (f + 1) := by rw [e7, gI_same]
        rw [g7]
        refine s_good ⟨by rw [nI_pred], ?_, fun c => by rw [e3, e2, e1]; exact ax.r 2 c⟩
        -- the state where the text is read, made
        obtain ⟨hM1, hB1⟩ := INB.rd (m' := m1) (x' := sI x1 20 1 0) hM hB (am.mono (fun o p w => Or.inl w)) ((ax.mono (fun o p w => Or.inl w) (fun _ w => w)).set (Or.inr (Or.inl ⟨rfl, rfl⟩))) m13 gI_same (by rw [gI_sI, if_neg (by omega), hC.2.2.2.1, m14]) (by rw [gI_sI, if_neg (by omega), ax.i _ _ (by unfold cpQ; omega), am.at _ _ (by unfold rdA spP; omega)]; exact hRS.1.2.2)
        have hB2 := (hB1.mk hF).tle (T' := adT T t s (6 * cl.length)) (adT_le hF.no)
        have e1' : σ1 = mkT (sI x1 20 1 0) t := by rw [e1]; exact mkT_sI hF.1 (by omega) (by omega)
        rw [← e1'] at hB2
        have hTx1 : TxtOK σ1 (adT T t s (6 * cl.length)) t false cl := hTx.1.g hF.1 (fun a c w => by rw [e1, gI_sI, if_neg (by omega)])
        have X3 : ∀ a c, ¬ (a = 200 ∧ c = 17) → gI σ3 a c = gI σ1 a c := fun a c w => by rw [e3, gI_sI, if_neg w, e2]; rfl
        have R3 : ∀ a c, gR σ3 a c = if a = 219 ∧ c = f then some t else gR σ1 a c := fun a c => by rw [e3, e2]; rfl
        have g3 : gI σ3 200 17 = nI (f + 1) := by
          have : gI σ2 200 17 = nI f := by rw [e2]; exact g17
          rw [e3, gI_same, this, nI_1]
        have M7 : Ag (fun o p => o = 4 ∧ lwS f p) m1 σ7 := by
          rw [e7]
          exact (a6.mono (fun o p w => ⟨w.1, Or.inr w.2⟩)).set ⟨rfl, Or.inl rfl⟩
        refine lwK_ch hn hM1 hB2 hf (by omega) hF.1 hTx1 X3 g3 R3 M7 g7 (lwK_law (b := b) (sz := sz) (N := N) (by omega) (by omega) hN2 hcl ?_ (fun i hi => ?_))
        · rw [e7, gI_sI, if_neg (by omega)]; exact q405
        · rw [e7, gI_sI, if_neg (by omega), gI_sI, if_neg (by omega)]; exact qrow i hi
end LW
