/-! ===== orders are run, by both ===== -/
section OD
variable {m x σ τ : DD} {T : TXT} {n : Nat} {K : Nat → Int32} {L : List RD}
theorem one_b {xx : CLS} {y y' : OST} (h : oneO K xx y = .inr y') : y'.2.2.1 ≤ y.2.2.1 + 1 := by
  unfold oneO at h
  split at h
  · split at h
    · split at h
      · cases h
      · cases h; exact Nat.le_refl _
    · unfold sumsO at h
      split at h
      · unfold tellO at h
        split at h
        · cases h
        · split at h
          · cases h
          · split at h
            · cases h; exact Nat.le_refl _
            · cases h
      · cases h
  · cases h; omega
theorem rep_b {xx : CLS} : ∀ (t : Nat) (y y' : OST), repO K xx t y = .inr y' → y'.2.2.1 ≤ y.2.2.1 + t := by
  intro t
  induction t with
  | zero => intro y y' h; cases h; omega
  | succ t ih =>
    intro y y' h
    rw [repO] at h
    cases h1 : oneO K xx y with
    | inl w => rw [h1] at h; cases h
    | inr y2 =>
      rw [h1] at h
      have := ih y2 y' h
      have := one_b h1
      omega
theorem all_b : ∀ (xs : List CLS) (k : Nat) (y y' : OST), (∀ x, x ∈ xs → OrdX x) → allO K k xs y = .inr y' → y'.2.2.1 ≤ y.2.2.1 + 20 * xs.length := by
  intro xs
  induction xs with
  | nil => intro k y y' _ h; cases h; omega
  | cons xx xs ih =>
    intro k y y' ho h
    rw [allO] at h
    obtain ⟨-, t, ht, et⟩ := ho xx List.mem_cons_self
    rw [et, nI_clamp (by omega)] at h
    cases h1 : repO K xx t y with
    | inl w => rw [h1] at h; cases h
    | inr y2 =>
      rw [h1] at h
      have := ih (k + 1) y2 y' (fun z hz => ho z (List.mem_cons_of_mem _ hz)) h
      have := rep_b t y y2 h1
      rw [List.length_cons]
      omega
theorem MS.dy {P : Nat → Nat → Prop} (h : MS σ K L) (a : Ag P σ τ) (hP : ∀ o p, P o p → (o = 4 ∧ (p = 411 ∨ (2812 ≤ p ∧ p < 3212) ∨ 5612 ≤ p))) : MS τ K L := by
  refine ⟨⟨fun p hp => ?_, h.1.2.ag a (fun p w => by have := hP _ _ w; omega) (fun w => by have := hP _ _ w; omega) (fun w => by have := hP _ _ w; omega)⟩, h.2.1, h.2.2.1.fr (fun p hp => a.at 4 p (fun w => by have := hP _ _ w; omega)), h.2.2.2⟩
  rw [a.at 4 p (fun w => hp (by have := hP _ _ w; unfold dyn; omega))]
  exact h.1.1 p hp
def odP (o p : Nat) : Prop := orP o p ∨ (o = 4 ∧ (p = 411 ∨ (2812 ≤ p ∧ p < 3212) ∨ 5612 ≤ p))
def odS (o p : Nat) : Prop := odP o p ∨ (o = 0 ∧ p = 44)
def oxS (o p : Nat) : Prop := oxQ o p ∨ (o = 60 ∧ p = 6)
theorem INB.od {m1 x1 m' x' : DD} {G d d' : Nat} {L' : List RD} (h : INB T m1 x1 n G K L d) (am : GI odS m1 m') (ax : AgX oxS oxL x1 x') (hX' : XS x' T K L') (h1 : gI m' 4 395 = nI d') (h2 : gI x' 208 0 = nI d') (h3 : d' ≤ 999) (h4 : ∀ y, y ∈ L' → y.2.2 ≤ d') (h5 : L'.length ≤ 24) (h6 : gI x' 60 6 = gI m' 0 44) : INB T m' x' n G K L' d' := by
  obtain ⟨g, hg1, hg2⟩ := h.2.2.2.2.2.2.2.2.2.2
  have u1 : ∀ o p, odS o p → ¬ o = 3 ∧ ¬ o = 5 ∧ ¬ o = 6 ∧ ¬ o = 12 ∧ ¬ o = 54 ∧ ¬ o = 55 ∧ ¬ o = 40 ∧ ¬ o = 8 ∧ ¬ (o = 0 ∧ (p = 1 ∨ p = 6 ∨ p = 14 ∨ p = 13 ∨ p = 55)) := fun o p w => by unfold odS odP orP goP soP qP lgP at w; omega
  have u2 : ∀ o p, oxS o p → o < 230 ∧ ¬ (o = 0) ∧ ¬ o = 30 ∧ ¬ o = 11 ∧ ¬ o = 20 ∧ ¬ o = 21 ∧ ¬ o = 110 ∧ ¬ o = 114 ∧ ¬ o = 115 ∧ ¬ o = 50 := fun o p w => by unfold oxS oxQ lwQ xq wrP at w; omega
  have U1 : ∀ o p, (o = 3 ∨ o = 5 ∨ o = 6 ∨ o = 12 ∨ o = 54 ∨ o = 55 ∨ o = 40 ∨ o = 8 ∨ (o = 0 ∧ (p = 1 ∨ p = 6 ∨ p = 14 ∨ p = 13 ∨ p = 55))) → ¬ odS o p := fun o p w z => by have := u1 o p z; omega
  have U2 : ∀ o p, (230 ≤ o ∨ o = 0 ∨ o = 30 ∨ o = 11 ∨ o = 20 ∨ o = 21 ∨ o = 110 ∨ o = 114 ∨ o = 115 ∨ o = 50) → ¬ oxS o p := fun o p w z => by have := u2 o p z; omega
  refine h.gen (P := odS) am ⟨fun p => ⟨U1 _ _ (by omega), U1 _ _ (by omega)⟩, U1 _ _ (by omega)⟩ ax (fun o p w => U2 _ _ (by omega)) hX' h1 h2 h3 h4 h5 ?_ ⟨g, hg1, ?_⟩
  · exact h.2.2.2.2.2.2.1.gen (P := odS) (Q := oxS) am (fun o p z => ax.i o p z) (Or.inr ⟨U1 _ _ (by omega), U2 _ _ (by omega)⟩) (Or.inr ⟨U1 _ _ (by omega), U2 _ _ (by omega)⟩) (Or.inl h6) ⟨fun p => U1 _ _ (by omega), fun p => U2 _ _ (by omega)⟩ (Or.inr ⟨U1 _ _ (by omega), fun p => U1 _ _ (by omega), U2 _ _ (by omega), fun p => U2 _ _ (by omega)⟩) (Or.inr ⟨U1 _ _ (by omega), fun p => ⟨U1 _ _ (by omega), U1 _ _ (by omega)⟩, U2 _ _ (by omega), fun p => ⟨U2 _ _ (by omega), U2 _ _ (by omega)⟩⟩) (fun p => ⟨U1 _ _ (by omega), U1 _ _ (by omega)⟩)
  · rw [ax.i _ _ (U2 _ _ (by omega))]; exact hg2
theorem cp2_of {x1 : DD} (ax : AgX cpQ noL x x1) : AgX cp2 noL x (sI (sI x1 20 1 0) 60 6 (-1)) := by
  have q : AgX cp2 noL x x1 := ax.mono (fun o p w => Or.inl w) (fun _ w => w)
  exact (q.set (Or.inr (Or.inl ⟨rfl, rfl⟩))).set (Or.inr (Or.inr ⟨rfl, rfl⟩))
/-- the model reads and runs them -/
theorem s_Morders {b : Nat → Nat} {sz N d : Nat} {cl : List CLS} {post : Int32 → DD → Prop} (hM : MS m K L) (hday : gI m 4 395 = nI d) (hd : d ≤ 999) (hLd : ∀ z, z ∈ L → z.2.2 ≤ d) (hL : L.length ≤ 24) (hw : ∀ i, i < 129 → gI m 8 i = nI (wL.getD i 0)) (hb : ∀ j, j < sz → b j < 256 ∧ gI m 12 j = i2b (nI (b j))) (hsz : sz ≤ 400) (h13 : gI m 0 13 = nI sz) (hN : N ≤ sz) (hN1 : ∀ i, i < N → tP b sz i < sz) (hN2 : ∀ i, N ≤ i → tP b sz i = sz) (hcl : pAll true (tC b sz) (tV b sz) N = .inr cl)
    (k1 : ∀ y', allO K 0 cl (L, d, 0, -1) = .inr y' → ∀ m1 τ, Ag rdA (sI m 0 44 (-1)) m1 → gI m1 0 13 = 0 → gI m1 0 14 = -1 → GI odP m1 τ → MS τ K y'.1 → gI τ 4 395 = nI y'.2.1 → y'.2.1 ≤ 999 → (∀ z, z ∈ y'.1 → z.2.2 ≤ y'.2.1) → y'.1.length ≤ 24 → post (nI y'.2.2.1) (gdM τ))
    (k0 : ∀ w n', allO K 0 cl (L, d, 0, -1) = .inl (w, n') → (w = -3 ∨ w = -5) → ∀ m1 τ, Ag rdA (sI m 0 44 (-1)) m1 → gI m1 0 13 = 0 → gI m1 0 14 = -1 → GI odS m1 τ → MS τ K L → gI τ 4 395 = nI d → gI τ 0 44 = nI n' → post w (rfM τ w)) : w_M_orders m post := by
  have a18 : Ag (fun o p => o = 0 ∧ p = 44) m (sI m 0 44 (-1)) := Ag.put ⟨rfl, rfl⟩
  unfold w_M_orders
  intro σ18 e18
  subst e18
  refine s_readsAs (o := true) (N := N) (b := b) (sz := sz) (fun i hi => by rw [a18.at _ _ (by omega)]; exact hw i hi) (fun j hj => ⟨(hb j hj).1, by rw [a18.at _ _ (by omega)]; exact (hb j hj).2⟩) hsz (by rw [a18.at _ _ (by omega)]; exact h13) hN hN1 hN2 (fun e' he' => ?_) (fun cl' hcl' m1 am m13 m14 m18 mrow => ⟨fun _ v23 e23 v25 e25 => ?_, fun w => absurd w (by decide)⟩)
  · rw [hcl] at he'; cases he'
  have hM1 : MS m1 K L := (hM.lo a18 (by omega)).lo am (fun o p w => by unfold rdA spP at w; omega)
  have d1 : gI m1 4 395 = nI d := by rw [am.at _ _ (by unfold rdA spP; omega), a18.at _ _ (by omega)]; exact hday
  have l1 : gI m1 4 401 = nI L.length := hM1.2.2.1.1
  rw [l1] at e23
  rw [d1] at e25
  subst e23; subst e25
  refine s_lays (f := 6) (by omega) (by omega) m18 mrow (fun m28 a28 q411 qrow => fun σ29 e29 σ31 e31 σ33 e33 v35 e35 => ?_)
  have hM28 : MS m28 K L := hM1.dy a28 (fun o p w => by omega)
  have b33 : Ag (fun o p => o = 0 ∧ (p = 45 ∨ p = 46 ∨ p = 47)) m28 σ33 := by rw [e33, e31, e29]; exact ((Ag.put (by omega)).set (by omega)).set (by omega)
  have hM33 : MS σ33 K L := hM28.lo b33 (by omega)
  have g47 : gI σ33 0 47 = nI (2400 + 0) := by rw [e33, gI_same]; rfl
  have g411 : gI σ33 4 411 = nI N := by rw [b33.at _ _ (by omega)]; exact q411
  rw [g47, g411, nI_add'] at e35
  subst e35
  have hO : OM σ33 σ33 K L (L, d, 0, -1) N (tC b sz) (tV b sz) := by
    refine ⟨GI.refl _, hM33, ?_, hd, hLd, hL, ⟨[], (List.append_nil _).symm⟩, ?_, ?_, ⟨by omega, g411, fun k hk => ?_, tC_0 hN2, tV_0⟩⟩
    · rw [b33.at _ _ (by omega), a28.at _ _ (by omega)]; exact d1
    · rw [e33, gI_sI, if_neg (by omega), e31, gI_sI, if_neg (by omega), e29, gI_same]; rfl
    · rw [e33, gI_sI, if_neg (by omega), e31, gI_same]
    · have := qrow k hk
      rw [b33.at _ _ (by omega), b33.at _ _ (by omega)]; exact this
  have g0 : GI odP m1 σ33 := (GI.of a28 (fun o k w => Or.inr (by omega))).trans (GI.of b33 (fun o k w => Or.inl (Or.inr (Or.inr (Or.inr (by omega))))))
  refine ord_loop (m := 11) (n := 0) (i := 0) (l := 0) (by omega) hO g47 (Nat.zero_le _) (by decide) hcl (fun y' hy τ hOt => s_good ?_) (fun w n' hy τ y' hOt hw3 => s_refuses (by unfold isRef; rcases hw3 with z | z <;> rw [z] <;> decide) ?_)
  · obtain ⟨o1, o2, o3, o4, o5, o6, o7, o8, o9, -⟩ := hOt
    exact k1 y' hy m1 τ am m13 m14 (g0.trans (o1.mono (fun o k w => Or.inl w))) o2 o3 o4 o5 o6
  · obtain ⟨o1, o2, o3, o4, o5, o6, ⟨P, hP⟩, o8, o9, -⟩ := hOt
    rw [hP] at o2
    have c1 : MS (sI τ 4 401 (nI L.length)) K L := o2.cut rfl
    have c2 : MS (sI (sI τ 4 401 (nI L.length)) 4 395 (nI d)) K L := c1.day
    have b3 : Ag (fun o p => o = 0 ∧ p = 44) (sI (sI τ 4 401 (nI L.length)) 4 395 (nI d)) (sI (sI (sI τ 4 401 (nI L.length)) 4 395 (nI d)) 0 44 (nI n')) := Ag.put ⟨rfl, rfl⟩
    refine k0 w n' hy hw3 m1 _ am m13 m14 (fun o p z => ?_) (c2.lo b3 (by omega)) ?_ gI_same
    · rw [gI_sI, if_neg (fun q => z (Or.inr q)), gI_sI, if_neg (fun q => z (Or.inl (Or.inl (Or.inr (Or.inr (Or.inl q)))))), gI_sI, if_neg (fun q => z (Or.inl (Or.inl (Or.inr (Or.inl ⟨q.1, Or.inr q.2⟩)))))]
      exact (g0.trans (o1.mono (fun o k w => Or.inl w))) o p (fun q => z (Or.inl q))
    · rw [gI_sI, if_neg (by omega), gI_same]
theorem p_orders (h : INV T m x n) (hn : n < 2 ^ 20) : wz_orders T x (fun T' r x' => w_M_orders m (fun r' m' => r = r' ∧ INV T' m' x' (n + 1) ∧ ∀ c, gR x' 2 c = gR x 2 c)) := by
  obtain ⟨K, L, d, hM, hB, -⟩ := h.b
  have hX := hB.1
  have hI := hX.1.2.2
  have hRS := hB.2.2.2.2.2.2.1
  obtain ⟨b, sz, N, hsz, hTB, hb, h13, hN, hN1, hN2, hw⟩ := tape_b hRS
  have a18 : Ag (fun o p => o = 0 ∧ p = 44) m (sI m 0 44 (-1)) := Ag.put ⟨rfl, rfl⟩
  have hw' : ∀ i, i < 129 → gI (sI m 0 44 (-1)) 8 i = nI (wL.getD i 0) := fun i hi => by rw [a18.at _ _ (by omega)]; exact hw i hi
  have hb' : ∀ j, j < sz → b j < 256 ∧ gI (sI m 0 44 (-1)) 12 j = i2b (nI (b j)) := fun j hj => ⟨(hb j hj).1, by rw [a18.at _ _ (by omega)]; exact (hb j hj).2⟩
  have h13' : gI (sI m 0 44 (-1)) 0 13 = nI sz := by rw [a18.at _ _ (by omega)]; exact h13
  unfold wz_orders
  refine s_compile (o := true) hTB hN hN1 hN2 (fun e he x1 ax e8 => ?_) (fun cl hcl h12 x1 i l s u hC hi => ?_)
  · refine s_refused (Or.inr (Or.inr (Or.inr (Or.inr rfl)))) ?_
    unfold w_M_orders
    intro σ18 e18
    subst e18
    refine s_readsAs (o := true) hw' hb' hsz h13' hN hN1 hN2 (fun e' he' _ m1 am m13 m14 => ⟨fun w => absurd rfl w, fun _ => s_refuses (Or.inr (Or.inr (Or.inr (Or.inr rfl)))) ⟨rfl, ?_, fun c => ax.r 2 c⟩⟩) (fun cl' hcl' => ?_)
    · rw [he] at he'
      cases he'
      obtain ⟨hM1, hB1⟩ := INB.rd (m' := m1) (x' := sI (sI x1 20 1 0) 60 6 (-1)) hM hB ((a18.mono (fun o p w => Or.inr w)).trans (am.mono (fun o p w => Or.inl w))) (cp2_of ax) m13 (by rw [gI_sI, if_neg (by omega), gI_same]) (by rw [gI_sI, if_neg (by omega), gI_sI, if_neg (by omega), e8, m14]) (by rw [gI_same, am.at _ _ (by unfold rdA spP; omega), gI_same])
      exact hB1.ref hM1 (Or.inr (Or.inr (Or.inr (Or.inr rfl))))
    · rw [he] at hcl'; cases hcl'
  · have ax := hC.1
    have hs := hC.2.1.2.2.2.2.2.1
    refine ⟨ax.2.2, s, cl.length, by omega, h12, hC.2.1.2.2.1, hC.2.2.1, fun t hF σ2 e2 => ?_⟩
    have hTx := txt_made (T := T) (t := t) hC h12 (by omega)
    have hOX : ∀ z, z ∈ cl → OrdX z := go_all (tC_0 hN2) tV_0 11 0 0 cl (Nat.zero_le _) (by decide) hcl
    have e2' : σ2 = mkT (sI (sI x1 20 1 0) 60 6 (-1)) t := by rw [e2, mkT_sI hF.1 (by omega) (by omega), mkT_sI hF.1 (by omega) (by omega)]
    have G2 : ∀ a c, 300 ≤ a → gI σ2 a c = gI (mkT x1 t) a c := fun a c w => by rw [e2, gI_sI, if_neg (by omega), gI_sI, if_neg (by omega)]
    have hTO : TO σ2 (adT T t s (6 * cl.length)) t s (6 * cl.length) u cl := by
      refine ⟨hF.1, by unfold adT; rw [if_pos rfl], hTx.1.g hF.1 G2, ?_, hTx.2.2.1, fun z hz => ⟨hTx.2.2.2 z hz, hOX z hz⟩⟩
      rw [G2 _ _ hF.1]; exact hTx.2.1
    -- what the model has when it has read the text
    have rd : ∀ m1, Ag rdA (sI m 0 44 (-1)) m1 → gI m1 0 13 = 0 → gI m1 0 14 = -1 → MS m1 K L ∧ INB (adT T t s (6 * cl.length)) m1 σ2 n (n + 1) K L d := by
      intro m1 am m13 m14
      obtain ⟨hM1, hB1⟩ := INB.rd (m' := m1) (x' := sI (sI x1 20 1 0) 60 6 (-1)) hM hB ((a18.mono (fun o p w => Or.inr w)).trans (am.mono (fun o p w => Or.inl w))) (cp2_of ax) m13 (by rw [gI_sI, if_neg (by omega), gI_same]) (by rw [gI_sI, if_neg (by omega), gI_sI, if_neg (by omega), hC.2.2.2.1, m14]) (by rw [gI_same, am.at _ _ (by unfold rdA spP; omega), gI_same])
      rw [e2']
      exact ⟨hM1, (hB1.mk hF).tle (adT_le hF.no)⟩
    have axx := cp2_of ax
    have r2 : ∀ c, gR σ2 2 c = gR x 2 c := fun c => by rw [e2]; exact ax.r 2 c
    have hX2 : XS σ2 (adT T t s (6 * cl.length)) K L := by
      rw [e2']; exact ((hX.lo axx (fun o k w => by unfold cp2 cpQ at w; omega)).mk hF).tle (adT_le hF.no)
    have d2 : gI σ2 208 0 = nI d := by rw [e2', mkT_lo hF (by omega), axx.i _ _ (by unfold cp2 cpQ; omega)]; exact hB.2.2.1
    refine s_runWholly hX2 d2 hB.2.2.2.1 hB.2.2.2.2.1 hB.2.2.2.2.2.1 hTO (fun y' hy x3 hOt => ?_) (fun w n' hy hw3 x3 y' hOt => ?_)
    · have bnd : y'.2.2.1 ≤ 0 + 20 * cl.length := all_b cl 0 _ y' hOX hy
      refine ⟨fun _ => s_granted ?_, fun z => absurd (nI_pos' (by omega)) z⟩
      refine s_Morders hM hB.2.1 hB.2.2.2.1 hB.2.2.2.2.1 hB.2.2.2.2.2.1 hw hb hsz h13 hN hN1 hN2 hcl (fun y2 hy2 m1 m2 am m13 m14 gi q1 q2 q3 q4 q5 => ?_) (fun w n' hy2 => ?_)
      · rw [hy] at hy2
        cases hy2
        obtain ⟨hM1, hB1⟩ := rd m1 am m13 m14
        refine ⟨rfl, INB.good q1.z ((hB1.od (gi.mono (fun o p w => Or.inl w)) (hOt.1.mono (fun o p w => Or.inl w) (fun _ w => w)) hOt.2.1 q2 hOt.2.2.1 q3 q4 q5 ?_).mono (Nat.le_refl _) (by omega)) hn, fun c => (hOt.1.r 2 c).trans (r2 c)⟩
        rw [hOt.1.i _ _ (by unfold oxQ lwQ xq wrP; omega), gi _ _ (by unfold odP orP goP soP qP lgP; omega)]
        exact hB1.2.2.2.2.2.2.1.1.2.2
      · rw [hy] at hy2; cases hy2
    · have hneg : ¬ 0 ≤ w := by rcases hw3 with z | z <;> rw [z] <;> decide
      refine ⟨fun z => absurd z hneg, fun _ => s_refused (by unfold isRef; rcases hw3 with z | z <;> rw [z] <;> decide) ?_⟩
      refine s_Morders hM hB.2.1 hB.2.2.2.1 hB.2.2.2.2.1 hB.2.2.2.2.2.1 hw hb hsz h13 hN hN1 hN2 hcl (fun y2 hy2 => ?_) (fun w2 n2 hy2 _ m1 m2 am m13 m14 gi q1 q2 q3 => ?_)
      · rw [hy] at hy2; cases hy2
      · rw [hy] at hy2
        cases hy2
        obtain ⟨hM1, hB1⟩ := rd m1 am m13 m14
        obtain ⟨o1, o2, o3, o4, o5, o6, ⟨P, hP⟩, o8, o9⟩ := hOt
        rw [hP] at o2
        have c2 : XS (sI (sI x3 200 8 (nI L.length)) 208 0 (nI d)) (adT T t s (6 * cl.length)) K L := o2.cut.day
        have b3 : AgX (fun o p => o = 60 ∧ p = 6) noL (sI (sI x3 200 8 (nI L.length)) 208 0 (nI d)) (sI (sI (sI x3 200 8 (nI L.length)) 208 0 (nI d)) 60 6 (nI n')) := AgX.put ⟨rfl, rfl⟩
        have o1' : AgX oxS oxL σ2 x3 := o1.mono (fun o p w => Or.inl w) (fun _ w => w)
        refine ⟨rfl, (hB1.od gi (((o1'.set (Or.inl (Or.inr (Or.inl (Or.inr ⟨rfl, rfl⟩))))).set (Or.inl (Or.inr (Or.inr (Or.inl ⟨rfl, rfl⟩))))).set (Or.inr ⟨rfl, rfl⟩)) (c2.lo b3 (by omega)) q2 ?_ hB.2.2.2.1 hB.2.2.2.2.1 hB.2.2.2.2.2.1 ?_).ref q1 (by unfold isRef; rcases hw3 with z | z <;> rw [z] <;> decide), fun c => (o1.r 2 c).trans (r2 c)⟩
        · rw [gI_sI, if_neg (by omega), gI_same]
        · rw [gI_same, q3]
end OD
