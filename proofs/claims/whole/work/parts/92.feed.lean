/-! ===== both told: bytes and rows ===== -/
/-- the j-th byte of a number, the highest first -/
def byt (a : Int32) (j : Nat) : Nat := (a.toBitVec.toNat / 2 ^ (24 - 8 * j)) % 256
theorem byt_lt (a : Int32) (j : Nat) : byt a j < 256 := Nat.mod_lt _ (by decide)
theorem byt_x {a : Int32} {j : Nat} (hj : j < 4) : jushr a (nI (24 - 8 * j)) &&& 255 = nI (byt a j) := by
  have e : jushr a (nI (24 - 8 * j)) = nI (a.toBitVec.toNat / 2 ^ (24 - 8 * j)) := by
    apply Int32.toBitVec_inj.1
    apply BitVec.eq_of_toNat_eq
    have hj4 : j = 0 ∨ j = 1 ∨ j = 2 ∨ j = 3 := by omega
    have hl := a.toBitVec.isLt
    rcases hj4 with z | z | z | z <;> subst z
    · show (a.toBitVec >>> (24 : BitVec 32)).toNat = (BitVec.ofNat 32 (a.toBitVec.toNat / 2 ^ 24)).toNat
      rw [BitVec.toNat_ofNat]
      show (a.toBitVec.toNat >>> 24) = _
      rw [Nat.shiftRight_eq_div_pow]; omega
    · show (a.toBitVec >>> (16 : BitVec 32)).toNat = (BitVec.ofNat 32 (a.toBitVec.toNat / 2 ^ 16)).toNat
      rw [BitVec.toNat_ofNat]
      show (a.toBitVec.toNat >>> 16) = _
      rw [Nat.shiftRight_eq_div_pow]; omega
    · show (a.toBitVec >>> (8 : BitVec 32)).toNat = (BitVec.ofNat 32 (a.toBitVec.toNat / 2 ^ 8)).toNat
      rw [BitVec.toNat_ofNat]
      show (a.toBitVec.toNat >>> 8) = _
      rw [Nat.shiftRight_eq_div_pow]; omega
    · show (a.toBitVec >>> (0 : BitVec 32)).toNat = (BitVec.ofNat 32 (a.toBitVec.toNat / 2 ^ 0)).toNat
      rw [BitVec.toNat_ofNat]
      show (a.toBitVec.toNat >>> 0) = _
      rw [Nat.shiftRight_eq_div_pow]; omega
  have hl := a.toBitVec.isLt
  rw [e, pk_andN (Nat.lt_of_le_of_lt (Nat.div_le_self _ _) hl) 8 (by decide)]
  rfl
/-- a byte as it is kept -/
theorem i2b_e (y : Int32) : i2b y = i2b (nI (y.toBitVec.toNat % 256)) := by
  unfold i2b
  congr 1
  apply Int8.toBitVec_inj.1
  show y.toBitVec.signExtend 8 = (BitVec.ofNat 32 (y.toBitVec.toNat % 256)).signExtend 8
  rw [BitVec.signExtend_eq_setWidth_of_le _ (by decide), BitVec.signExtend_eq_setWidth_of_le _ (by decide)]
  apply BitVec.eq_of_toNat_eq
  rw [BitVec.toNat_setWidth, BitVec.toNat_setWidth, BitVec.toNat_ofNat]
  omega
theorem byt_m {a : Int32} {j : Nat} (hj : j < 4) : i2b (jshr a (nI (24 - 8 * j))) = i2b (nI (byt a j)) := by
  rw [i2b_e]
  congr 2
  unfold byt
  have hj4 : j = 0 ∨ j = 1 ∨ j = 2 ∨ j = 3 := by omega
  have key : ∀ s : Nat, s ≤ 24 → (a.toBitVec.sshiftRight s).toNat % 256 = a.toBitVec.toNat / 2 ^ s % 256 := by
    intro s hs
    apply Nat.eq_of_testBit_eq
    intro i
    rw [show (256 : Nat) = 2 ^ 8 from rfl, Nat.testBit_mod_two_pow, Nat.testBit_mod_two_pow]
    by_cases hi : i < 8
    · rw [Nat.testBit_div_two_pow]
      have : (a.toBitVec.sshiftRight s).toNat.testBit i = (a.toBitVec.sshiftRight s).getLsbD i := rfl
      rw [this, BitVec.getLsbD_sshiftRight]
      have h1 : s + i < 32 := by omega
      have h2 : ¬ 32 ≤ i := by omega
      simp [h1, h2, hi, BitVec.getLsbD]
      congr 1; omega
    · simp [hi]
  rcases hj4 with z | z | z | z <;> subst z
  · exact key 24 (by decide)
  · exact key 16 (by decide)
  · exact key 8 (by decide)
  · exact key 0 (by decide)
theorem nar_i2b (y : Int32) : vp_nar .byte (i2b y) = i2b y := by
  rw [i2b_e]
  exact co_dec (N := 256) (P := fun k => vp_nar .byte (i2b (nI k)) = i2b (nI k)) (by decide +kernel) (Nat.mod_lt _ (by decide))
section CF
variable {m x m' x' σ τ : DD} {T : TXT} {n G : Nat} {K K' : Nat → Int32} {L L' : List RD} {d d' : Nat}
theorem s_Tadd {a : Int32} {sz : Nat} {post : DD → Prop} (h1 : gI σ 20 1 = nI sz) (hsz : sz + 4 ≤ 400) (k : ∀ τ, AgX (fun o p => (o = 20 ∧ p = 1) ∨ (o = 21 ∧ sz ≤ p)) (fun _ => False) σ τ → gI τ 20 1 = nI (sz + 4) → (∀ j, j < 4 → gI τ 21 (sz + j) = nI (byt a j)) → post τ) : w_Tape_add T σ a post := by
  unfold w_Tape_add w_Tape_add_l3
  refine LoopN (fun c y => ∃ i, c = 4 - i ∧ i ≤ 4 ∧ AgX (fun o p => (o = 20 ∧ p = 1) ∨ (o = 21 ∧ sz ≤ p)) (fun _ => False) σ y.1 ∧ y.2 = (if i = 4 then -8 else nI (24 - 8 * i)) ∧ gI y.1 20 1 = nI (sz + i) ∧ ∀ j, j < i → gI y.1 21 (sz + j) = nI (byt a j)) ?_ (n := 4) ⟨0, rfl, Nat.zero_le _, AgX.refl σ, rfl, h1, by omega⟩
  rintro c ⟨υ, a2⟩ KK ⟨i, hc, hi, ag, e2, e1, hz⟩ ih
  simp only [] at ag e2 e1 hz ⊢
  subst e2
  unfold w_Tape_add_b3
  by_cases c4 : i = 4
  · rw [if_pos c4]
    refine ⟨fun _ => k υ ag (by rw [e1, c4]) (by rw [c4] at hz; exact hz), fun z => absurd (by decide) z⟩
  · rw [if_neg c4]
    refine ⟨fun z => absurd z (by have := nI_pos' (n := 24 - 8 * i) (by omega); grind), fun _ => ?_⟩
    rw [e1, show (400 : Int32) = nI 400 from rfl, nI_leI (by decide) (by omega), nI_clamp (by omega)]
    refine ⟨fun z => absurd z (by omega), fun _ => ⟨vp_in_nI (by omega) (by decide), fun σ3 e3 σ6 e6 => ?_⟩⟩
    rw [byt_x (by omega)] at e3
    have e31 : gI σ3 20 1 = nI (sz + i) := by rw [e3, gI_sI, if_neg (by omega)]; exact e1
    rw [e31, nI_1] at e6
    refine ih (4 - (i + 1)) _ (by omega) ⟨i + 1, rfl, by omega, ?_, ?_, ?_, ?_⟩
    · rw [e6, e3]; exact (ag.set (by omega)).set (by omega)
    · simp only []
      have hi4 : i = 0 ∨ i = 1 ∨ i = 2 ∨ i = 3 := by omega
      rcases hi4 with z | z | z | z <;> subst z <;> decide
    · rw [e6]; simp only []; rw [gI_same]; rfl
    · intro j hj
      rw [e6, e3]
      simp only []
      rw [gI_sI, if_neg (by omega), gI_sI]
      by_cases hji : j = i
      · rw [if_pos ⟨rfl, by omega⟩, hji]
      · rw [if_neg (by omega)]; exact hz j (by omega)
def fivB (a1 a2 a3 a4 a5 : Int32) (k : Nat) : Nat := byt (if k / 4 = 0 then a1 else if k / 4 = 1 then a2 else if k / 4 = 2 then a3 else if k / 4 = 3 then a4 else a5) (k % 4)
theorem s_Mfeed {a1 a2 a3 a4 a5 : Int32} {sz : Nat} {post : Int32 → DD → Prop} (h1 : gI σ 0 13 = nI sz) (hsz : sz + 20 ≤ 400) (h13 : gI σ 13 0 = a1 ∧ gI σ 13 1 = a2 ∧ gI σ 13 2 = a3 ∧ gI σ 13 3 = a4 ∧ gI σ 13 4 = a5) (k : ∀ τ, Ag (fun o p => (o = 0 ∧ p = 13) ∨ (o = 12 ∧ sz ≤ p)) σ τ → gI τ 0 13 = nI (sz + 20) → (∀ j, j < 20 → gI τ 12 (sz + j) = i2b (nI (fivB a1 a2 a3 a4 a5 j))) → post (nI (sz + 20)) τ) : w_M_feed_l55 post σ 0 := by
  unfold w_M_feed_l55
  refine LoopN (fun c y => ∃ i, c = 20 - i ∧ i ≤ 20 ∧ Ag (fun o p => (o = 12 ∧ sz ≤ p)) σ y.1 ∧ y.2 = nI i ∧ ∀ j, j < i → gI y.1 12 (sz + j) = i2b (nI (fivB a1 a2 a3 a4 a5 j))) ?_ (n := 20) ⟨0, rfl, Nat.zero_le _, Ag.refl σ, rfl, by omega⟩
  rintro c ⟨υ, a6⟩ KK ⟨i, hc, hi, ag, e2, hz⟩ ih
  simp only [] at ag e2 hz ⊢
  subst e2
  unfold w_M_feed_b55
  rw [show (20 : Int32) = nI 20 from rfl, nI_leI (by decide) (by omega)]
  have e13 : gI υ 0 13 = nI sz := by rw [ag.at _ _ (by omega)]; exact h1
  rw [e13, nI_add, nI_add]
  refine ⟨fun q σ2 e2 => ?_, fun q => ?_⟩
  · have : i = 20 := by omega
    subst this
    have e : gI σ2 0 13 = nI (sz + 20) := by rw [e2, gI_same]
    rw [e]
    refine k σ2 ?_ e ?_
    · rw [e2]; exact (ag.mono (fun o p z => Or.inr z)).set (Or.inl ⟨rfl, rfl⟩)
    · intro j hj
      rw [e2, gI_sI, if_neg (by omega)]; exact hz j hj
  · have ed : nI i / 4 = nI (i / 4) := co_dec (N := 20) (P := fun k => nI k / 4 = nI (k / 4)) (by decide +kernel) (by omega)
    have er : jrem (nI i) 4 = nI (i % 4) := co_dec (N := 20) (P := fun k => jrem (nI k) 4 = nI (k % 4)) (by decide +kernel) (by omega)
    have es : (24 : Int32) - (8 * nI (i % 4)) = nI (24 - 8 * (i % 4)) := co_dec (N := 4) (P := fun k => (24 : Int32) - (8 * nI k) = nI (24 - 8 * k)) (by decide +kernel) (Nat.mod_lt _ (by decide))
    rw [ed, er, es, nI_clamp (by omega), nI_clamp (by omega), nar_i2b, byt_m (Nat.mod_lt _ (by decide)), nI_1]
    refine ⟨vp_in_nI (by omega) (by decide), vp_in_nI (by omega) (by decide), fun σ5 e5 => ?_⟩
    refine ih (20 - (i + 1)) _ (by omega) ⟨i + 1, rfl, by omega, ?_, rfl, ?_⟩
    · rw [e5]; exact ag.set (by omega)
    · intro j hj
      rw [e5]
      simp only []
      rw [gI_sI]
      by_cases hji : j = i
      · rw [if_pos ⟨rfl, by omega⟩, hji]
        unfold fivB
        congr 3
        have h5 : i / 4 = 0 ∨ i / 4 = 1 ∨ i / 4 = 2 ∨ i / 4 = 3 ∨ i / 4 = 4 := by omega
        rcases h5 with z | z | z | z | z <;> rw [z] <;> rw [ag.at _ _ (by omega)]
        · exact h13.1
        · exact h13.2.1
        · exact h13.2.2.1
        · exact h13.2.2.2.1
        · exact h13.2.2.2.2
      · rw [if_neg (by omega)]; exact hz j (by omega)
theorem p_feed {a1 a2 a3 a4 a5 : Int32} (h : INV T m x n) : w_Face_feed T x a1 a2 a3 a4 a5 (fun r x' => w_M_feed m a1 a2 a3 a4 a5 (fun r' m' => r = r' ∧ INV T m' x' n)) := by
  have hh := h
  obtain ⟨K, L, d, -, -, -, -, -, -, -, h6, -⟩ := hh
  obtain ⟨-, -, ⟨sz, t1, t2, t3, t4⟩, -, -, -⟩ := h6
  unfold w_Face_feed
  rw [t2, show (380 : Int32) = nI 380 from rfl, nI_leI (by omega) (by decide)]
  have eM : (gI m 0 13 + 20 ≤ 400) ↔ sz ≤ 380 := by
    rw [t3, show (20 : Int32) = nI 20 from rfl, show (400 : Int32) = nI 400 from rfl, nI_add, nI_leI (by omega) (by decide)]; omega
  refine ⟨fun q => ?_, fun q => ?_⟩
  · refine s_Tadd t2 (by omega) ?_
    intro x1 ax1 s1 b1
    refine s_Tadd s1 (by omega) ?_
    intro x2 ax2 s2 b2
    refine s_Tadd s2 (by omega) ?_
    intro x3 ax3 s3 b3
    refine s_Tadd s3 (by omega) ?_
    intro x4 ax4 s4 b4
    refine s_Tadd s4 (by omega) ?_
    intro x5 ax5 s5 b5
    rw [s5]
    unfold w_M_feed
    rw [eM]
    refine ⟨fun _ σ9 e9 σ11 e11 σ13 e13 σ15 e15 σ17 e17 => ?_, fun z => absurd q z⟩
    have ag0 : Ag (fun o _ => o = 13) m σ17 := by
      rw [e17, e15, e13, e11, e9]
      exact ((((Ag.put (by omega)).set (by omega)).set (by omega)).set (by omega)).set (by omega)
    refine s_Mfeed (a1 := a1) (a2 := a2) (a3 := a3) (a4 := a4) (a5 := a5) (sz := sz) (by rw [ag0.at _ _ (by omega)]; exact t3) (by omega) ?_ ?_
    · rw [e17, e15, e13, e11, e9]
      refine ⟨?_, ?_, ?_, ?_, ?_⟩
      · rw [gI_sI, if_neg (by omega), gI_sI, if_neg (by omega), gI_sI, if_neg (by omega), gI_sI, if_neg (by omega), gI_same]
      · rw [gI_sI, if_neg (by omega), gI_sI, if_neg (by omega), gI_sI, if_neg (by omega), gI_same]
      · rw [gI_sI, if_neg (by omega), gI_sI, if_neg (by omega), gI_same]
      · rw [gI_sI, if_neg (by omega), gI_same]
      · rw [gI_same]
    · intro m1 ag1 u1 u2
      refine ⟨rfl, ?_⟩
      have mo : ∀ s, sz ≤ s → ∀ o p, ((o = 20 ∧ p = 1) ∨ (o = 21 ∧ s ≤ p)) → ((o = 20 ∧ p = 1) ∨ (o = 21 ∧ sz ≤ p)) := fun s hs o p z => by omega
      have ax : AgX (fun o p => (o = 20 ∧ p = 1) ∨ (o = 21 ∧ sz ≤ p)) (fun _ => False) x x5 := ax1.trans ((ax2.mono (mo _ (by omega)) (fun _ z => z)).trans ((ax3.mono (mo _ (by omega)) (fun _ z => z)).trans ((ax4.mono (mo _ (by omega)) (fun _ z => z)).trans (ax5.mono (mo _ (by omega)) (fun _ z => z)))))
      have ag : Ag (fun o p => (o = 0 ∧ p = 13) ∨ o = 13 ∨ (o = 12 ∧ sz ≤ p)) m m1 := (ag0.mono (fun o p z => by omega)).trans (ag1.mono (fun o p z => by omega))
      refine h.tp ag (by omega) ax (by omega) ⟨sz + 20, by omega, by rw [s5], u1, fun i hi => ?_⟩
      by_cases hi2 : i < sz
      · rw [ax.i _ _ (by omega), ag.at _ _ (by omega)]; exact t4 i hi2
      · obtain ⟨j, ej⟩ : ∃ j, i = sz + j := ⟨i - sz, by omega⟩
        subst ej
        refine ⟨fivB a1 a2 a3 a4 a5 j, byt_lt _ _, ?_, u2 j (by omega)⟩
        have hj5 : ∃ k, k < 4 ∧ (j = k ∨ j = 4 + k ∨ j = 8 + k ∨ j = 12 + k ∨ j = 16 + k) := ⟨j % 4, Nat.mod_lt _ (by decide), by omega⟩
        obtain ⟨k, hk, c⟩ := hj5
        have hm : j % 4 = k := by omega
        unfold fivB
        rw [hm]
        rcases c with c | c | c | c | c
        · have : j / 4 = 0 := by omega
          rw [this, if_pos rfl, ax5.i _ _ (by omega), ax4.i _ _ (by omega), ax3.i _ _ (by omega), ax2.i _ _ (by omega), c]
          exact b1 k hk
        · have : j / 4 = 1 := by omega
          rw [this, if_neg (by omega), if_pos rfl, ax5.i _ _ (by omega), ax4.i _ _ (by omega), ax3.i _ _ (by omega), c, ← Nat.add_assoc]
          exact b2 k hk
        · have : j / 4 = 2 := by omega
          rw [this, if_neg (by omega), if_neg (by omega), if_pos rfl, ax5.i _ _ (by omega), ax4.i _ _ (by omega), c, show sz + (8 + k) = sz + 4 + 4 + k from by omega]
          exact b3 k hk
        · have : j / 4 = 3 := by omega
          rw [this, if_neg (by omega), if_neg (by omega), if_neg (by omega), if_pos rfl, ax5.i _ _ (by omega), c, show sz + (12 + k) = sz + 4 + 4 + 4 + k from by omega]
          exact b4 k hk
        · have : j / 4 = 4 := by omega
          rw [this, if_neg (by omega), if_neg (by omega), if_neg (by omega), if_neg (by omega), c, show sz + (16 + k) = sz + 4 + 4 + 4 + 4 + k from by omega]
          exact b5 k hk
  · unfold w_M_feed
    rw [eM]
    exact ⟨fun z => absurd z q, fun _ => ⟨rfl, h⟩⟩
end CF
