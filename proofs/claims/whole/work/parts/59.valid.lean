/-! ===== which numbers are whose; what a call leaves alone ===== -/
def actB (K : Nat → Int32) (x : Int32) : Bool := decide (0 ≤ x ∧ x < nI (nA K))
def rdrB (K : Nat → Int32) (x : Int32) : Bool := decide (0 ≤ x ∧ x < nI (nR K))
def actsB (K : Nat → Int32) (x : Int32) : Bool := decide (0 ≤ x ∧ x < nI (2 ^ nA K))
def inB (x lo hi : Int32) : Bool := decide (lo ≤ x ∧ x ≤ hi)
section VA
variable {σ τ : DD} {T : TXT} {K : Nat → Int32}
theorem s_lies {x lo hi : Int32} {post : Int32 → DD → Prop} (k : post (bl (inB x lo hi)) σ) : w_M_lies σ x lo hi post := by
  unfold w_M_lies
  unfold inB at k
  refine ⟨fun q => ?_, fun q => ⟨fun q2 => ?_, fun q2 => ?_⟩⟩
  · rw [decide_eq_false (by grind)] at k; exact k
  · rw [decide_eq_false (by grind)] at k; exact k
  · rw [decide_eq_true (by grind)] at k; exact k
theorem lt_pred {x : Int32} {n : Nat} (hn : n < 2 ^ 31) : (0 ≤ x ∧ x ≤ nI n - 1) ↔ (0 ≤ x ∧ x < nI n) := by
  cases n with
  | zero =>
    have e1 : nI 0 - 1 = -1 := by decide
    have e2 : nI 0 = 0 := rfl
    rw [e1, e2]
    constructor <;> intro h <;> exfalso <;> grind
  | succ n =>
    rw [nI_pred]
    constructor
    · rintro ⟨h1, h2⟩
      refine ⟨h1, ?_⟩
      obtain ⟨e, h3⟩ := nI_toN h1
      rw [e, nI_leI h3 (by omega)] at h2
      rw [e, nI_ltI h3 (by omega)]; omega
    · rintro ⟨h1, h2⟩
      refine ⟨h1, ?_⟩
      obtain ⟨e, h3⟩ := nI_toN h1
      rw [e, nI_ltI h3 (by omega)] at h2
      rw [e, nI_leI h3 (by omega)]; omega
theorem s_isAct {x : Int32} {post : Int32 → DD → Prop} (hK : MK σ K) (hI : KI K) (k : post (bl (actB K x)) σ) : w_M_isAct σ x post := by
  have ha8 := hI.a
  unfold w_M_isAct
  refine s_lies ⟨bl_z _, ?_⟩
  have e : inB x 0 (gI σ 4 399 - 1) = actB K x := by
    unfold inB actB
    rw [hK 399 (by unfold dyn; omega), ha8.1]
    exact decide_eq_decide.2 (lt_pred (by omega))
  rw [e]; exact k
theorem s_isReader {x : Int32} {post : Int32 → DD → Prop} (hK : MK σ K) (hI : KI K) (k : post (bl (rdrB K x)) σ) : w_M_isReader σ x post := by
  have ha8 := hI.r
  unfold w_M_isReader
  refine s_lies ⟨bl_z _, ?_⟩
  have e : inB x 0 (gI σ 4 400 - 1) = rdrB K x := by
    unfold inB rdrB
    rw [hK 400 (by unfold dyn; omega), ha8.1]
    exact decide_eq_decide.2 (lt_pred (by omega))
  rw [e]; exact k
theorem pow8 {n : Nat} (h : n ≤ 8) : 2 ^ n ≤ 256 := Nat.pow_le_pow_right (n := 2) (i := n) (j := 8) (by decide) h
theorem s_areActs {x : Int32} {post : Int32 → DD → Prop} (hK : MK σ K) (hI : KI K) (k : post (bl (actsB K x)) σ) : w_M_areActs σ x post := by
  have ha8 := hI.a
  have := pow8 ha8.2
  unfold w_M_areActs
  refine s_lies ⟨bl_z _, ?_⟩
  have e : inB x 0 (jshl 1 (gI σ 4 399) - 1) = actsB K x := by
    unfold inB actsB
    rw [hK 399 (by unfold dyn; omega), ha8.1, jshl_1 (by omega)]
    exact decide_eq_decide.2 (lt_pred (by omega))
  rw [e]; exact k
theorem s_XisAct {x : Int32} {post : Int32 → DD → Prop} (hR : RXs σ 200 T K) (hI : KI K) (k : post (bl (actB K x)) σ) : w_Real_isAct T σ x post := by
  unfold w_Real_isAct
  rw [hR.na, hI.a.1]
  unfold actB at k
  refine ⟨fun q => ?_, fun q => ⟨fun q2 => ?_, fun q2 => ?_⟩⟩
  · rw [decide_eq_false (by grind)] at k; exact k
  · rw [decide_eq_false (by grind)] at k; exact k
  · rw [decide_eq_true (by grind)] at k; exact k
theorem s_XisReader {x : Int32} {post : Int32 → DD → Prop} (hR : RXs σ 200 T K) (hI : KI K) (k : post (bl (rdrB K x)) σ) : w_Real_isReader T σ x post := by
  unfold w_Real_isReader
  rw [hR.nr, hI.r.1]
  unfold rdrB at k
  refine ⟨fun q => ?_, fun q => ⟨fun q2 => ?_, fun q2 => ?_⟩⟩
  · rw [decide_eq_false (by grind)] at k; exact k
  · rw [decide_eq_false (by grind)] at k; exact k
  · rw [decide_eq_true (by grind)] at k; exact k
theorem s_XareActs {x : Int32} {post : Int32 → DD → Prop} (hR : RXs σ 200 T K) (hI : KI K) (k : post (bl (actsB K x)) σ) : w_Real_areActs T σ x post := by
  have ha8 := hI.a
  unfold w_Real_areActs
  rw [hR.na, ha8.1, jshl_1 (by omega)]
  unfold actsB at k
  refine ⟨fun q => ?_, fun q => ⟨fun q2 => ?_, fun q2 => ?_⟩⟩
  · rw [decide_eq_false (by grind)] at k; exact k
  · rw [decide_eq_false (by grind)] at k; exact k
  · rw [decide_eq_true (by grind)] at k; exact k
theorem nI_ltE {x : Int32} {n : Nat} (h : 0 ≤ x ∧ x < nI n) (hn : n < 2 ^ 31) : ∃ m, m < n ∧ x = nI m := by
  obtain ⟨e, h3⟩ := nI_toN h.1
  refine ⟨_, ?_, e⟩
  have := h.2
  rw [e, nI_ltI h3 hn] at this
  exact this
theorem actB_e (hI : KI K) {x : Int32} (h : actB K x = true) : ∃ a, a < nA K ∧ x = nI a := nI_ltE (of_decide_eq_true h) (by have := hI.a; omega)
theorem rdrB_e (hI : KI K) {x : Int32} (h : rdrB K x = true) : ∃ a, a < nR K ∧ x = nI a := nI_ltE (of_decide_eq_true h) (by have := hI.r; omega)
theorem actsB_e (hI : KI K) {x : Int32} (h : actsB K x = true) : ∃ a, a < 2 ^ nA K ∧ x = nI a := nI_ltE (of_decide_eq_true h) (by have := hI.a; have := pow8 this.2; omega)
/-- a branch on a Bool as a number -/
theorem br0 {b : Bool} {A B : Prop} (h0 : b = false → A) (h1 : b = true → B) : (bl b = 0 → A) ∧ (¬ bl b = 0 → B) := ⟨fun q => h0 (bl_0.1 q), fun q => h1 (bl_n.1 q)⟩
theorem br1 {b : Bool} {A B : Prop} (h1 : b = true → B) (h0 : b = false → A) : (¬ bl b = 0 → B) ∧ (bl b = 0 → A) := ⟨fun q => h1 (bl_n.1 q), fun q => h0 (bl_0.1 q)⟩
/-- what a question leaves alone: the model -/
def pers (o p : Nat) : Prop := o = 3 ∨ o = 40 ∨ o = 5 ∨ o = 6 ∨ o = 8 ∨ o = 12 ∨ o = 54 ∨ o = 55 ∨ (o = 0 ∧ (p = 0 ∨ p = 1 ∨ p = 6 ∨ p = 13 ∨ p = 14 ∨ p = 44 ∨ p = 55)) ∨ (o = 4 ∧ p = 395)
def PM (σ τ : DD) : Prop := ∀ o p, pers o p → gI τ o p = gI σ o p
theorem PM.refl (σ : DD) : PM σ σ := fun _ _ _ => rfl
theorem PM.trans {υ : DD} (h : PM σ τ) (g : PM τ υ) : PM σ υ := fun o p q => (g o p q).trans (h o p q)
theorem PM.ag {P : Nat → Nat → Prop} (a : Ag P σ τ) (h : ∀ o p, P o p → ¬ pers o p) : PM σ τ := fun o p q => a.at o p (fun w => h o p w q)
theorem PM.q (a : Ag qP σ τ) : PM σ τ := PM.ag a (by intro o p; unfold qP pers; omega)
theorem PM.m (a : Ag mP σ τ) : PM σ τ := PM.ag a (by intro o p; unfold mP qP lgP pers; omega)
/-- .. the class: all but where its helpers count -/
def scrX (o _p : Nat) : Prop := (52 ≤ o ∧ o < 60) ∨ (63 ≤ o ∧ o < 66) ∨ (70 ≤ o ∧ o < 110)
def scrL (o : Nat) : Prop := 50 ≤ o ∧ o < 110
theorem xq_scr {o p : Nat} (h : xq o p) : scrX o p := by unfold xq at h; unfold scrX; omega
theorem xl_scr {o : Nat} (h : xl o) : scrL o := by unfold xl at h; unfold scrL; omega
theorem AgX.scr (a : AgX xq xl σ τ) : AgX scrX scrL σ τ := a.mono (fun o p => xq_scr) (fun o => xl_scr)
theorem scr200 {b : Nat} (hb : 200 ≤ b) : ∀ o k, b ≤ o → ¬ scrX o k := by intro o k h; unfold scrX; omega
end VA
