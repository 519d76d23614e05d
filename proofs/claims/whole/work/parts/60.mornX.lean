/-! ===== the class plans mornings ===== -/
theorem bits_lsb (p : Nat → Bool) {n : Nat} (hn : n ≤ 16) (i : Nat) : (bits p n).toBitVec.getLsbD i = (decide (i < n) && p i) := by
  rw [bits_N p n hn]
  show (BitVec.ofNat 32 (bitsN p n)).getLsbD i = _
  rw [BitVec.getLsbD_ofNat, bitsN_tb]
  by_cases h : i < n
  · simp [h, show i < 32 from by omega]
  · simp [h]
theorem bits_diff (p q : Nat → Bool) {n : Nat} (hn : n ≤ 16) : bits p n &&& (bits q n ^^^ (-1)) = bits (fun i => p i && !q i) n := by
  apply Int32.toBitVec_inj.1
  apply BitVec.eq_of_getLsbD_eq
  intro i hi
  rw [bits_lsb _ hn]
  show ((bits p n).toBitVec &&& ((bits q n).toBitVec ^^^ (-1 : Int32).toBitVec)).getLsbD i = _
  have h1 : (-1 : Int32).toBitVec = BitVec.allOnes 32 := by decide
  rw [BitVec.getLsbD_and, BitVec.getLsbD_xor, h1, BitVec.getLsbD_allOnes, bits_lsb _ hn, bits_lsb _ hn]
  by_cases h : i < n
  · simp [h, hi]
  · simp [h]
theorem cntB_cut (p : Nat → Bool) (n : Nat) : ∀ k, cntB (fun j => decide (j < n) && p j) (n + k) = cntB p n := by
  intro k
  induction k with
  | zero =>
    have : ∀ m, m ≤ n → cntB (fun j => decide (j < n) && p j) m = cntB p m := by
      intro m
      induction m with
      | zero => intro _; rfl
      | succ m ih => intro h; unfold cntB; rw [ih (by omega)]; simp [show m < n from by omega]
    exact this n (Nat.le_refl _)
  | succ k ih =>
    show cntB (fun j => decide (j < n) && p j) (n + k) + _ = _
    rw [ih]; simp; intro h; omega
theorem ones_cnt (p : Nat → Bool) {n : Nat} (hn : n ≤ 8) : ones8 (bits p n) = nI (cntB p n) := by
  have hb : ∀ i, i < 8 → jshr (bits p n) (nI i) &&& 1 = bl (decide (i < n) && p i) := fun i hi => bits_bit p (by omega) (by omega)
  have hbl : ∀ b : Bool, bl b = nI (if b then 1 else 0) := fun b => by cases b <;> rfl
  have h0 := hb 0 (by omega)
  have h1 := hb 1 (by omega)
  have h2 := hb 2 (by omega)
  have h3 := hb 3 (by omega)
  have h4 := hb 4 (by omega)
  have h5 := hb 5 (by omega)
  have h6 := hb 6 (by omega)
  have h7 := hb 7 (by omega)
  rw [← cntB_cut p n (8 - n), show n + (8 - n) = 8 from by omega]
  unfold ones8
  rw [show (0 : Int32) = nI 0 from rfl, show (2 : Int32) = nI 2 from rfl, show (3 : Int32) = nI 3 from rfl, show (4 : Int32) = nI 4 from rfl, show (5 : Int32) = nI 5 from rfl, show (6 : Int32) = nI 6 from rfl, show (7 : Int32) = nI 7 from rfl]
  rw [show jshr (bits p n) 1 = jshr (bits p n) (nI 1) from rfl, h0, h1, h2, h3, h4, h5, h6, h7]
  simp only [hbl, nI_add]
  rfl
theorem cntB_le {p : Nat → Bool} : ∀ n, cntB p n ≤ n := by
  intro n
  induction n with
  | zero => exact Nat.le_refl _
  | succ n ih => unfold cntB; split <;> omega
theorem cntB_1 {p q : Nat → Bool} {a : Nat} (h : ∀ i, i ≠ a → p i = q i) : ∀ n, cntB p n ≤ cntB q n + (if a < n then 1 else 0) := by
  intro n
  induction n with
  | zero => simp [cntB]
  | succ n ih =>
    unfold cntB
    by_cases hn : n = a
    · subst hn
      simp only [Nat.lt_irrefl, if_false] at ih
      simp only [Nat.lt_succ_self, if_true]
      split <;> split <;> omega
    · rw [h n hn]
      by_cases ha : a < n
      · have e : (if a < n + 1 then 1 else 0) = (1 : Nat) := if_pos (by omega)
        rw [if_pos ha] at ih; rw [e]; omega
      · have e : (if a < n + 1 then 1 else 0) = (0 : Nat) := if_neg (by omega)
        rw [if_neg ha] at ih; rw [e]; omega
theorem cntB_0 {p : Nat → Bool} : ∀ n, (∀ i, i < n → p i = false) → cntB p n = 0 := by
  intro n
  induction n with
  | zero => intro _; rfl
  | succ n ih => intro h; unfold cntB; rw [ih (fun i hi => h i (by omega)), h n (by omega)]; rfl
theorem cntB_pos {p : Nat → Bool} : ∀ n, cntB p n = 0 → ∀ i, i < n → p i = false := by
  intro n
  induction n with
  | zero => intro _ i hi; omega
  | succ n ih =>
    intro h i hi
    unfold cntB at h
    by_cases hin : i = n
    · subst hin; cases hp : p i with
      | false => rfl
      | true => rw [hp] at h; simp at h
    · exact ih (by omega) i (by omega)
section MX
variable (n N t0 : Nat) (op : Nat → Nat → Bool) (la : Nat → Nat → Nat) (nd : Nat → Option Nat) (mi th ne : Nat → Bool)
theorem vR_len (hN : N ≤ 100) : ∀ m k U row, row ∈ vR n N t0 op la nd mi th m k U → row.length = m ∧ cntR row ≤ m ∧ cntB (wrg n t0 mi th U) N ≤ cntR row := by
  intro m
  induction m with
  | zero =>
    intro k U row h
    unfold vR at h
    split at h
    · rename_i hg
      simp at h
      subst h
      refine ⟨rfl, Nat.le_refl _, ?_⟩
      rw [cntB_0]
      · exact Nat.le_refl _
      · intro i hi
        unfold goalR at hg
        rw [List.all_eq_true] at hg
        have := hg i (List.mem_range.2 hi)
        unfold wrg
        revert this
        generalize hE n t0 U i = x
        generalize mi i = y
        generalize th i = z
        cases x <;> cases y <;> cases z <;> simp
    · simp at h
  | succ m ih =>
    intro k U row h
    rw [vR_S, List.mem_append] at h
    rcases h with w | w
    · unfold vS at w
      rw [List.mem_flatMap] at w
      obtain ⟨a, ha, w⟩ := w
      split at w
      · rw [List.mem_map] at w
        obtain ⟨row', w1, w2⟩ := w
        have hi := ih _ _ _ w1
        subst w2
        have hc := cntB_1 (a := a) (p := wrg n t0 mi th U) (q := wrg n t0 mi th (upU U a (t0 + k + la k a))) (by
          intro i hia
          unfold wrg hE upU
          rw [if_neg hia]) N
        rw [List.mem_range] at ha
        rw [cntR_a (by omega)]
        refine ⟨by simp [hi.1], by omega, ?_⟩
        split at hc <;> omega
      · simp at w
    · rw [List.mem_map] at w
      obtain ⟨row', w1, w2⟩ := w
      have hi := ih _ _ _ w1
      subst w2
      rw [cntR_100]
      exact ⟨by simp [hi.1], by omega, hi.2.2⟩
end MX
