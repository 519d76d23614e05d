/-! ===== bits ===== -/
theorem nI_or (a b : Nat) : nI a ||| nI b = nI (a ||| b) := by
  apply Int32.toBitVec_inj.1
  show BitVec.ofNat 32 a ||| BitVec.ofNat 32 b = BitVec.ofNat 32 (a ||| b)
  rw [BitVec.ofNat_or]
theorem nI_and (a b : Nat) : nI a &&& nI b = nI (a &&& b) := by
  apply Int32.toBitVec_inj.1
  show BitVec.ofNat 32 a &&& BitVec.ofNat 32 b = BitVec.ofNat 32 (a &&& b)
  rw [BitVec.ofNat_and]
theorem sh_amt {k : Nat} (hk : k < 32) : ((nI k &&& 31).toBitVec.smod 32).toNat = k := co_dec (N := 32) (P := fun k => ((nI k &&& 31).toBitVec.smod 32).toNat = k) (by decide +kernel) hk
theorem jshl_n {n k : Nat} (hk : k < 32) (h : n * 2 ^ k < 2 ^ 32) : jshl (nI n) (nI k) = nI (n * 2 ^ k) := pk_shlN _ k (sh_amt hk) h
theorem jshr_n {n k : Nat} (hk : k < 32) (h : n < 2 ^ 31) : jshr (nI n) (nI k) = nI (n / 2 ^ k) := pk_shrN h _ k (sh_amt hk)
theorem jshl_1 {k : Nat} (hk : k < 31) : jshl 1 (nI k) = nI (2 ^ k) := by
  have h : 2 ^ k < 2 ^ 32 := Nat.pow_lt_pow_right (by decide) (by omega)
  have := jshl_n (n := 1) (k := k) (by omega) (by omega)
  rw [show (1 : Int32) = nI 1 from rfl, this, Nat.one_mul]
def bitsN (p : Nat → Bool) : Nat → Nat
  | 0 => 0
  | n + 1 => 2 ^ n * (if p n then 1 else 0) + bitsN p n
theorem bitsN_lt (p : Nat → Bool) : ∀ n, bitsN p n < 2 ^ n := by
  intro n
  induction n with
  | zero => exact Nat.zero_lt_one
  | succ n ih => unfold bitsN; rw [Nat.pow_succ]; split <;> omega
theorem bitsN_tb (p : Nat → Bool) (i : Nat) : ∀ n, (bitsN p n).testBit i = (decide (i < n) && p i) := by
  intro n
  induction n with
  | zero => simp [bitsN]
  | succ n ih =>
    unfold bitsN
    have h := bitsN_lt p n
    rw [Nat.testBit_two_pow_mul_add _ h]
    by_cases hin : i < n
    · rw [if_pos hin, ih]; simp [hin, show i < n + 1 from by omega]
    · rw [if_neg hin]
      by_cases he : i = n
      · subst he
        rw [Nat.sub_self]
        cases p i <;> simp
      · have h1 : ¬ i < n + 1 := by omega
        have h2 : i - n ≠ 0 := by omega
        simp only [h1, decide_false, Bool.false_and]
        split
        · rw [show i - n = (i - n - 1) + 1 from by omega, Nat.testBit_succ]; simp
        · simp
theorem bits_N (p : Nat → Bool) : ∀ n, n ≤ 16 → bits p n = nI (bitsN p n) := by
  intro n
  induction n with
  | zero => intro _; rfl
  | succ n ih =>
    intro hn
    have h := bitsN_lt p n
    unfold bits bitsN
    rw [ih (by omega), Nat.two_pow_add_eq_or_of_lt h, Nat.or_comm]
    cases p n with
    | false => simp only [Bool.false_eq_true, if_false, Nat.mul_zero]; rw [show (0 : Int32) = nI 0 from rfl, nI_or]
    | true => simp only [if_true, Nat.mul_one]; rw [jshl_1 (by omega), nI_or]
theorem bits_congr {p q : Nat → Bool} : ∀ n, (∀ i, i < n → p i = q i) → bits p n = bits q n := by
  intro n
  induction n with
  | zero => intro _; rfl
  | succ n ih => intro h; unfold bits; rw [ih (fun i hi => h i (by omega)), h n (by omega)]
theorem bits_and (p q : Nat → Bool) {n : Nat} (hn : n ≤ 16) : bits p n &&& bits q n = bits (fun i => p i && q i) n := by
  rw [bits_N p n hn, bits_N q n hn, bits_N _ n hn, nI_and]
  congr 1
  apply Nat.eq_of_testBit_eq
  intro i
  rw [Nat.testBit_and, bitsN_tb, bitsN_tb, bitsN_tb]
  cases decide (i < n) <;> simp
theorem bits_or (p q : Nat → Bool) {n : Nat} (hn : n ≤ 16) : bits p n ||| bits q n = bits (fun i => p i || q i) n := by
  rw [bits_N p n hn, bits_N q n hn, bits_N _ n hn, nI_or]
  congr 1
  apply Nat.eq_of_testBit_eq
  intro i
  rw [Nat.testBit_or, bitsN_tb, bitsN_tb, bitsN_tb]
  cases decide (i < n) <;> simp
theorem bits_0 (n : Nat) : bits (fun _ => false) n = 0 := by
  induction n with
  | zero => rfl
  | succ n ih => unfold bits; rw [ih, if_neg (by decide)]; decide
theorem bits_bit (p : Nat → Bool) {n i : Nat} (hn : n ≤ 16) (hi : i < 32) : jshr (bits p n) (nI i) &&& 1 = bl (decide (i < n) && p i) := by
  have h := bitsN_lt p n
  have h2 : 2 ^ n ≤ 2 ^ 16 := Nat.pow_le_pow_right (by decide) hn
  rw [bits_N p n hn, jshr_n hi (by omega), pk_andN (by have := Nat.div_le_self (bitsN p n) (2 ^ i); omega) 1 (by decide), ← bitsN_tb]
  rw [Nat.testBit_eq_decide_div_mod_eq]
  have : bitsN p n / 2 ^ i % 2 ^ 1 = 0 ∨ bitsN p n / 2 ^ i % 2 ^ 1 = 1 := by omega
  rcases this with h | h <;> rw [h] <;> rfl
theorem bits_eq0 {p : Nat → Bool} {n : Nat} (hn : n ≤ 16) : bits p n = 0 ↔ ∀ i, i < n → p i = false := by
  have h := bitsN_lt p n
  have h2 : 2 ^ n ≤ 2 ^ 16 := Nat.pow_le_pow_right (by decide) hn
  rw [bits_N p n hn, show (0 : Int32) = nI 0 from rfl, nI_eq (by omega) (by decide)]
  constructor
  · intro hz i hi
    have := bitsN_tb p i n
    rw [hz] at this
    simp [hi] at this
    exact this
  · intro hz
    apply Nat.eq_of_testBit_eq
    intro i
    rw [bitsN_tb, Nat.zero_testBit]
    by_cases hi : i < n
    · simp [hz i hi]
    · simp [hi]
theorem bits_inj {p q : Nat → Bool} {n : Nat} (hn : n ≤ 16) (h : bits p n = bits q n) : ∀ i, i < n → p i = q i := by
  intro i hi
  have a := bits_bit p (i := i) hn (by omega)
  have b := bits_bit q (i := i) hn (by omega)
  rw [h, b] at a
  simp [hi] at a
  revert a
  cases p i <;> cases q i <;> simp [bl]
/-- a set of bits, as it came -/
def bOf (x : Int32) (i : Nat) : Bool := x.toNatClampNeg.testBit i
theorem bits_of {m n : Nat} (hm : m < 2 ^ n) (hn : n ≤ 16) : nI m = bits (bOf (nI m)) n := by
  have h2 : 2 ^ n ≤ 2 ^ 16 := Nat.pow_le_pow_right (by decide) hn
  rw [bits_N _ n hn]
  congr 1
  apply Nat.eq_of_testBit_eq
  intro i
  rw [bitsN_tb]
  unfold bOf
  rw [nI_clamp (by omega)]
  by_cases hi : i < n
  · simp [hi]
  · simp only [hi, decide_false, Bool.false_and]
    exact Nat.testBit_lt_two_pow (Nat.lt_of_lt_of_le hm (Nat.pow_le_pow_right (by decide) (by omega)))
/-- how many bits -/
def cntB (p : Nat → Bool) : Nat → Nat
  | 0 => 0
  | n + 1 => cntB p n + (if p n then 1 else 0)
theorem s_bitCount {T : TXT} {σ : DD} {post : Int32 → DD → Prop} {n : Nat} (hn : n < 256) (k : post (ones8 (nI n)) σ) : w_J6_bitCount_0f7a4 T σ (nI n) post := by
  unfold w_J6_bitCount_0f7a4
  intro v1 e1 v3 e3 v5 e5 v7 e7 v9 e9
  have key : ((((((((nI n - ((jushr (nI n) 1) &&& 1431655765)) &&& 858993459) + ((jushr (nI n - ((jushr (nI n) 1) &&& 1431655765)) 2) &&& 858993459)) + (jushr (((nI n - ((jushr (nI n) 1) &&& 1431655765)) &&& 858993459) + ((jushr (nI n - ((jushr (nI n) 1) &&& 1431655765)) 2) &&& 858993459)) 4)) &&& 252645135) + (jushr (((((nI n - ((jushr (nI n) 1) &&& 1431655765)) &&& 858993459) + ((jushr (nI n - ((jushr (nI n) 1) &&& 1431655765)) 2) &&& 858993459)) + (jushr (((nI n - ((jushr (nI n) 1) &&& 1431655765)) &&& 858993459) + ((jushr (nI n - ((jushr (nI n) 1) &&& 1431655765)) 2) &&& 858993459)) 4)) &&& 252645135) 8)) + (jushr ((((((nI n - ((jushr (nI n) 1) &&& 1431655765)) &&& 858993459) + ((jushr (nI n - ((jushr (nI n) 1) &&& 1431655765)) 2) &&& 858993459)) + (jushr (((nI n - ((jushr (nI n) 1) &&& 1431655765)) &&& 858993459) + ((jushr (nI n - ((jushr (nI n) 1) &&& 1431655765)) 2) &&& 858993459)) 4)) &&& 252645135) + (jushr (((((nI n - ((jushr (nI n) 1) &&& 1431655765)) &&& 858993459) + ((jushr (nI n - ((jushr (nI n) 1) &&& 1431655765)) 2) &&& 858993459)) + (jushr (((nI n - ((jushr (nI n) 1) &&& 1431655765)) &&& 858993459) + ((jushr (nI n - ((jushr (nI n) 1) &&& 1431655765)) 2) &&& 858993459)) 4)) &&& 252645135) 8)) 16)) &&& 63) = ones8 (nI n) := co_dec (N := 256) (P := fun n => ((((((((nI n - ((jushr (nI n) 1) &&& 1431655765)) &&& 858993459) + ((jushr (nI n - ((jushr (nI n) 1) &&& 1431655765)) 2) &&& 858993459)) + (jushr (((nI n - ((jushr (nI n) 1) &&& 1431655765)) &&& 858993459) + ((jushr (nI n - ((jushr (nI n) 1) &&& 1431655765)) 2) &&& 858993459)) 4)) &&& 252645135) + (jushr (((((nI n - ((jushr (nI n) 1) &&& 1431655765)) &&& 858993459) + ((jushr (nI n - ((jushr (nI n) 1) &&& 1431655765)) 2) &&& 858993459)) + (jushr (((nI n - ((jushr (nI n) 1) &&& 1431655765)) &&& 858993459) + ((jushr (nI n - ((jushr (nI n) 1) &&& 1431655765)) 2) &&& 858993459)) 4)) &&& 252645135) 8)) + (jushr ((((((nI n - ((jushr (nI n) 1) &&& 1431655765)) &&& 858993459) + ((jushr (nI n - ((jushr (nI n) 1) &&& 1431655765)) 2) &&& 858993459)) + (jushr (((nI n - ((jushr (nI n) 1) &&& 1431655765)) &&& 858993459) + ((jushr (nI n - ((jushr (nI n) 1) &&& 1431655765)) 2) &&& 858993459)) 4)) &&& 252645135) + (jushr (((((nI n - ((jushr (nI n) 1) &&& 1431655765)) &&& 858993459) + ((jushr (nI n - ((jushr (nI n) 1) &&& 1431655765)) 2) &&& 858993459)) + (jushr (((nI n - ((jushr (nI n) 1) &&& 1431655765)) &&& 858993459) + ((jushr (nI n - ((jushr (nI n) 1) &&& 1431655765)) 2) &&& 858993459)) 4)) &&& 252645135) 8)) 16)) &&& 63) = ones8 (nI n)) (by decide +kernel) hn
  subst e1; subst e3; subst e5; subst e7; subst e9
  rw [key]
  exact k
