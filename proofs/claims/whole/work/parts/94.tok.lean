/-! ===== tokens, from the bytes ===== -/
def skF (b : Nat → Nat) : Nat → Nat → Nat
  | 0, k => k
  | f + 1, k => if b k = 32 then skF b f (k + 1) else k
def skp (b : Nat → Nat) (sz k : Nat) : Nat := skF b (sz - k) k
def srt (n : Nat) : Nat := if 97 ≤ n ∧ n ≤ 122 then 0 else if 48 ≤ n ∧ n ≤ 57 then 1 else 2
def rnF (b : Nat → Nat) (s : Nat) : Nat → Nat → Nat
  | 0, k => k
  | f + 1, k => if srt (b k) = s then rnF b s f (k + 1) else k
def rn (b : Nat → Nat) (sz s k : Nat) : Nat := rnF b s (sz - k) k
def stq (b : Nat → Nat) (sz k : Nat) : Nat := if srt (b k) = 2 then k + 1 else rn b sz (srt (b k)) (k + 1)
def tP (b : Nat → Nat) (sz : Nat) : Nat → Nat
  | 0 => skp b sz 0
  | i + 1 => if tP b sz i < sz then skp b sz (stq b sz (tP b sz i)) else tP b sz i
def wds : List (List Nat) := [[108, 97, 115, 116, 115], [116, 97, 107, 101, 115], [98, 97, 114, 115], [105, 102], [111, 114], [97, 110, 100], [110, 111, 116], [97, 99, 116], [108, 101, 110, 103, 116, 104], [116, 101, 114, 109], [98, 105, 110, 100, 115], [114, 101, 97, 100, 101, 114], [99, 108, 97, 115, 115], [119, 101, 101, 107, 100, 97, 121], [109, 111, 111, 100], [100, 97, 121], [104, 101, 108, 100], [100, 111, 110, 101], [108, 97, 115, 116], [115, 105, 110, 99, 101], [118, 111, 105, 99, 101], [114, 101, 97, 100], [98, 121], [119, 97, 105, 116], [116, 105, 109, 101, 115]]
def wxF : List (List Nat) → Nat → List Nat → Nat
  | [], _, _ => 0
  | w :: ws, i, t => if w = t then i else wxF ws (i + 1) t
def tkW (b : Nat → Nat) (p e : Nat) : List Nat := (List.range (e - p)).map (fun j => b (p + j))
def vN (b : Nat → Nat) (p : Nat) : Nat → Nat
  | 0 => 0
  | n + 1 => if vN b p n ≤ 1000000 then 10 * vN b p n + b (p + n) - 48 else vN b p n
def cdT (b : Nat → Nat) (sz p : Nat) : Int32 := if p < sz then (if srt (b p) = 0 then nI (wxF wds 1 (tkW b p (stq b sz p))) else if srt (b p) = 1 then 50 else nI (100 + b p)) else 0
def vlT (b : Nat → Nat) (sz p : Nat) : Nat := if p < sz ∧ srt (b p) = 1 then vN b p (stq b sz p - p) else 0
def tC (b : Nat → Nat) (sz i : Nat) : Int32 := cdT b sz (tP b sz i)
def tV (b : Nat → Nat) (sz i : Nat) : Int32 := nI (vlT b sz (tP b sz i))
section TK
variable {b : Nat → Nat} {sz : Nat}
theorem skp_1 {k : Nat} (h : k < sz) (hb : b k = 32) : skp b sz k = skp b sz (k + 1) := by
  unfold skp
  obtain ⟨f, hf⟩ : ∃ f, sz - k = f + 1 := ⟨sz - k - 1, by omega⟩
  rw [hf, show sz - (k + 1) = f by omega]
  show (if b k = 32 then _ else _) = _
  rw [if_pos hb]
theorem skp_0 {k : Nat} (h : sz ≤ k ∨ ¬ b k = 32) : skp b sz k = k := by
  unfold skp
  cases hf : sz - k with
  | zero => rfl
  | succ f =>
    show (if b k = 32 then _ else _) = _
    rw [if_neg (by rcases h with h | h; omega; exact h)]
theorem skp_rng : ∀ (n k : Nat), sz - k = n → k ≤ sz → k ≤ skp b sz k ∧ skp b sz k ≤ sz ∧ (skp b sz k < sz → ¬ b (skp b sz k) = 32) := by
  intro n
  induction n with
  | zero => intro k h1 h2; rw [skp_0 (Or.inl (by omega))]; exact ⟨Nat.le_refl _, h2, fun z => by omega⟩
  | succ n ih =>
    intro k h1 h2
    by_cases c : b k = 32
    · rw [skp_1 (by omega) c]
      have := ih (k + 1) (by omega) (by omega)
      exact ⟨by omega, this.2.1, this.2.2⟩
    · rw [skp_0 (Or.inr c)]; exact ⟨Nat.le_refl _, h2, fun _ => c⟩
theorem rn_1 {s k : Nat} (h : k < sz) (hb : srt (b k) = s) : rn b sz s k = rn b sz s (k + 1) := by
  unfold rn
  obtain ⟨f, hf⟩ : ∃ f, sz - k = f + 1 := ⟨sz - k - 1, by omega⟩
  rw [hf, show sz - (k + 1) = f by omega]
  show (if srt (b k) = s then _ else _) = _
  rw [if_pos hb]
theorem rn_0 {s k : Nat} (h : sz ≤ k ∨ ¬ srt (b k) = s) : rn b sz s k = k := by
  unfold rn
  cases hf : sz - k with
  | zero => rfl
  | succ f =>
    show (if srt (b k) = s then _ else _) = _
    rw [if_neg (by rcases h with h | h; omega; exact h)]
theorem rn_rng {s : Nat} : ∀ (n k : Nat), sz - k = n → k ≤ sz → k ≤ rn b sz s k ∧ rn b sz s k ≤ sz ∧ ∀ j, k ≤ j → j < rn b sz s k → srt (b j) = s := by
  intro n
  induction n with
  | zero => intro k h1 h2; rw [rn_0 (Or.inl (by omega))]; exact ⟨Nat.le_refl _, h2, fun j z1 z2 => by omega⟩
  | succ n ih =>
    intro k h1 h2
    by_cases c : srt (b k) = s
    · rw [rn_1 (by omega) c]
      have := ih (k + 1) (by omega) (by omega)
      refine ⟨by omega, this.2.1, fun j z1 z2 => ?_⟩
      by_cases e : j = k
      · rw [e]; exact c
      · exact this.2.2 j (by omega) z2
    · rw [rn_0 (Or.inr c)]; exact ⟨Nat.le_refl _, h2, fun j z1 z2 => by omega⟩
theorem stq_rng {k : Nat} (h : k < sz) : k < stq b sz k ∧ stq b sz k ≤ sz ∧ ∀ j, k ≤ j → j < stq b sz k → srt (b j) = srt (b k) := by
  unfold stq
  by_cases c : srt (b k) = 2
  · rw [if_pos c]
    exact ⟨by omega, by omega, fun j z1 z2 => by rw [show j = k by omega]⟩
  · rw [if_neg c]
    have := rn_rng (b := b) (sz := sz) (s := srt (b k)) _ (k + 1) rfl (by omega)
    refine ⟨by omega, this.2.1, fun j z1 z2 => ?_⟩
    by_cases e : j = k
    · rw [e]
    · exact this.2.2 j (by omega) z2
theorem tP_le : ∀ i, tP b sz i ≤ sz := by
  intro i
  induction i with
  | zero => exact (skp_rng _ 0 rfl (Nat.zero_le _)).2.1
  | succ i ih =>
    show (if tP b sz i < sz then skp b sz (stq b sz (tP b sz i)) else tP b sz i) ≤ sz
    by_cases c : tP b sz i < sz
    · rw [if_pos c]; exact (skp_rng _ _ rfl (stq_rng c).2.1).2.1
    · rw [if_neg c]; exact ih
theorem tP_nb : ∀ i, tP b sz i < sz → ¬ b (tP b sz i) = 32 := by
  intro i
  induction i with
  | zero => exact (skp_rng _ 0 rfl (Nat.zero_le _)).2.2
  | succ i ih =>
    show (if tP b sz i < sz then skp b sz (stq b sz (tP b sz i)) else tP b sz i) < sz → ¬ b (if tP b sz i < sz then skp b sz (stq b sz (tP b sz i)) else tP b sz i) = 32
    by_cases c : tP b sz i < sz
    · rw [if_pos c]; exact (skp_rng _ _ rfl (stq_rng c).2.1).2.2
    · rw [if_neg c]; exact ih
theorem tP_s {i : Nat} (c : tP b sz i < sz) : tP b sz (i + 1) = skp b sz (stq b sz (tP b sz i)) := by
  show (if tP b sz i < sz then skp b sz (stq b sz (tP b sz i)) else tP b sz i) = _
  rw [if_pos c]
theorem tP_up {i : Nat} (c : tP b sz i < sz) : tP b sz i < tP b sz (i + 1) := by
  rw [tP_s c]
  have h1 := stq_rng (b := b) c
  have h2 := skp_rng (b := b) _ _ rfl h1.2.1
  omega
theorem tP_end {i : Nat} (c : tP b sz i = sz) : ∀ j, i ≤ j → tP b sz j = sz := by
  intro j hj
  induction j with
  | zero => rw [show i = 0 by omega] at c; exact c
  | succ j ih =>
    by_cases e : i = j + 1
    · rw [← e]; exact c
    · have := ih (by omega)
      show (if tP b sz j < sz then skp b sz (stq b sz (tP b sz j)) else tP b sz j) = _
      rw [if_neg (by omega)]; exact this
theorem tN_ex (b : Nat → Nat) (sz : Nat) : ∃ N, N ≤ sz ∧ (∀ i, i < N → tP b sz i < sz) ∧ ∀ i, N ≤ i → tP b sz i = sz := by
  have key : ∀ n, (∃ N, N ≤ n ∧ tP b sz N = sz ∧ ∀ i, i < N → tP b sz i < sz) ∨ (n ≤ tP b sz n ∧ ∀ i, i ≤ n → tP b sz i < sz) := by
    intro n
    have le := tP_le (b := b) (sz := sz)
    induction n with
    | zero =>
      by_cases c : tP b sz 0 = sz
      · exact Or.inl ⟨0, Nat.le_refl _, c, fun i z => by omega⟩
      · exact Or.inr ⟨Nat.zero_le _, fun i z => by have := le 0; rw [show i = 0 by omega]; omega⟩
    | succ n ih =>
      rcases ih with ⟨N, h1, h2, h3⟩ | ⟨h1, h2⟩
      · exact Or.inl ⟨N, by omega, h2, h3⟩
      · have up := tP_up (h2 n (Nat.le_refl _))
        by_cases c : tP b sz (n + 1) = sz
        · exact Or.inl ⟨n + 1, Nat.le_refl _, c, fun i z => h2 i (by omega)⟩
        · refine Or.inr ⟨by omega, fun i z => ?_⟩
          by_cases e : i = n + 1
          · rw [e]; have := le (n + 1); omega
          · exact h2 i (by omega)
  rcases key sz with ⟨N, h1, h2, h3⟩ | ⟨h1, h2⟩
  · exact ⟨N, h1, h3, tP_end h2⟩
  · have := h2 sz (Nat.le_refl _); omega
theorem wxF_ge : ∀ (ws : List (List Nat)) (i : Nat) (t : List Nat), wxF ws i t = 0 ∨ (i ≤ wxF ws i t ∧ wxF ws i t < i + ws.length) := by
  intro ws
  induction ws with
  | nil => intro i t; exact Or.inl rfl
  | cons w ws ih =>
    intro i t
    show (if w = t then i else wxF ws (i + 1) t) = 0 ∨ (i ≤ (if w = t then i else wxF ws (i + 1) t) ∧ (if w = t then i else wxF ws (i + 1) t) < i + (ws.length + 1))
    by_cases c : w = t
    · rw [if_pos c]; exact Or.inr ⟨Nat.le_refl _, by omega⟩
    · rw [if_neg c]
      rcases ih (i + 1) t with h | h
      · exact Or.inl h
      · exact Or.inr ⟨by omega, by omega⟩
theorem wxF_at {t : List Nat} : ∀ (ws : List (List Nat)) (i : Nat), 0 < i → ws.Nodup → ∀ k, k < ws.length → (ws.getD k [] = t ↔ wxF ws i t = i + k) := by
  intro ws
  induction ws with
  | nil => intro i _ _ k hk; exact absurd hk (Nat.not_lt_zero _)
  | cons w ws ih =>
    intro i hi hd k hk
    rw [List.nodup_cons] at hd
    show _ ↔ (if w = t then i else wxF ws (i + 1) t) = i + k
    cases k with
    | zero =>
      show w = t ↔ _
      by_cases c : w = t
      · rw [if_pos c]; exact ⟨fun _ => rfl, fun _ => c⟩
      · rw [if_neg c]
        rcases wxF_ge ws (i + 1) t with h | h
        · exact ⟨fun z => absurd z c, fun z => by omega⟩
        · exact ⟨fun z => absurd z c, fun z => by omega⟩
    | succ k =>
      show ws.getD k [] = t ↔ _
      have hk' : k < ws.length := Nat.lt_of_succ_lt_succ hk
      by_cases c : w = t
      · rw [if_pos c]
        refine ⟨fun z => ?_, fun z => by omega⟩
        refine absurd ?_ hd.1
        rw [c, ← z, List.getD_eq_getElem?_getD, List.getElem?_eq_getElem hk']
        exact List.getElem_mem hk'
      · rw [if_neg c, ih (i + 1) (by omega) hd.2 k hk', show i + 1 + k = i + (k + 1) by omega]
theorem wds_at {t : List Nat} {k : Nat} (hk : k < 25) : wds.getD k [] = t ↔ wxF wds 1 t = k + 1 := by
  have := wxF_at (t := t) wds 1 (by decide) (by decide +kernel) k hk
  rw [this, Nat.add_comm]
theorem wds_lt (t : List Nat) : wxF wds 1 t ≤ 25 := by
  rcases wxF_ge wds 1 t with h | h
  · omega
  · have : wds.length = 25 := rfl
    omega
theorem tk_eq {w : List Nat} {p e : Nat} : w = tkW b p e ↔ w.length = e - p ∧ ∀ i, i < w.length → w.getD i 0 = b (p + i) := by
  unfold tkW
  constructor
  · intro h
    have hl : w.length = e - p := by rw [h, List.length_map, List.length_range]
    refine ⟨hl, fun i hi => ?_⟩
    rw [h, List.getD_eq_getElem?_getD, List.getElem?_map, List.getElem?_range (by omega)]; rfl
  · rintro ⟨hl, h⟩
    apply List.ext_getElem?
    intro i
    by_cases hi : i < w.length
    · have := h i hi
      rw [List.getD_eq_getElem?_getD, List.getElem?_eq_getElem hi] at this
      rw [List.getElem?_map, List.getElem?_range (by omega), List.getElem?_eq_getElem hi]
      show some w[i] = some (b (p + i))
      rw [← this]; rfl
    · rw [List.getElem?_eq_none (by omega), List.getElem?_eq_none (by rw [List.length_map, List.length_range]; omega)]
theorem vN_lt {p : Nat} : ∀ n, (∀ j, j < n → 48 ≤ b (p + j) ∧ b (p + j) ≤ 57) → vN b p n ≤ 10000009 := by
  intro n
  induction n with
  | zero => intro _; exact Nat.zero_le _
  | succ n ih =>
    intro h
    have h1 := ih (fun j hj => h j (by omega))
    have h2 := h n (by omega)
    show (if vN b p n ≤ 1000000 then 10 * vN b p n + b (p + n) - 48 else vN b p n) ≤ _
    by_cases c : vN b p n ≤ 1000000
    · rw [if_pos c]; omega
    · rw [if_neg c]; exact h1
theorem srt_0 {n : Nat} : srt n = 0 ↔ 97 ≤ n ∧ n ≤ 122 := by unfold srt; (repeat' split) <;> omega
theorem srt_1 {n : Nat} : srt n = 1 ↔ 48 ≤ n ∧ n ≤ 57 := by unfold srt; (repeat' split) <;> omega
theorem srt_3 (n : Nat) : srt n = 0 ∨ srt n = 1 ∨ srt n = 2 := by unfold srt; (repeat' split) <;> omega
theorem tV_rng (i : Nat) : vlT b sz (tP b sz i) ≤ 10000009 := by
  unfold vlT
  by_cases c : tP b sz i < sz ∧ srt (b (tP b sz i)) = 1
  · rw [if_pos c]
    refine vN_lt _ (fun j hj => ?_)
    have := (stq_rng (b := b) c.1).2.2 (tP b sz i + j) (by omega) (by omega)
    rw [c.2] at this
    exact srt_1.1 this
  · rw [if_neg c]; omega
end TK
