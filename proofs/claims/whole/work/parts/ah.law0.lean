/-! ===== the law: both worlds at once ===== -/
def wF (w : WO) (f : Prop) : WO := (w.1, w.2.1, w.2.2.1, w.2.2.2.1, w.2.2.2.2.1, f)
/-- no cell is of both -/
def Dj (w v : WO) : Prop := ∀ o o', wLy w o ≠ none → wLy v o' ≠ none → wAd w o ≠ wAd v o'
def gV (X : CT) (w v : WO) (L : LIM) (Q : State → Prop) (x m : DD) (pc : Nat) (lv : List (Nat × Value)) (st : List Value) : Prop :=
  ∀ (H : Heap) (locs : List Loc) (ls : Array Slot), Wd w x H → Wd v m H → va_S L.1 X.s.heap H locs → lv_has ls 4 lv → W X.p X.l X.e X.R X.s X.m X.args X.below X.meth X.c H locs L.2.1 L.2.2 Q (F0 X.m pc ls st)
abbrev cwL : Cond := Cond.initialized RX10
abbrev CLw (X : CT) (w : WO) (L : LIM) (b : BZ) : Prop := CG X w L 4 code RL (some .boolean) cwL room_1 b
theorem wd_kept {v : WO} {m : DD} {H H1 : Heap} (h : Wd v m H) (hk : ∀ o, wLy v o ≠ none → H1[wAd v o]? = H[wAd v o]?) : Wd v m H1 := ⟨fun o y hy => (h.1 o y hy).kept (hk o (by rw [hy]; exact fun z => by cases z)), h.2⟩
theorem wA_f {w : WO} {q : Nat} (h : wA (wF w False) q) : wA (wF w True) q := by
  obtain ⟨o, y, h1, h2, h3⟩ := h
  exact ⟨o, y, h1, fun _ => trivial, h3⟩
theorem wA_all {w : WO} {o : Nat} (hF : wFl w) (h : wLy w o ≠ none) : wA w (wAd w o) := by
  obtain ⟨y, e⟩ := Option.ne_none_iff_exists'.1 h
  exact ⟨o, y, e, fun _ => hF, rfl⟩
theorem wA_live {w : WO} {q : Nat} (h : wA w q) : ∃ o, wLy w o ≠ none ∧ q = wAd w o := by
  obtain ⟨o, y, h1, h2, h3⟩ := h
  exact ⟨o, by rw [h1]; exact fun z => (by cases z), h3⟩
theorem wA_fw {w : WO} {q : Nat} (hF : wFl w) (h : wA (wF w False) q) : wA w q := by
  obtain ⟨o, y, h1, h2, h3⟩ := h
  exact ⟨o, y, h1, fun _ => hF, h3⟩
/-- the images' row is as it was -/
theorem row2 {w : WO} {x x' : DD} {H H1 : Heap} (hy : wLy w 2 = some (lQ 5 2)) (a : Wd w x H) (a' : Wd w x' H1) (hk : ∀ q : Nat, q < H.size → ¬ wA (wF w False) q → H1[q]? = H[q]?) : ∀ k, k < 2 → (gR x' 2 k = none ↔ gR x 2 k = none) := by
  have c : H[wAd w 2]? = some (vp_cell (wCa w 5) (2, .inr (.inr (.inr (.inr (fun k => (gR x 2 k).map (wAd w))))))) := a.1 2 _ hy
  have c' : H1[wAd w 2]? = some (vp_cell (wCa w 5) (2, .inr (.inr (.inr (.inr (fun k => (gR x' 2 k).map (wAd w))))))) := a'.1 2 _ hy
  have hlt : wAd w 2 < H.size := (Array.getElem?_eq_some_iff.mp c).1
  have hn : ¬ wA (wF w False) (wAd w 2) := by
    rintro ⟨o, y, h1, h2, h3⟩
    have h1' : wLy w o = some y := h1
    have h3' : wAd w 2 = wAd w o := h3
    have e : 2 = o := a.2 2 o (by rw [hy]; exact fun z => by cases z) (by rw [h1']; exact fun z => by cases z) h3'
    rw [← e, hy] at h1'
    cases h1'
    exact h2 rfl
  rw [hk _ hlt hn, c] at c'
  have e := Option.some.inj c'
  rw [vp_cell_q, vp_cell_q] at e
  intro k hk2
  have r1 := arrV_read (wCa w 5) (N := 2) (fun j => va_rf ((gR x 2 j).map (wAd w))) hk2
  have r2 := arrV_read (wCa w 5) (N := 2) (fun j => va_rf ((gR x' 2 j).map (wAd w))) hk2
  rw [e, r2] at r1
  have r3 := Option.some.inj r1
  cases h1 : gR x' 2 k with
  | none =>
    rw [h1] at r3
    cases h2 : gR x 2 k with
    | none => exact ⟨fun _ => rfl, fun _ => rfl⟩
    | some j => rw [h2] at r3; cases r3
  | some i =>
    rw [h1] at r3
    cases h2 : gR x 2 k with
    | none => rw [h2] at r3; cases r3
    | some j => exact ⟨fun z => (by cases z), fun z => (by cases z)⟩
section LV
variable {X : CT} {w v : WO} {L : LIM} {Q : State → Prop} {x m : DD} {pc : Nat} {lv lv' : List (Nat × Value)} {rest st : List Value} {b : BZ}
theorem v_iload_n (C : CLw X w L b) {j : Fin 4} {z : Int32} (i : Nat) (hl : lv[i]? = some ((j : Nat), .int z)) (hd : decode code pc = .ok (.iload_n j, 1)) (k : gV X w v L Q x m (pc + 1) lv (.int z :: rest)) : gV X w v L Q x m pc lv rest := fun H locs ls a1 a2 b0 d => lv_iload_n C.1.1 C.1.2.1 hd rfl (lv_at d i hl) (k H locs ls a1 a2 b0 d)
theorem v_aload_n (C : CLw X w L b) {j : Fin 4} {z : Nat} (i : Nat) (hl : lv[i]? = some ((j : Nat), .ref z)) (hd : decode code pc = .ok (.aload_n j, 1)) (k : gV X w v L Q x m (pc + 1) lv (.ref z :: rest)) : gV X w v L Q x m pc lv rest := fun H locs ls a1 a2 b0 d => lv_aload_n C.1.1 C.1.2.1 hd rfl (lv_at d i hl) (k H locs ls a1 a2 b0 d)
theorem v_iconst (C : CLw X w L b) {n : Int} (z : Int32) (hd : decode code pc = .ok (.iconst n, 1)) (k : gV X w v L Q x m (pc + 1) lv (.int z :: rest)) (hv : Int32.ofInt n = z := by decide) : gV X w v L Q x m pc lv rest := fun H locs ls a1 a2 b0 d => lv_iconst C.1.1 C.1.2.1 hd hv (k H locs ls a1 a2 b0 d)
theorem v_bipush (C : CLw X w L b) {n : Int} (z : Int32) (hd : decode code pc = .ok (.bipush n, 2)) (k : gV X w v L Q x m (pc + 2) lv (.int z :: rest)) (hv : (Int8.ofInt n).toInt32 = z := by decide) : gV X w v L Q x m pc lv rest := fun H locs ls a1 a2 b0 d => lv_bipush C.1.1 C.1.2.1 hd hv (k H locs ls a1 a2 b0 d)
theorem v_iadd (C : CLw X w L b) {y z : Int32} (hd : decode code pc = .ok (.iadd, 1)) (k : gV X w v L Q x m (pc + 1) lv (.int (y + z) :: rest)) : gV X w v L Q x m pc lv (.int z :: .int y :: rest) := fun H locs ls a1 a2 b0 d => lv_iadd C.1.1 C.1.2.1 hd (k H locs ls a1 a2 b0 d)
theorem v_isub (C : CLw X w L b) {y z : Int32} (hd : decode code pc = .ok (.isub, 1)) (k : gV X w v L Q x m (pc + 1) lv (.int (y - z) :: rest)) : gV X w v L Q x m pc lv (.int z :: .int y :: rest) := fun H locs ls a1 a2 b0 d => lv_isub C.1.1 C.1.2.1 hd (k H locs ls a1 a2 b0 d)
theorem v_iand (C : CLw X w L b) {y z : Int32} (hd : decode code pc = .ok (.iand, 1)) (k : gV X w v L Q x m (pc + 1) lv (.int (y &&& z) :: rest)) : gV X w v L Q x m pc lv (.int z :: .int y :: rest) := fun H locs ls a1 a2 b0 d => lv_iand C.1.1 C.1.2.1 hd (k H locs ls a1 a2 b0 d)
theorem v_lcmp (C : CLw X w L b) {y z : Int64} (hd : decode code pc = .ok (.lcmp, 1)) (k : gV X w v L Q x m (pc + 1) lv (.int (lg_cmp y z) :: rest)) : gV X w v L Q x m pc lv (.long z :: .long y :: rest) := fun H locs ls a1 a2 b0 d => W.lcmp C.1.1 C.1.2.1 hd (k H locs ls a1 a2 b0 d)
theorem v_goto (C : CLw X w L b) {off : Int} (tgt : Nat) (ht : (pc : Int) + off = (tgt : Int)) (hd : decode code pc = .ok (.goto off, 3)) (k : gV X w v L Q x m tgt lv st) : gV X w v L Q x m pc lv st := fun H locs ls a1 a2 b0 d => lv_goto C.1.1 C.1.2.1 hd ht (k H locs ls a1 a2 b0 d)
theorem v_iinc (C : CLw X w L b) {j : Nat} {n : Int} {y z : Int32} (i : Nat) (hi : lv[i]? = some (j, .int y)) (hv : y + Int32.ofInt n = z) (lv' : List (Nat × Value)) (hl : (j, Value.int z) :: lv.filter (fun q => !(q.1 == j) && !(q.1 + 1 == j && q.2.category == 2)) = lv') (hn : Nat.blt j 4 = true) (hd : decode code pc = .ok (.iinc j n, 3)) (k : gV X w v L Q x m (pc + 3) lv' rest) : gV X w v L Q x m pc lv rest := fun H locs ls a1 a2 b0 d => lv_iinc C.1.1 C.1.2.1 hd d hi hv (Nat.le_of_ble_eq_true hn) hl (fun ls2 d2 => k H locs ls2 a1 a2 b0 d2)
theorem v_lv (ks : List Nat) (hl : lv_pick lv ks = lv') (k : gV X w v L Q x m pc lv' st) : gV X w v L Q x m pc lv st := fun H locs ls a1 a2 b0 d => k H locs ls a1 a2 b0 (lv_sub d ks hl)
theorem v_icmp_gt (C : CLw X w L b) {y z : Int32} {off : Int} (tgt : Nat) (ht : (pc : Int) + off = (tgt : Int)) (hd : decode code pc = .ok (.if_icmp .gt off, 3)) (kt : z < y → gV X w v L Q x m tgt lv rest) (kf : ¬ z < y → gV X w v L Q x m (pc + 3) lv rest) : gV X w v L Q x m pc lv (.int z :: .int y :: rest) := fun H locs ls a1 a2 b0 d => lv_icmp_gt C.1.1 C.1.2.1 hd ht (fun q => kt q H locs ls a1 a2 b0 d) (fun q => kf q H locs ls a1 a2 b0 d)
/-- the answers are alike -/
theorem v_same (C : CLw X w L b) {y : Int32} {off : Int} (tgt : Nat) (ht : (pc : Int) + off = (tgt : Int)) (hd : decode code pc = .ok (.if_icmp .eq off, 3)) (kt : gV X w v L Q x m tgt lv rest) : gV X w v L Q x m pc lv (.int y :: .int y :: rest) := fun H locs ls a1 a2 b0 d => lv_icmp_eq C.1.1 C.1.2.1 hd ht (fun _ => kt H locs ls a1 a2 b0 d) (fun q => absurd rfl q)
theorem lg_cmp_self (y : Int64) : lg_cmp y y = 0 := by
  unfold lg_cmp
  simp
theorem v_ifz (C : CLw X w L b) {off : Int} (tgt : Nat) (ht : (pc : Int) + off = (tgt : Int)) (hd : decode code pc = .ok (.ifCond .eq off, 3)) (kt : gV X w v L Q x m tgt lv rest) : gV X w v L Q x m pc lv (.int 0 :: rest) := fun H locs ls a1 a2 b0 d => lv_if_eq C.1.1 C.1.2.1 hd ht (fun _ => kt H locs ls a1 a2 b0 d) (fun q => absurd rfl q)
theorem v_tabK (C : CLw X w L b) {dflt lo hi : Int} {offs : Array Int} {len : Nat} (k : Int32) {off : Int} {tgt : Nat} (hk : (¬ k.toInt < lo ∧ ¬ hi < k.toInt) ∧ offs[(k.toInt - lo).toNat]? = some off ∧ (pc : Int) + off = (tgt : Int)) (hd : decode code pc = .ok (.tableswitch dflt lo hi offs, len)) (kk : gV X w v L Q x m tgt lv rest) : gV X w v L Q x m pc lv (.int k :: rest) := fun H locs ls a1 a2 b0 d => lv_tableIn C.1.1 C.1.2.1 hd hk.1.1 hk.1.2 hk.2.1 hk.2.2 (kk H locs ls a1 a2 b0 d)
theorem v_tabD (C : CLw X w L b) {dflt lo hi : Int} {offs : Array Int} {len : Nat} {z : Int32} {tgt : Nat} (hd : decode code pc = .ok (.tableswitch dflt lo hi offs, len)) (hx : z.toInt < lo ∨ hi < z.toInt) (ht : (pc : Int) + dflt = (tgt : Int)) (kk : gV X w v L Q x m tgt lv rest) : gV X w v L Q x m pc lv (.int z :: rest) := fun H locs ls a1 a2 b0 d => lv_tableOut C.1.1 C.1.2.1 hd hx ht (kk H locs ls a1 a2 b0 d)
/-- the script -/
def SC (X : CT) (L : LIM) (b0 N : Nat) (xs : Nat → Int32) : Prop := va_X b0 N xs X.s X.s.heap ∧ b0 < X.s.heap.size ∧ ¬ L.1 b0
theorem v_sld (C : CLw X w L b) {b0 N : Nat} {xs : Nat → Int32} (S : SC X L b0 N xs) {i : Int32} (hin : vp_in i N) (hd : decode code pc = .ok (.iaload, 1)) (k : gV X w v L Q x m (pc + 1) lv (.int (xs i.toNatClampNeg) :: rest)) : gV X w v L Q x m pc lv (.int i :: .ref b0 :: rest) := fun H locs ls a1 a2 c0 d => va_sld C.1.1 C.1.2.1 S.1 S.2.1 S.2.2 c0 hin hd (k H locs ls a1 a2 c0 d)
theorem v_slen (C : CLw X w L b) {b0 N : Nat} {xs : Nat → Int32} (S : SC X L b0 N xs) (hd : decode code pc = .ok (.arraylength, 1)) (k : gV X w v L Q x m (pc + 1) lv (.int (Int32.ofNat N) :: rest)) : gV X w v L Q x m pc lv (.ref b0 :: rest) := fun H locs ls a1 a2 c0 d => va_slen C.1.1 C.1.2.1 S.1 S.2.1 S.2.2 c0 hd (k H locs ls a1 a2 c0 d)
end LV
