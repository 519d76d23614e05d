/-! ===== a realm is made, at its numbers (by program: wip/whole/mkr.py) ===== -/
theorem wd_obj {w : WO} {σ σ' : DD} {H : Heap} {o ci N : Nat} {fs : List Value} {rf : Nat → Option Nat} (h : Wd w σ H) (hy : wLy w o = some (lR ci fs)) (hc : celV (wSet w o (lO ci rf N)) σ' o (lO ci rf N) = .inr (ci, fs)) (hn : ∀ q k, ¬ q = o → gI σ' q k = gI σ q k ∧ gL σ' q k = gL σ q k ∧ gR σ' q k = gR σ q k) : Wd (wSet w o (lO ci rf N)) σ' H := by
  refine h.to (fun q y' hq => ⟨rfl, ?_⟩)
  by_cases ct : q = o
  · subst ct
    rw [wLy_se] at hq
    cases hq
    refine ⟨_, hy, fun k => ?_⟩
    rw [hc]; exact k
  · refine ⟨y', (wLy_sn ct).symm.trans hq, fun k => ?_⟩
    rw [cel_same (w := wSet w o (lO ci rf N)) (fun k => (hn q k ct).1) (fun k => (hn q k ct).2.1) (fun k => (hn q k ct).2.2)]
    rcases y' with ⟨ci, rf, N⟩ | ⟨t, n⟩ | n | ⟨t, n⟩ | ⟨ci, fs⟩ <;> exact k
def rz (σ : DD) (b9 : Nat) : DD := (fun a c => if a = b9 then (if c = 19 then -1 else 0) else σ.1 a c, σ.2)
theorem rz_n {σ : DD} {b9 q k : Nat} (h : ¬ q = b9) : gI (rz σ b9) q k = gI σ q k := by show (if q = b9 then _ else _) = _; rw [if_neg h]; rfl
def RLP (b9 : Nat) (w : WO) (σ : DD) (u : WO × DD) : Prop := (∀ q, ¬ (b9 ≤ q ∧ q ≤ b9 + 20) → wLy u.1 q = wLy w q ∧ wAd u.1 q = wAd w q) ∧ (∀ q k, ¬ (b9 ≤ q ∧ q ≤ b9 + 20) → gI u.2 q k = gI σ q k ∧ gL u.2 q k = gL σ q k ∧ gR u.2 q k = gR σ q k) ∧ (∃ fs, wLy u.1 b9 = some (lR 5 fs)) ∧ wAd u.1 b9 = wAd w b9 ∧ (∀ H, Wd u.1 u.2 H → Wd (wSet u.1 b9 (lO 5 (rfR b9) 20)) (rz u.2 b9) H) ∧ (∀ j, j ≤ 20 → ¬ j = 0 → wLy u.1 (b9 + j) = LR b9 j) ∧ (wFl w → wFl u.1)
theorem fl_s {w : WO} {o : Nat} {y : LY} (h : wFl w) : wFl (wSet w o y) := h
theorem fl_a {w : WO} {o a : Nat} {y : LY} (h : wFl w) : wFl (wAdd w o a y) := h
def RLC (b9 : Nat) : Prop := ∀ {l : Launch} {w : WO} {σ : DD} {a sz : Nat} {b : BZ} {S : Nat → Prop}, BW b w → b.1 ≤ sz → (∀ U H, b.2 U H → EZ U) → wLy w b9 = some (lR 5 [.int 0, .null, .null, .int 0, .null, .null, .null, .null, .int 0, .null, .null, .null, .int 0, .null, .null, .null, .null, .int 0, .null, .int 0]) → wAd w b9 = a → NRs w σ S → (∀ o, b9 < o → o ≤ b9 + 20 → S o) → (∀ j, 0 < j → j ≤ 20 → wLy w (b9 + j) = none) → Met l yX5_init (.code yX5_init cX5_init 1 none :: TT) { frames := 1, cells := 14, slots := 349, locals := 23 } (wPc w σ [.ref a] sz) (wQm w sz b (RLP b9 w σ)) 14 349 (gA w sz)
theorem Met_po {l : Launch} {y : MethodName} {ws : List Cond} {rm : Room} {Pc : Array Value → State → Prop} {w : WO} {sz mc ms : Nat} {b : BZ} {post post' : WO × DD → Prop} {free : Addr → Prop} (h : Met l y ws rm Pc (wQm w sz b post) mc ms free) (hp : ∀ u, post u → post' u) : Met l y ws rm Pc (wQm w sz b post') mc ms free := by
  intro p e ha hc hk s m args below hf happ hP hK
  obtain ⟨n, o, h1, h2, h3, ⟨⟨u, g1, g2, g3⟩, g4⟩, hl⟩ := h p e ha hc hk s m args below hf happ hP hK
  exact ⟨n, o, h1, h2, h3, ⟨⟨u, g1, hp u g2, g3⟩, g4⟩, hl⟩
theorem W_RealA_l {w : WO} {q1 q2 q3 q4 q5 q6 q7 q8 q9 q10 q11 q12 q13 q14 q : Nat} (h : q < 230 ∨ 250 < q) : wLy (W_RealA w q1 q2 q3 q4 q5 q6 q7 q8 q9 q10 q11 q12 q13 q14) q = wLy w q := by
  unfold W_RealA
  rw [wLy_sn (by omega), wLy_an (by omega), wLy_an (by omega), wLy_an (by omega), wLy_an (by omega), wLy_an (by omega), wLy_an (by omega), wLy_an (by omega), wLy_an (by omega), wLy_an (by omega), wLy_an (by omega), wLy_an (by omega), wLy_an (by omega), wLy_an (by omega), wLy_an (by omega)]
theorem D_RealA_n {σ : DD} {q k : Nat} (h : q < 230 ∨ 250 < q) : gI (D_RealA σ) q k = gI σ q k ∧ gL (D_RealA σ) q k = gL σ q k ∧ gR (D_RealA σ) q k = gR σ q k := by
  unfold D_RealA fil7
  refine ⟨?_, ?_, ?_⟩
  · rw [gI_sI, if_neg (by omega), gI_sI, if_neg (by omega), gI_sI, if_neg (by omega), gI_sI, if_neg (by omega), gI_sI, if_neg (by omega), gI_sI, if_neg (by omega), gI_sI, if_neg (by omega), gI_sI, if_neg (by omega), gI_sI, if_neg (by omega), (cle_n (by omega)).1, (cle_n (by omega)).1, (cle_n (by omega)).1, (cle_n (by omega)).1, (cle_n (by omega)).1, (cle_n (by omega)).1, (cle_n (by omega)).1, (cle_n (by omega)).1, (cle_n (by omega)).1, (cle_n (by omega)).1, (cle_n (by omega)).1, (cle_n (by omega)).1, (cle_n (by omega)).1, (cle_n (by omega)).1]
  · show gL (cle (cle (cle (cle (cle (cle (cle (cle (cle (cle (cle (cle (cle (cle σ 232) 233) 235) 236) 237) 238) 240) 241) 242) 244) 245) 246) 247) 249) q k = _
    rw [(cle_n (by omega)).2.1, (cle_n (by omega)).2.1, (cle_n (by omega)).2.1, (cle_n (by omega)).2.1, (cle_n (by omega)).2.1, (cle_n (by omega)).2.1, (cle_n (by omega)).2.1, (cle_n (by omega)).2.1, (cle_n (by omega)).2.1, (cle_n (by omega)).2.1, (cle_n (by omega)).2.1, (cle_n (by omega)).2.1, (cle_n (by omega)).2.1, (cle_n (by omega)).2.1]
  · show gR (cle (cle (cle (cle (cle (cle (cle (cle (cle (cle (cle (cle (cle (cle σ 232) 233) 235) 236) 237) 238) 240) 241) 242) 244) 245) 246) 247) 249) q k = _
    rw [(cle_n (by omega)).2.2, (cle_n (by omega)).2.2, (cle_n (by omega)).2.2, (cle_n (by omega)).2.2, (cle_n (by omega)).2.2, (cle_n (by omega)).2.2, (cle_n (by omega)).2.2, (cle_n (by omega)).2.2, (cle_n (by omega)).2.2, (cle_n (by omega)).2.2, (cle_n (by omega)).2.2, (cle_n (by omega)).2.2, (cle_n (by omega)).2.2, (cle_n (by omega)).2.2]
set_option maxRecDepth 20000 in
theorem rc_RealA : RLC 230 := by
  intro l w σ a sz b S hb hbs hAO h0 ha hN hSt n
  have hM := i_RealA (l := l) (w := w) (σ := σ) (a := a) (sz := sz) (b := b) (S := S) hb hbs hAO h0 ha hN hSt (n 2 (by decide) (by decide)) (n 3 (by decide) (by decide)) (n 5 (by decide) (by decide)) (n 6 (by decide) (by decide)) (n 7 (by decide) (by decide)) (n 8 (by decide) (by decide)) (n 10 (by decide) (by decide)) (n 11 (by decide) (by decide)) (n 12 (by decide) (by decide)) (n 14 (by decide) (by decide)) (n 15 (by decide) (by decide)) (n 16 (by decide) (by decide)) (n 17 (by decide) (by decide)) (n 19 (by decide) (by decide))
  refine Met_po hM ?_
  rintro u ⟨q1, q2, q3, q4, q5, q6, q7, q8, q9, q10, q11, q12, q13, q14, hu, -⟩
  subst hu
  refine ⟨fun q hq => ⟨W_RealA_l (by omega), W_RealA_a (by omega) rfl⟩, fun q k hq => D_RealA_n (by omega), ⟨_, wLy_se⟩, ?_, fun H hH => ?_, fun j hj h0 => ?_, fun zf => ?_⟩
  · unfold W_RealA
    exact ha_sn (ha_an (by decide) (ha_an (by decide) (ha_an (by decide) (ha_an (by decide) (ha_an (by decide) (ha_an (by decide) (ha_an (by decide) (ha_an (by decide) (ha_an (by decide) (ha_an (by decide) (ha_an (by decide) (ha_an (by decide) (ha_an (by decide) (ha_an (by decide) rfl))))))))))))))
  · refine wd_obj (rf := rfR 230) (N := 20) hH wLy_se rfl (fun q k hq => ⟨rz_n hq, rfl, rfl⟩)
  · rcases (show j = 1 ∨ j = 2 ∨ j = 3 ∨ j = 4 ∨ j = 5 ∨ j = 6 ∨ j = 7 ∨ j = 8 ∨ j = 9 ∨ j = 10 ∨ j = 11 ∨ j = 12 ∨ j = 13 ∨ j = 14 ∨ j = 15 ∨ j = 16 ∨ j = 17 ∨ j = 18 ∨ j = 19 ∨ j = 20 by omega) with rfl | rfl | rfl | rfl | rfl | rfl | rfl | rfl | rfl | rfl | rfl | rfl | rfl | rfl | rfl | rfl | rfl | rfl | rfl | rfl
    · exact no_sn (by decide) (no_an (by decide) (no_an (by decide) (no_an (by decide) (no_an (by decide) (no_an (by decide) (no_an (by decide) (no_an (by decide) (no_an (by decide) (no_an (by decide) (no_an (by decide) (no_an (by decide) (no_an (by decide) (no_an (by decide) (no_an (by decide) (n 1 (by decide) (by decide))))))))))))))))
    · rfl
    · rfl
    · exact no_sn (by decide) (no_an (by decide) (no_an (by decide) (no_an (by decide) (no_an (by decide) (no_an (by decide) (no_an (by decide) (no_an (by decide) (no_an (by decide) (no_an (by decide) (no_an (by decide) (no_an (by decide) (no_an (by decide) (no_an (by decide) (no_an (by decide) (n 4 (by decide) (by decide))))))))))))))))
    · rfl
    · rfl
    · rfl
    · rfl
    · exact no_sn (by decide) (no_an (by decide) (no_an (by decide) (no_an (by decide) (no_an (by decide) (no_an (by decide) (no_an (by decide) (no_an (by decide) (no_an (by decide) (no_an (by decide) (no_an (by decide) (no_an (by decide) (no_an (by decide) (no_an (by decide) (no_an (by decide) (n 9 (by decide) (by decide))))))))))))))))
    · rfl
    · rfl
    · rfl
    · exact no_sn (by decide) (no_an (by decide) (no_an (by decide) (no_an (by decide) (no_an (by decide) (no_an (by decide) (no_an (by decide) (no_an (by decide) (no_an (by decide) (no_an (by decide) (no_an (by decide) (no_an (by decide) (no_an (by decide) (no_an (by decide) (no_an (by decide) (n 13 (by decide) (by decide))))))))))))))))
    · rfl
    · rfl
    · rfl
    · rfl
    · exact no_sn (by decide) (no_an (by decide) (no_an (by decide) (no_an (by decide) (no_an (by decide) (no_an (by decide) (no_an (by decide) (no_an (by decide) (no_an (by decide) (no_an (by decide) (no_an (by decide) (no_an (by decide) (no_an (by decide) (no_an (by decide) (no_an (by decide) (n 18 (by decide) (by decide))))))))))))))))
    · rfl
    · exact no_sn (by decide) (no_an (by decide) (no_an (by decide) (no_an (by decide) (no_an (by decide) (no_an (by decide) (no_an (by decide) (no_an (by decide) (no_an (by decide) (no_an (by decide) (no_an (by decide) (no_an (by decide) (no_an (by decide) (no_an (by decide) (no_an (by decide) (n 20 (by decide) (by decide))))))))))))))))
  · unfold W_RealA
    exact fl_s (fl_a (fl_a (fl_a (fl_a (fl_a (fl_a (fl_a (fl_a (fl_a (fl_a (fl_a (fl_a (fl_a (fl_a zf))))))))))))))
theorem W_RealB_l {w : WO} {q1 q2 q3 q4 q5 q6 q7 q8 q9 q10 q11 q12 q13 q14 q : Nat} (h : q < 260 ∨ 280 < q) : wLy (W_RealB w q1 q2 q3 q4 q5 q6 q7 q8 q9 q10 q11 q12 q13 q14) q = wLy w q := by
  unfold W_RealB
  rw [wLy_sn (by omega), wLy_an (by omega), wLy_an (by omega), wLy_an (by omega), wLy_an (by omega), wLy_an (by omega), wLy_an (by omega), wLy_an (by omega), wLy_an (by omega), wLy_an (by omega), wLy_an (by omega), wLy_an (by omega), wLy_an (by omega), wLy_an (by omega), wLy_an (by omega)]
theorem D_RealB_n {σ : DD} {q k : Nat} (h : q < 260 ∨ 280 < q) : gI (D_RealB σ) q k = gI σ q k ∧ gL (D_RealB σ) q k = gL σ q k ∧ gR (D_RealB σ) q k = gR σ q k := by
  unfold D_RealB fil7
  refine ⟨?_, ?_, ?_⟩
  · rw [gI_sI, if_neg (by omega), gI_sI, if_neg (by omega), gI_sI, if_neg (by omega), gI_sI, if_neg (by omega), gI_sI, if_neg (by omega), gI_sI, if_neg (by omega), gI_sI, if_neg (by omega), gI_sI, if_neg (by omega), gI_sI, if_neg (by omega), (cle_n (by omega)).1, (cle_n (by omega)).1, (cle_n (by omega)).1, (cle_n (by omega)).1, (cle_n (by omega)).1, (cle_n (by omega)).1, (cle_n (by omega)).1, (cle_n (by omega)).1, (cle_n (by omega)).1, (cle_n (by omega)).1, (cle_n (by omega)).1, (cle_n (by omega)).1, (cle_n (by omega)).1, (cle_n (by omega)).1]
  · show gL (cle (cle (cle (cle (cle (cle (cle (cle (cle (cle (cle (cle (cle (cle σ 262) 263) 265) 266) 267) 268) 270) 271) 272) 274) 275) 276) 277) 279) q k = _
    rw [(cle_n (by omega)).2.1, (cle_n (by omega)).2.1, (cle_n (by omega)).2.1, (cle_n (by omega)).2.1, (cle_n (by omega)).2.1, (cle_n (by omega)).2.1, (cle_n (by omega)).2.1, (cle_n (by omega)).2.1, (cle_n (by omega)).2.1, (cle_n (by omega)).2.1, (cle_n (by omega)).2.1, (cle_n (by omega)).2.1, (cle_n (by omega)).2.1, (cle_n (by omega)).2.1]
  · show gR (cle (cle (cle (cle (cle (cle (cle (cle (cle (cle (cle (cle (cle (cle σ 262) 263) 265) 266) 267) 268) 270) 271) 272) 274) 275) 276) 277) 279) q k = _
    rw [(cle_n (by omega)).2.2, (cle_n (by omega)).2.2, (cle_n (by omega)).2.2, (cle_n (by omega)).2.2, (cle_n (by omega)).2.2, (cle_n (by omega)).2.2, (cle_n (by omega)).2.2, (cle_n (by omega)).2.2, (cle_n (by omega)).2.2, (cle_n (by omega)).2.2, (cle_n (by omega)).2.2, (cle_n (by omega)).2.2, (cle_n (by omega)).2.2, (cle_n (by omega)).2.2]
set_option maxRecDepth 20000 in
theorem rc_RealB : RLC 260 := by
  intro l w σ a sz b S hb hbs hAO h0 ha hN hSt n
  have hM := i_RealB (l := l) (w := w) (σ := σ) (a := a) (sz := sz) (b := b) (S := S) hb hbs hAO h0 ha hN hSt (n 2 (by decide) (by decide)) (n 3 (by decide) (by decide)) (n 5 (by decide) (by decide)) (n 6 (by decide) (by decide)) (n 7 (by decide) (by decide)) (n 8 (by decide) (by decide)) (n 10 (by decide) (by decide)) (n 11 (by decide) (by decide)) (n 12 (by decide) (by decide)) (n 14 (by decide) (by decide)) (n 15 (by decide) (by decide)) (n 16 (by decide) (by decide)) (n 17 (by decide) (by decide)) (n 19 (by decide) (by decide))
  refine Met_po hM ?_
  rintro u ⟨q1, q2, q3, q4, q5, q6, q7, q8, q9, q10, q11, q12, q13, q14, hu, -⟩
  subst hu
  refine ⟨fun q hq => ⟨W_RealB_l (by omega), W_RealB_a (by omega) rfl⟩, fun q k hq => D_RealB_n (by omega), ⟨_, wLy_se⟩, ?_, fun H hH => ?_, fun j hj h0 => ?_, fun zf => ?_⟩
  · unfold W_RealB
    exact ha_sn (ha_an (by decide) (ha_an (by decide) (ha_an (by decide) (ha_an (by decide) (ha_an (by decide) (ha_an (by decide) (ha_an (by decide) (ha_an (by decide) (ha_an (by decide) (ha_an (by decide) (ha_an (by decide) (ha_an (by decide) (ha_an (by decide) (ha_an (by decide) rfl))))))))))))))
  · refine wd_obj (rf := rfR 260) (N := 20) hH wLy_se rfl (fun q k hq => ⟨rz_n hq, rfl, rfl⟩)
  · rcases (show j = 1 ∨ j = 2 ∨ j = 3 ∨ j = 4 ∨ j = 5 ∨ j = 6 ∨ j = 7 ∨ j = 8 ∨ j = 9 ∨ j = 10 ∨ j = 11 ∨ j = 12 ∨ j = 13 ∨ j = 14 ∨ j = 15 ∨ j = 16 ∨ j = 17 ∨ j = 18 ∨ j = 19 ∨ j = 20 by omega) with rfl | rfl | rfl | rfl | rfl | rfl | rfl | rfl | rfl | rfl | rfl | rfl | rfl | rfl | rfl | rfl | rfl | rfl | rfl | rfl
    · exact no_sn (by decide) (no_an (by decide) (no_an (by decide) (no_an (by decide) (no_an (by decide) (no_an (by decide) (no_an (by decide) (no_an (by decide) (no_an (by decide) (no_an (by decide) (no_an (by decide) (no_an (by decide) (no_an (by decide) (no_an (by decide) (no_an (by decide) (n 1 (by decide) (by decide))))))))))))))))
    · rfl
    · rfl
    · exact no_sn (by decide) (no_an (by decide) (no_an (by decide) (no_an (by decide) (no_an (by decide) (no_an (by decide) (no_an (by decide) (no_an (by decide) (no_an (by decide) (no_an (by decide) (no_an (by decide) (no_an (by decide) (no_an (by decide) (no_an (by decide) (no_an (by decide) (n 4 (by decide) (by decide))))))))))))))))
    · rfl
    · rfl
    · rfl
    · rfl
    · exact no_sn (by decide) (no_an (by decide) (no_an (by decide) (no_an (by decide) (no_an (by decide) (no_an (by decide) (no_an (by decide) (no_an (by decide) (no_an (by decide) (no_an (by decide) (no_an (by decide) (no_an (by decide) (no_an (by decide) (no_an (by decide) (no_an (by decide) (n 9 (by decide) (by decide))))))))))))))))
    · rfl
    · rfl
    · rfl
    · exact no_sn (by decide) (no_an (by decide) (no_an (by decide) (no_an (by decide) (no_an (by decide) (no_an (by decide) (no_an (by decide) (no_an (by decide) (no_an (by decide) (no_an (by decide) (no_an (by decide) (no_an (by decide) (no_an (by decide) (no_an (by decide) (no_an (by decide) (n 13 (by decide) (by decide))))))))))))))))
    · rfl
    · rfl
    · rfl
    · rfl
    · exact no_sn (by decide) (no_an (by decide) (no_an (by decide) (no_an (by decide) (no_an (by decide) (no_an (by decide) (no_an (by decide) (no_an (by decide) (no_an (by decide) (no_an (by decide) (no_an (by decide) (no_an (by decide) (no_an (by decide) (no_an (by decide) (no_an (by decide) (n 18 (by decide) (by decide))))))))))))))))
    · rfl
    · exact no_sn (by decide) (no_an (by decide) (no_an (by decide) (no_an (by decide) (no_an (by decide) (no_an (by decide) (no_an (by decide) (no_an (by decide) (no_an (by decide) (no_an (by decide) (no_an (by decide) (no_an (by decide) (no_an (by decide) (no_an (by decide) (no_an (by decide) (n 20 (by decide) (by decide))))))))))))))))
  · unfold W_RealB
    exact fl_s (fl_a (fl_a (fl_a (fl_a (fl_a (fl_a (fl_a (fl_a (fl_a (fl_a (fl_a (fl_a (fl_a (fl_a zf))))))))))))))
