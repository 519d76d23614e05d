/-! ===== the law's loop (by program: wip/whole/mkw.py) ===== -/
theorem lw_sel (a : Int32) : ∃ k, k < 64 ∧ a &&& 63 = nI k := by
  refine ⟨a.toBitVec.toNat &&& 63, Nat.and_lt_two_pow _ (n := 6) (by decide), ?_⟩
  rw [← nI_and]
  have e : a = nI a.toBitVec.toNat := by
    apply Int32.toBitVec_inj.1
    show a.toBitVec = BitVec.ofNat 32 a.toBitVec.toNat
    simp
  rw [← e]
  rfl
theorem lw_end {p N : Nat} (hN : N ≤ 3584) (hp : p < 2 ^ 20) : Int32.ofNat N - 7 < nI p ↔ N < p + 7 := by
  show nI N - nI 7 < nI p ↔ _
  by_cases h : 7 ≤ N
  · rw [nI_sub h, nI_ltI (by omega) (by omega)]; omega
  · refine ⟨fun _ => by omega, fun _ => ?_⟩
    have h0 : nI N - nI 7 < 0 := by
      rcases (show N = 0 ∨ N = 1 ∨ N = 2 ∨ N = 3 ∨ N = 4 ∨ N = 5 ∨ N = 6 by omega) with e | e | e | e | e | e | e <;> subst e <;> decide
    have h1 : (0 : Int32) ≤ nI p := nI_pos' (by omega)
    grind
section LPP
variable {X : CT} {w v : WO} {A : Nat → Prop} {b : BZ} {z : EXa} {b0 N c0 s0 n p : Nat} {xs : Nat → Int32} {T : TXT} {x m : DD} {Q : State → Prop}
set_option maxRecDepth 20000 in
theorem lw_body (F : FX X v b z A b0 N xs) (C : CLw X w (A, c0, s0) b) (G : GW b T w v x m n) (hp : p + 7 ≤ N) (hn : n < 2 ^ 20) (hc : c0 + 15 ≤ 600000 ∧ s0 + 804 ≤ 7302250) (k : KT X v b A c0 s0 Q b0 p n) : gV X w v (A, c0, s0) Q x m 27 [(0, .ref b0), (1, .ref (wAd w 0)), (2, .ref (wAd v 0)), (3, .int (nI p))] [] := by
  refine v_aload_n C 0 rfl (dk_at dk_Law_0 16 rfl) ?_
  refine v_iload_n C 3 rfl (dk_at dk_Law_0 17 rfl) ?_
  refine v_sld C F.sc (in_0 hp F.n3) (dk_at dk_Law_0 18 rfl) ?_
  refine v_bipush C 63 (dk_at dk_Law_0 19 rfl) ?_
  refine v_iand C (dk_at dk_Law_0 20 rfl) ?_
  obtain ⟨j, hj, ej⟩ := lw_sel (xs (nI p).toNatClampNeg)
  rw [ej]
  clear ej
  by_cases hlt : j < 40
  · rcases (show j = 0 ∨ j = 1 ∨ j = 2 ∨ j = 3 ∨ j = 4 ∨ j = 5 ∨ j = 6 ∨ j = 7 ∨ j = 8 ∨ j = 9 ∨ j = 10 ∨ j = 11 ∨ j = 12 ∨ j = 13 ∨ j = 14 ∨ j = 15 ∨ j = 16 ∨ j = 17 ∨ j = 18 ∨ j = 19 ∨ j = 20 ∨ j = 21 ∨ j = 22 ∨ j = 23 ∨ j = 24 ∨ j = 25 ∨ j = 26 ∨ j = 27 ∨ j = 28 ∨ j = 29 ∨ j = 30 ∨ j = 31 ∨ j = 32 ∨ j = 33 ∨ j = 34 ∨ j = 35 ∨ j = 36 ∨ j = 37 ∨ j = 38 ∨ j = 39 by omega) with rfl | rfl | rfl | rfl | rfl | rfl | rfl | rfl | rfl | rfl | rfl | rfl | rfl | rfl | rfl | rfl | rfl | rfl | rfl | rfl | rfl | rfl | rfl | rfl | rfl | rfl | rfl | rfl | rfl | rfl | rfl | rfl | rfl | rfl | rfl | rfl | rfl | rfl | rfl | rfl
    · exact v_tabK C 0 (off := 175) (tgt := 208) (by decide) (dk_at dk_Law_0 21 rfl) (cs_act F C G hp hn hc k)
    · exact v_tabK C 1 (off := 218) (tgt := 251) (by decide) (dk_at dk_Law_0 21 rfl) (cs_put F C G hp hn hc k)
    · exact v_tabK C 2 (off := 261) (tgt := 294) (by decide) (dk_at dk_Law_0 21 rfl) (cs_of F C G hp hn hc k)
    · exact v_tabK C 3 (off := 294) (tgt := 327) (by decide) (dk_at dk_Law_0 21 rfl) (cs_gainsay F C G hp hn hc k)
    · exact v_tabK C 4 (off := 337) (tgt := 370) (by decide) (dk_at dk_Law_0 21 rfl) (cs_reader F C G hp hn hc k)
    · exact v_tabK C 5 (off := 370) (tgt := 403) (by decide) (dk_at dk_Law_0 21 rfl) (cs_throat F C G hp hn hc k)
    · exact v_tabK C 6 (off := 403) (tgt := 436) (by decide) (dk_at dk_Law_0 21 rfl) (cs_listen F C G hp hn hc k)
    · exact v_tabK C 7 (off := 436) (tgt := 469) (by decide) (dk_at dk_Law_0 21 rfl) (cs_terms F C G hp hn hc k)
    · exact v_tabK C 8 (off := 469) (tgt := 502) (by decide) (dk_at dk_Law_0 21 rfl) (cs_feed F C G hp hn hc k)
    · exact v_tabK C 9 (off := 532) (tgt := 565) (by decide) (dk_at dk_Law_0 21 rfl) (cs_end F C G hp hn hc k)
    · exact v_tabK C 10 (off := 555) (tgt := 588) (by decide) (dk_at dk_Law_0 21 rfl) (cs_row F C G hp hn hc k)
    · exact v_tabK C 11 (off := 568) (tgt := 601) (by decide) (dk_at dk_Law_0 21 rfl) (cs_mud F C G hp hn hc k)
    · exact v_tabK C 12 (off := 581) (tgt := 614) (by decide) (dk_at dk_Law_0 21 rfl) (cs_law F C G hp hn hc k)
    · exact v_tabK C 13 (off := 594) (tgt := 627) (by decide) (dk_at dk_Law_0 21 rfl) (cs_orders F C G hp hn hc k)
    · exact v_tabK C 14 (off := 607) (tgt := 640) (by decide) (dk_at dk_Law_0 21 rfl) (cs_fault F C G hp hn hc k)
    · exact v_tabK C 15 (off := 620) (tgt := 653) (by decide) (dk_at dk_Law_0 21 rfl) (cs_stopped F C G hp hn hc k)
    · exact v_tabK C 16 (off := 633) (tgt := 666) (by decide) (dk_at dk_Law_0 21 rfl) (cs_force F C G hp hn hc k)
    · exact v_tabK C 17 (off := 656) (tgt := 689) (by decide) (dk_at dk_Law_0 21 rfl) (cs_asks F C G hp hn hc k)
    · exact v_tabK C 18 (off := 699) (tgt := 732) (by decide) (dk_at dk_Law_0 21 rfl) (cs_read F C G hp hn hc k)
    · exact v_tabK C 19 (off := 732) (tgt := 765) (by decide) (dk_at dk_Law_0 21 rfl) (cs_undo F C G hp hn hc k)
    · exact v_tabK C 20 (off := 745) (tgt := 778) (by decide) (dk_at dk_Law_0 21 rfl) (cs_log F C G hp hn hc k)
    · exact v_tabK C 21 (off := 778) (tgt := 811) (by decide) (dk_at dk_Law_0 21 rfl) (cs_await F C G hp hn hc k)
    · exact v_tabK C 22 (off := 791) (tgt := 824) (by decide) (dk_at dk_Law_0 21 rfl) (cs_held F C G hp hn hc k)
    · exact v_tabK C 23 (off := 814) (tgt := 847) (by decide) (dk_at dk_Law_0 21 rfl) (cs_bound F C G hp hn hc k)
    · exact v_tabK C 24 (off := 847) (tgt := 880) (by decide) (dk_at dk_Law_0 21 rfl) (cs_mornings F C G hp hn hc k)
    · exact v_tabK C 25 (off := 910) (tgt := 943) (by decide) (dk_at dk_Law_0 21 rfl) (cs_game F C G hp hn hc k)
    · exact v_tabK C 26 (off := 985) (tgt := 1018) (by decide) (dk_at dk_Law_0 21 rfl) (cs_dead F C G hp hn hc k)
    · exact v_tabK C 27 (off := 998) (tgt := 1031) (by decide) (dk_at dk_Law_0 21 rfl) (cs_throats F C G hp hn hc k)
    · exact v_tabK C 28 (off := 1031) (tgt := 1064) (by decide) (dk_at dk_Law_0 21 rfl) (cs_days F C G hp hn hc k)
    · exact v_tabK C 29 (off := 1064) (tgt := 1097) (by decide) (dk_at dk_Law_0 21 rfl) (cs_likely F C G hp hn hc k)
    · exact v_tabK C 30 (off := 1108) (tgt := 1141) (by decide) (dk_at dk_Law_0 21 rfl) (cs_fine F C G hp hn hc k)
    · exact v_tabK C 31 (off := 1161) (tgt := 1194) (by decide) (dk_at dk_Law_0 21 rfl) (cs_forgive F C G hp hn hc k)
    · exact v_tabK C 32 (off := 1174) (tgt := 1207) (by decide) (dk_at dk_Law_0 21 rfl) (cs_judge F C G hp hn hc k)
    · exact v_tabK C 33 (off := 1187) (tgt := 1220) (by decide) (dk_at dk_Law_0 21 rfl) (cs_unwritten F C G hp hn hc k)
    · exact v_tabK C 34 (off := 1210) (tgt := 1243) (by decide) (dk_at dk_Law_0 21 rfl) (cs_years F C G hp hn hc k)
    · exact v_tabK C 35 (off := 1243) (tgt := 1276) (by decide) (dk_at dk_Law_0 21 rfl) (cs_drawn F C G hp hn hc k)
    · exact v_tabK C 36 (off := 1276) (tgt := 1309) (by decide) (dk_at dk_Law_0 21 rfl) (cs_image F C G hp hn hc k)
    · exact v_tabK C 37 (off := 1299) (tgt := 1332) (by decide) (dk_at dk_Law_0 21 rfl) (cs_back F C G hp hn hc k)
    · exact v_tabK C 38 (off := 1322) (tgt := 1355) (by decide) (dk_at dk_Law_0 21 rfl) (cs_count F C G hp hn hc k)
    · exact v_tabK C 39 (off := 1345) (tgt := 1378) (by decide) (dk_at dk_Law_0 21 rfl) (cs_status F C G hp hn hc k)
  · refine v_tabD C (dk_at dk_Law_0 21 rfl) (Or.inr ?_) rfl (k w T x m c0 s0 C (G.call G.inv.mono (fun _ _ => Iff.rfl)) (by omega) (by omega))
    show (39 : Int) < (nI j).toInt
    have e : (nI j).toInt = (j : Int) := by
      have : (nI j).toNatClampNeg = j := nI_clamp (by omega)
      have h0 : (0 : Int32) ≤ nI j := nI_pos' (by omega)
      have h1 : (0 : Int) ≤ (nI j).toInt := by simpa using Int32.le_iff_toInt_le.mp h0
      have h2 : ((nI j).toInt.toNat : Int) = (j : Int) := by exact_mod_cast this
      omega
    rw [e]; omega
theorem lw_head (F : FX X v b z A b0 N xs) (C : CLw X w (A, c0, s0) b) (G : GW b T w v x m n) (hn : p < 2 ^ 20) (hEx : gV X w v (A, c0, s0) Q x m 1397 [(0, .ref b0), (1, .ref (wAd w 0)), (2, .ref (wAd v 0)), (3, .int (nI p))] []) (hb : p + 7 ≤ N → gV X w v (A, c0, s0) Q x m 27 [(0, .ref b0), (1, .ref (wAd w 0)), (2, .ref (wAd v 0)), (3, .int (nI p))] []) : gV X w v (A, c0, s0) Q x m 18 [(0, .ref b0), (1, .ref (wAd w 0)), (2, .ref (wAd v 0)), (3, .int (nI p))] [] := by
  refine v_iload_n C 3 rfl (dk_at dk_Law_0 10 rfl) ?_
  refine v_aload_n C 0 rfl (dk_at dk_Law_0 11 rfl) ?_
  refine v_slen C F.sc (dk_at dk_Law_0 12 rfl) ?_
  refine v_bipush C 7 (dk_at dk_Law_0 13 rfl) ?_
  refine v_isub C (dk_at dk_Law_0 14 rfl) ?_
  exact v_icmp_gt C 1397 rfl (dk_at dk_Law_0 15 rfl) (fun _ => hEx) (fun q => hb (by have := F.n3; rw [lw_end this hn] at q; omega))
set_option maxRecDepth 20000 in
theorem lw_loop (F : FX X v b z A b0 N xs) (hEx : ∀ w T x m p c s n, CLw X w (A, c, s) b → GW b T w v x m n → gV X w v (A, c, s) Q x m 1397 [(0, .ref b0), (1, .ref (wAd w 0)), (2, .ref (wAd v 0)), (3, .int (nI p))] []) : ∀ d n w T x m c s, N < 7 * (n + d) + 7 → n ≤ 512 → CLw X w (A, c, s) b → GW b T w v x m n → c ≤ 200 + 15 * n → s ≤ 30000 + 804 * n → gV X w v (A, c, s) Q x m 18 [(0, .ref b0), (1, .ref (wAd w 0)), (2, .ref (wAd v 0)), (3, .int (nI (7 * n)))] [] := by
  intro d
  induction d with
  | zero =>
    intro n w T x m c s h1 h2 C G hc hs
    exact lw_head F C G (by omega) (hEx w T x m (7 * n) c s n C G) (fun hp => absurd hp (by omega))
  | succ d ih =>
    intro n w T x m c s h1 h2 C G hc hs
    have h3 := F.n3
    refine lw_head F C G (by omega) (hEx w T x m (7 * n) c s n C G) (fun hp => lw_body F C G hp (by omega) ⟨by omega, by omega⟩ (fun w1 T1 x1 m1 c1 s1 C1 G1 hc1 hs1 => ?_))
    refine v_iinc C1 3 rfl (z := nI (7 * (n + 1))) ?_ [(3, .int (nI (7 * (n + 1)))), (0, .ref b0), (1, .ref (wAd w1 0)), (2, .ref (wAd v 0))] rfl rfl (dk_at dk_Law_24 3 rfl) ?_
    · show nI (7 * n) + nI 7 = _
      rw [nI_add']
      congr 1
    refine v_lv [1, 2, 3, 0] rfl ?_
    refine v_goto C1 18 rfl (dk_at dk_Law_24 4 rfl) ?_
    exact ih (n + 1) w1 T1 x1 m1 c1 s1 (by omega) (by omega) C1 G1 (by omega) (by omega)
end LPP
