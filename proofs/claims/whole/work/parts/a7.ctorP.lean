/-! ===== constructors: what they say (by program: wip/whole/gc.py) ===== -/
theorem gW_w {X : CT} {w w' : WO} {L : LIM} {nL : Nat} {Q : State → Prop} {σ : DD} {pc : Nat} {lv : List (Nat × Value)} {st : List Value} (e : w' = w) (k : gW X w' L nL Q σ pc lv st) : gW X w L nL Q σ pc lv st := by subst e; exact k
theorem CG_w {X : CT} {w w' : WO} {L : LIM} {nL : Nat} {cc : ByteArray} {own : String} {rt : Option FieldType} {cw : Cond} {rm : Room} {b : BZ} (e : w' = w) (k : CG X w L nL cc own rt cw rm b) : CG X w' L nL cc own rt cw rm b := by subst e; exact k
theorem NRs_w {w w' : WO} {σ : DD} {S : Nat → Prop} (e : w' = w) (k : NRs w σ S) : NRs w' σ S := by subst e; exact k
theorem wss_comm {w : WO} {o o' : Nat} {y y' : LY} (h : ¬ o' = o) : wSet (wSet w o y) o' y' = wSet (wSet w o' y') o y := by
  have e : (fun j => bif Nat.beq j o' then some y' else bif Nat.beq j o then some y else wLy w j) = (fun j => bif Nat.beq j o then some y else bif Nat.beq j o' then some y' else wLy w j) := by
    funext j
    by_cases c : j = o
    · rw [c, bq_t, bq_f (fun z => h z.symm)]; rfl
    · rw [bq_f c]; rfl
  show ((w.1, w.2.1, w.2.2.1, (fun j => bif Nat.beq j o' then some y' else bif Nat.beq j o then some y else wLy w j), w.2.2.2.2) : WO) = (w.1, w.2.1, w.2.2.1, (fun j => bif Nat.beq j o then some y else bif Nat.beq j o' then some y' else wLy w j), w.2.2.2.2)
  rw [e]
def EZ (U : State) : Prop := va_AO "FadingActs$Text" U ∧ va_AO "FadingActs$Realm" U ∧ va_Nw (.methodLinkNest RX10 22 yX7_init RX10) U
def fil7 (σ : DD) (o : Nat) (v : Int32) : DD := sI (sI (sI (sI (sI (sI (sI σ o 0 v) o 1 v) o 2 v) o 3 v) o 4 v) o 5 v) o 6 v
def wS (n : Nat) (σ : DD) : DD := (fun o k => if o = 8 ∧ k < n then nI (wL.getD k 0) else σ.1 o k, σ.2)
theorem wS_0 {σ : DD} : wS 0 σ = σ := by
  refine Prod.ext (funext fun o => funext fun k => ?_) rfl
  show (if o = 8 ∧ k < 0 then _ else σ.1 o k) = _
  rw [if_neg (fun z => absurd z.2 (Nat.not_lt_zero _))]
theorem wS_s {σ : DD} {n : Nat} {v : Int32} (h : vp_nar .byte v = nI (wL.getD n 0)) : sI (wS n σ) 8 n (vp_nar .byte v) = wS (n + 1) σ := by
  refine Prod.ext (funext fun o => funext fun k => ?_) rfl
  show (if o = 8 ∧ k = n then vp_nar .byte v else if o = 8 ∧ k < n then nI (wL.getD k 0) else σ.1 o k) = if o = 8 ∧ k < n + 1 then nI (wL.getD k 0) else σ.1 o k
  by_cases c : o = 8 ∧ k = n
  · rw [if_pos c, if_pos ⟨c.1, by omega⟩, h, c.2]
  · rw [if_neg c]
    by_cases c2 : o = 8 ∧ k < n
    · rw [if_pos c2, if_pos ⟨c2.1, by omega⟩]
    · rw [if_neg c2, if_neg (fun z => by omega)]
theorem CG.ez {X : CT} {w : WO} {L : LIM} {nL : Nat} {cc : ByteArray} {own : String} {rt : Option FieldType} {cw : Cond} {rm : Room} {b : BZ} (C : CG X w L nL cc own rt cw rm b) (h : ∀ U H, b.2 U H → EZ U) : EZ X.s := by
  have z := C.1.z
  unfold wZ at z
  rw [C.2.1.1] at z
  exact h _ _ z
theorem r_getS {X : CT} {w : WO} {L : LIM} {nL : Nat} {Q : State → Prop} {σ : DD} {pc : Nat} {lv : List (Nat × Value)} {rest : List Value} {cc : ByteArray} {own : String} {rt : Option FieldType} {cw : Cond} {rm : Room} {b : BZ} {a o ci : Nat} {fs : List Value} (C : CG X (wSet w o (lR ci fs)) L nL cc own rt cw rm b) {ix k N : Nat} {ty : FieldType} (hF : FW own ix ci k N ty) (ha : wAd w o = a) {v : Value} (hv : fs[k]? = some v) (hd : decode cc pc = .ok (.getfield ix, 3)) (kk : gW X (wSet w o (lR ci fs)) L nL Q σ (pc + 3) lv (v :: rest)) : gW X (wSet w o (lR ci fs)) L nL Q σ pc lv (.ref a :: rest) := r_getRw C hF o wLy_se (ha_sn ha) hv hd kk
theorem NRs.si {w : WO} {σ : DD} {S : Nat → Prop} (h : NRs w σ S) (o k : Nat) (v : Int32) : NRs w (sI σ o k v) S := h.gr (fun _ _ => rfl)
theorem NRs.fi {w : WO} {σ : DD} {S : Nat → Prop} (h : NRs w σ S) (o : Nat) (v : Int32) : NRs w (fil7 σ o v) S := h.gr (fun _ _ => rfl)
theorem NRs.wS {w : WO} {σ : DD} {S : Nat → Prop} (h : NRs w σ S) (n : Nat) : NRs w (wS n σ) S := h.gr (fun _ _ => rfl)
def ps_Tape_init_0 : List (Nat × Instr × Nat) := [(0, .aload_n 0, 1), (1, .invokespecial 3, 3), (4, .aload_n 0, 1), (5, .sipush 400, 3), (8, .newarray .int, 2), (10, .putfield 11, 3), (13, .return_, 1)]
theorem dk_Tape_init_0 : ps_Tape_init_0.all (dkP cX7_init) = true := by decide +kernel
def ps_Pars_init_0 : List (Nat × Instr × Nat) := [(0, .aload_n 0, 1), (1, .invokespecial 3, 3), (4, .aload_n 0, 1), (5, .sipush 400, 3), (8, .newarray .int, 2), (10, .putfield 11, 3), (13, .aload_n 0, 1), (14, .bipush 72, 2), (16, .newarray .int, 2), (18, .putfield 19, 3), (21, .aload_n 0, 1), (22, .iconst (-1), 1), (23, .putfield 22, 3), (26, .aload_n 0, 1), (27, .aload_n 1, 1), (28, .putfield 26, 3), (31, .return_, 1)]
theorem dk_Pars_init_0 : ps_Pars_init_0.all (dkP cX4_init) = true := by decide +kernel
def ps_Court_init_0 : List (Nat × Instr × Nat) := [(0, .aload_n 0, 1), (1, .invokespecial 3, 3), (4, .aload_n 0, 1), (5, .bipush 8, 2), (7, .newarray .int, 2), (9, .putfield 9, 3), (12, .aload_n 0, 1), (13, .bipush 50, 2), (15, .newarray .long, 2), (17, .putfield 17, 3), (20, .aload_n 0, 1), (21, .sipush 224, 3), (24, .newarray .int, 2), (26, .putfield 21, 3), (29, .aload_n 0, 1), (30, .sipush 224, 3), (33, .newarray .int, 2), (35, .putfield 24, 3), (38, .aload_n 0, 1), (39, .iconst 1, 1), (40, .putfield 27, 3), (43, .aload_n 0, 1), (44, .aload_n 1, 1), (45, .putfield 31, 3), (48, .return_, 1)]
theorem dk_Court_init_0 : ps_Court_init_0.all (dkP cX0_init) = true := by decide +kernel
def ps_Ord_init_0 : List (Nat × Instr × Nat) := [(0, .aload_n 0, 1), (1, .invokespecial 5, 3), (4, .aload_n 0, 1), (5, .bipush 16, 2), (7, .newarray .int, 2), (9, .putfield 11, 3), (12, .aload_n 0, 1), (13, .bipush 50, 2), (15, .newarray .long, 2), (17, .putfield 17, 3), (20, .aload_n 0, 1), (21, .iconst (-1), 1), (22, .putfield 21, 3), (25, .aload_n 0, 1), (26, .aload_n 1, 1), (27, .putfield 25, 3), (30, .aload_n 0, 1), (31, .aload_n 2, 1), (32, .putfield 29, 3), (35, .return_, 1)]
theorem dk_Ord_init_0 : ps_Ord_init_0.all (dkP cX2_init) = true := by decide +kernel
def ps_Morn_init_0 : List (Nat × Instr × Nat) := [(0, .aload_n 0, 1), (1, .invokespecial 3, 3), (4, .aload_n 0, 1), (5, .bipush 8, 2), (7, .newarray .int, 2), (9, .putfield 9, 3), (12, .aload_n 0, 1), (13, .iconst 5, 1), (14, .newarray .int, 2), (16, .putfield 15, 3), (19, .aload_n 0, 1), (20, .bipush 40, 2), (22, .newarray .int, 2), (24, .putfield 18, 3), (27, .aload_n 0, 1), (28, .iconst 5, 1), (29, .newarray .int, 2), (31, .putfield 21, 3), (34, .aload_n 0, 1), (35, .iconst 5, 1), (36, .newarray .int, 2), (38, .putfield 24, 3), (41, .aload_n 0, 1), (42, .aload_n 1, 1), (43, .putfield 27, 3), (46, .aload_n 0, 1), (47, .aload_n 2, 1), (48, .putfield 31, 3), (51, .return_, 1)]
theorem dk_Morn_init_0 : ps_Morn_init_0.all (dkP cX1_init) = true := by decide +kernel
def ps_Shar_init_0 : List (Nat × Instr × Nat) := [(0, .aload_n 0, 1), (1, .invokespecial 3, 3), (4, .aload_n 0, 1), (5, .bipush 8, 2), (7, .newarray .int, 2), (9, .putfield 9, 3), (12, .aload_n 0, 1), (13, .bipush 8, 2), (15, .newarray .int, 2), (17, .putfield 15, 3), (20, .aload_n 0, 1), (21, .iconst 4, 1), (22, .newarray .int, 2), (24, .putfield 18, 3), (27, .aload_n 0, 1), (28, .bipush 32, 2), (30, .newarray .int, 2), (32, .putfield 21, 3), (35, .aload_n 0, 1), (36, .aload_n 1, 1), (37, .putfield 24, 3), (40, .aload_n 0, 1), (41, .aload_n 2, 1), (42, .putfield 28, 3), (45, .return_, 1)]
theorem dk_Shar_init_0 : ps_Shar_init_0.all (dkP cX6_init) = true := by decide +kernel
def ps_Outl_init_0 : List (Nat × Instr × Nat) := [(0, .aload_n 0, 1), (1, .invokespecial 3, 3), (4, .aload_n 0, 1), (5, .bipush 100, 2), (7, .newarray .long, 2), (9, .putfield 9, 3), (12, .aload_n 0, 1), (13, .bipush 8, 2), (15, .newarray .boolean, 2), (17, .putfield 15, 3), (20, .aload_n 0, 1), (21, .bipush 8, 2), (23, .newarray .int, 2), (25, .putfield 19, 3), (28, .aload_n 0, 1), (29, .aload_n 1, 1), (30, .putfield 23, 3), (33, .aload_n 0, 1), (34, .aload_n 2, 1), (35, .putfield 27, 3), (38, .return_, 1)]
theorem dk_Outl_init_0 : ps_Outl_init_0.all (dkP cX3_init) = true := by decide +kernel
def ps_Year_init_0 : List (Nat × Instr × Nat) := [(0, .aload_n 0, 1), (1, .invokespecial 3, 3), (4, .aload_n 0, 1), (5, .bipush 8, 2), (7, .newarray .int, 2), (9, .putfield 9, 3), (12, .aload_n 0, 1), (13, .bipush 8, 2), (15, .newarray .int, 2), (17, .putfield 15, 3), (20, .aload_n 0, 1), (21, .aload_n 1, 1), (22, .putfield 18, 3), (25, .aload_n 0, 1), (26, .aload_n 2, 1), (27, .putfield 22, 3), (30, .return_, 1)]
theorem dk_Year_init_0 : ps_Year_init_0.all (dkP cX9_init) = true := by decide +kernel
def ps_Real_init_0 : List (Nat × Instr × Nat) := [(0, .aload_n 0, 1), (1, .invokespecial 3, 3), (4, .aload_n 0, 1), (5, .bipush 32, 2), (7, .newarray .int, 2), (9, .putfield 9, 3), (12, .aload_n 0, 1), (13, .bipush 8, 2), (15, .newarray .int, 2), (17, .putfield 15, 3), (20, .aload_n 0, 1), (21, .iconst 4, 1), (22, .newarray .int, 2), (24, .putfield 18, 3), (27, .aload_n 0, 1), (28, .iconst 4, 1), (29, .newarray .int, 2), (31, .putfield 21, 3), (34, .aload_n 0, 1), (35, .bipush 7, 2), (37, .newarray .int, 2), (39, .putfield 24, 3), (42, .aload_n 0, 1), (43, .iconst 4, 1), (44, .newarray .int, 2), (46, .putfield 27, 3), (49, .aload_n 0, 1), (50, .bipush 84, 2), (52, .newarray .int, 2), (54, .putfield 30, 3), (57, .aload_n 0, 1), (58, .bipush 84, 2), (60, .newarray .int, 2), (62, .putfield 33, 3), (65, .aload_n 0, 1), (66, .bipush 84, 2), (68, .newarray .int, 2), (70, .putfield 36, 3), (73, .aload_n 0, 1), (74, .bipush 8, 2)]
theorem dk_Real_init_0 : ps_Real_init_0.all (dkP cX5_init) = true := by decide +kernel
def ps_Real_init_1 : List (Nat × Instr × Nat) := [(76, .newarray .int, 2), (78, .putfield 39, 3), (81, .aload_n 0, 1), (82, .bipush 8, 2), (84, .newarray .int, 2), (86, .putfield 42, 3), (89, .aload_n 0, 1), (90, .bipush 8, 2), (92, .newarray .int, 2), (94, .putfield 45, 3), (97, .aload_n 0, 1), (98, .bipush 8, 2), (100, .newarray .int, 2), (102, .putfield 48, 3), (105, .aload_n 0, 1), (106, .bipush 6, 2), (108, .anewarray 51, 3), (111, .putfield 53, 3), (114, .aload_n 0, 1), (115, .iconst (-1), 1), (116, .putfield 57, 3), (119, .aload_n 0, 1), (120, .getfield 24, 3), (123, .bipush 63, 2), (125, .invokestatic 61, 3), (128, .aload_n 0, 1), (129, .getfield 27, 3), (132, .iconst 1, 1), (133, .iconst 3, 1), (134, .iastore, 1), (135, .aload_n 0, 1), (136, .getfield 27, 3), (139, .iconst 2, 1), (140, .bipush 20, 2), (142, .iastore, 1), (143, .return_, 1)]
theorem dk_Real_init_1 : ps_Real_init_1.all (dkP cX5_init) = true := by decide +kernel
def ps_Face_init_0 : List (Nat × Instr × Nat) := [(0, .aload_n 0, 1), (1, .invokespecial 1, 3), (4, .aload_n 0, 1), (5, .new 7, 3), (8, .dup, 1), (9, .invokespecial 9, 3), (12, .putfield 10, 3), (15, .aload_n 0, 1), (16, .iconst 2, 1), (17, .anewarray 7, 3), (20, .putfield 16, 3), (23, .aload_n 0, 1), (24, .new 20, 3), (27, .dup, 1), (28, .invokespecial 22, 3), (31, .putfield 23, 3), (34, .aload_n 0, 1), (35, .new 27, 3), (38, .dup, 1), (39, .aload_n 0, 1), (40, .getfield 23, 3), (43, .invokespecial 29, 3), (46, .putfield 32, 3), (49, .aload_n 0, 1), (50, .new 36, 3), (53, .dup, 1), (54, .aload_n 0, 1), (55, .getfield 10, 3), (58, .invokespecial 38, 3), (61, .putfield 41, 3), (64, .aload_n 0, 1), (65, .new 45, 3), (68, .dup, 1), (69, .aload_n 0, 1), (70, .getfield 10, 3), (73, .aload_n 0, 1), (74, .getfield 41, 3), (77, .invokespecial 47, 3), (80, .putfield 50, 3), (83, .aload_n 0, 1)]
theorem dk_Face_init_0 : ps_Face_init_0.all (dkP cX10_init) = true := by decide +kernel
def ps_Face_init_1 : List (Nat × Instr × Nat) := [(84, .new 54, 3), (87, .dup, 1), (88, .aload_n 0, 1), (89, .getfield 10, 3), (92, .aload_n 0, 1), (93, .getfield 41, 3), (96, .invokespecial 56, 3), (99, .putfield 57, 3), (102, .aload_n 0, 1), (103, .new 61, 3), (106, .dup, 1), (107, .aload_n 0, 1), (108, .getfield 10, 3), (111, .aload_n 0, 1), (112, .getfield 41, 3), (115, .invokespecial 63, 3), (118, .putfield 64, 3), (121, .aload_n 0, 1), (122, .new 68, 3), (125, .dup, 1), (126, .aload_n 0, 1), (127, .getfield 10, 3), (130, .aload_n 0, 1), (131, .getfield 41, 3), (134, .invokespecial 70, 3), (137, .putfield 71, 3), (140, .aload_n 0, 1), (141, .new 75, 3), (144, .dup, 1), (145, .aload_n 0, 1), (146, .getfield 10, 3), (149, .aload_n 0, 1), (150, .getfield 41, 3), (153, .invokespecial 77, 3), (156, .putfield 78, 3), (159, .aload_n 0, 1), (160, .iconst 5, 1), (161, .newarray .int, 2), (163, .putfield 82, 3), (166, .return_, 1)]
theorem dk_Face_init_1 : ps_Face_init_1.all (dkP cX10_init) = true := by decide +kernel
theorem tc_159 : Cond.methodLink RX7 3 Lib.objectInit ∈ TT := tt_in 159 (by decide +kernel) rfl
theorem tc_27 : Cond.instanceMethod Lib.objectInit ∈ TT := tt_in 27 (by decide +kernel) rfl
theorem tc_28 : Cond.code Lib.objectInit ⟨#[0xb1]⟩ 1 none ∈ TT := tt_in 28 (by decide +kernel) rfl
theorem tc_160 : Cond.fieldLink RX7 11 "FadingActs$Tape" "bytes" "[I" ∈ TT := tt_in 160 (by decide +kernel) rfl
theorem fw_Tape_11 : FW RX7 11 7 0 5 (.array .int) := ⟨RX7, TX7, tyX7, rfl, by decide, tin7, tc_160, nmX7, tyX7_ok, rfl, Or.inr ⟨rfl, rfl⟩⟩
theorem tc_152 : Cond.arrayClass .int ∈ TT := tt_in 152 (by decide +kernel) rfl
theorem tc_184 : Cond.methodLink RX4 3 Lib.objectInit ∈ TT := tt_in 184 (by decide +kernel) rfl
theorem tc_186 : Cond.fieldLink RX4 11 "FadingActs$Parser" "code" "[I" ∈ TT := tt_in 186 (by decide +kernel) rfl
theorem fw_Pars_11 : FW RX4 11 4 1 9 (.array .int) := ⟨RX4, TX4, tyX4, rfl, by decide, tin4, tc_186, nmX4, tyX4_ok, rfl, Or.inr ⟨rfl, rfl⟩⟩
theorem tc_187 : Cond.fieldLink RX4 19 "FadingActs$Parser" "heads" "[I" ∈ TT := tt_in 187 (by decide +kernel) rfl
theorem fw_Pars_19 : FW RX4 19 4 2 9 (.array .int) := ⟨RX4, TX4, tyX4, rfl, by decide, tin4, tc_187, nmX4, tyX4_ok, rfl, Or.inr ⟨rfl, rfl⟩⟩
theorem tc_193 : Cond.fieldLink RX4 22 "FadingActs$Parser" "faultAt" "I" ∈ TT := tt_in 193 (by decide +kernel) rfl
theorem fw_Pars_22 : FW RX4 22 4 8 9 .int := ⟨RX4, TX4, tyX4, rfl, by decide, tin4, tc_193, nmX4, tyX4_ok, rfl, Or.inl rfl⟩
theorem tc_185 : Cond.fieldLink RX4 26 "FadingActs$Parser" "tape" "LFadingActs$Tape;" ∈ TT := tt_in 185 (by decide +kernel) rfl
theorem fw_Pars_26 : FW RX4 26 4 0 9 (.object "FadingActs$Tape") := ⟨RX4, TX4, tyX4, rfl, by decide, tin4, tc_185, nmX4, tyX4_ok, rfl, Or.inr ⟨rfl, rfl⟩⟩
theorem tc_219 : Cond.methodLink RX0 3 Lib.objectInit ∈ TT := tt_in 219 (by decide +kernel) rfl
theorem tc_221 : Cond.fieldLink RX0 9 "FadingActs$Court" "words" "[I" ∈ TT := tt_in 221 (by decide +kernel) rfl
theorem fw_Court_9 : FW RX0 9 0 1 6 (.array .int) := ⟨RX0, TX0, tyX0, rfl, by decide, tin0, tc_221, nmX0, tyX0_ok, rfl, Or.inr ⟨rfl, rfl⟩⟩
theorem tc_222 : Cond.fieldLink RX0 17 "FadingActs$Court" "stack" "[J" ∈ TT := tt_in 222 (by decide +kernel) rfl
theorem fw_Court_17 : FW RX0 17 0 2 6 (.array .long) := ⟨RX0, TX0, tyX0, rfl, by decide, tin0, tc_222, nmX0, tyX0_ok, rfl, Or.inr ⟨rfl, rfl⟩⟩
theorem tc_239 : Cond.arrayClass .long ∈ TT := tt_in 239 (by decide +kernel) rfl
theorem tc_223 : Cond.fieldLink RX0 21 "FadingActs$Court" "answers" "[I" ∈ TT := tt_in 223 (by decide +kernel) rfl
theorem fw_Court_21 : FW RX0 21 0 3 6 (.array .int) := ⟨RX0, TX0, tyX0, rfl, by decide, tin0, tc_223, nmX0, tyX0_ok, rfl, Or.inr ⟨rfl, rfl⟩⟩
theorem tc_224 : Cond.fieldLink RX0 24 "FadingActs$Court" "ages" "[I" ∈ TT := tt_in 224 (by decide +kernel) rfl
theorem fw_Court_24 : FW RX0 24 0 4 6 (.array .int) := ⟨RX0, TX0, tyX0, rfl, by decide, tin0, tc_224, nmX0, tyX0_ok, rfl, Or.inr ⟨rfl, rfl⟩⟩
theorem tc_225 : Cond.fieldLink RX0 27 "FadingActs$Court" "age" "I" ∈ TT := tt_in 225 (by decide +kernel) rfl
theorem fw_Court_27 : FW RX0 27 0 5 6 .int := ⟨RX0, TX0, tyX0, rfl, by decide, tin0, tc_225, nmX0, tyX0_ok, rfl, Or.inl rfl⟩
theorem tc_220 : Cond.fieldLink RX0 31 "FadingActs$Court" "realm" "LFadingActs$Realm;" ∈ TT := tt_in 220 (by decide +kernel) rfl
theorem fw_Court_31 : FW RX0 31 0 0 6 (.object "FadingActs$Realm") := ⟨RX0, TX0, tyX0, rfl, by decide, tin0, tc_220, nmX0, tyX0_ok, rfl, Or.inr ⟨rfl, rfl⟩⟩
theorem tc_245 : Cond.methodLink RX2 5 Lib.objectInit ∈ TT := tt_in 245 (by decide +kernel) rfl
theorem tc_248 : Cond.fieldLink RX2 11 "FadingActs$Orders" "words" "[I" ∈ TT := tt_in 248 (by decide +kernel) rfl
theorem fw_Ord_11 : FW RX2 11 2 2 7 (.array .int) := ⟨RX2, TX2, tyX2, rfl, by decide, tin2, tc_248, nmX2, tyX2_ok, rfl, Or.inr ⟨rfl, rfl⟩⟩
theorem tc_249 : Cond.fieldLink RX2 17 "FadingActs$Orders" "stack" "[J" ∈ TT := tt_in 249 (by decide +kernel) rfl
theorem fw_Ord_17 : FW RX2 17 2 3 7 (.array .long) := ⟨RX2, TX2, tyX2, rfl, by decide, tin2, tc_249, nmX2, tyX2_ok, rfl, Or.inr ⟨rfl, rfl⟩⟩
theorem tc_252 : Cond.fieldLink RX2 21 "FadingActs$Orders" "stoppedAt" "I" ∈ TT := tt_in 252 (by decide +kernel) rfl
theorem fw_Ord_21 : FW RX2 21 2 6 7 .int := ⟨RX2, TX2, tyX2, rfl, by decide, tin2, tc_252, nmX2, tyX2_ok, rfl, Or.inl rfl⟩
theorem tc_246 : Cond.fieldLink RX2 25 "FadingActs$Orders" "realm" "LFadingActs$Realm;" ∈ TT := tt_in 246 (by decide +kernel) rfl
theorem fw_Ord_25 : FW RX2 25 2 0 7 (.object "FadingActs$Realm") := ⟨RX2, TX2, tyX2, rfl, by decide, tin2, tc_246, nmX2, tyX2_ok, rfl, Or.inr ⟨rfl, rfl⟩⟩
theorem tc_247 : Cond.fieldLink RX2 29 "FadingActs$Orders" "court" "LFadingActs$Court;" ∈ TT := tt_in 247 (by decide +kernel) rfl
theorem fw_Ord_29 : FW RX2 29 2 1 7 (.object "FadingActs$Court") := ⟨RX2, TX2, tyX2, rfl, by decide, tin2, tc_247, nmX2, tyX2_ok, rfl, Or.inr ⟨rfl, rfl⟩⟩
theorem tc_274 : Cond.methodLink RX1 3 Lib.objectInit ∈ TT := tt_in 274 (by decide +kernel) rfl
theorem tc_277 : Cond.fieldLink RX1 9 "FadingActs$Mornings" "until" "[I" ∈ TT := tt_in 277 (by decide +kernel) rfl
theorem fw_Morn_9 : FW RX1 9 1 2 14 (.array .int) := ⟨RX1, TX1, tyX1, rfl, by decide, tin1, tc_277, nmX1, tyX1_ok, rfl, Or.inr ⟨rfl, rfl⟩⟩
theorem tc_278 : Cond.fieldLink RX1 15 "FadingActs$Mornings" "open" "[I" ∈ TT := tt_in 278 (by decide +kernel) rfl
theorem fw_Morn_15 : FW RX1 15 1 3 14 (.array .int) := ⟨RX1, TX1, tyX1, rfl, by decide, tin1, tc_278, nmX1, tyX1_ok, rfl, Or.inr ⟨rfl, rfl⟩⟩
theorem tc_279 : Cond.fieldLink RX1 18 "FadingActs$Mornings" "lasts" "[I" ∈ TT := tt_in 279 (by decide +kernel) rfl
theorem fw_Morn_18 : FW RX1 18 1 4 14 (.array .int) := ⟨RX1, TX1, tyX1, rfl, by decide, tin1, tc_279, nmX1, tyX1_ok, rfl, Or.inr ⟨rfl, rfl⟩⟩
theorem tc_280 : Cond.fieldLink RX1 21 "FadingActs$Mornings" "row" "[I" ∈ TT := tt_in 280 (by decide +kernel) rfl
theorem fw_Morn_21 : FW RX1 21 1 5 14 (.array .int) := ⟨RX1, TX1, tyX1, rfl, by decide, tin1, tc_280, nmX1, tyX1_ok, rfl, Or.inr ⟨rfl, rfl⟩⟩
theorem tc_281 : Cond.fieldLink RX1 24 "FadingActs$Mornings" "bestRow" "[I" ∈ TT := tt_in 281 (by decide +kernel) rfl
theorem fw_Morn_24 : FW RX1 24 1 6 14 (.array .int) := ⟨RX1, TX1, tyX1, rfl, by decide, tin1, tc_281, nmX1, tyX1_ok, rfl, Or.inr ⟨rfl, rfl⟩⟩
theorem tc_275 : Cond.fieldLink RX1 27 "FadingActs$Mornings" "realm" "LFadingActs$Realm;" ∈ TT := tt_in 275 (by decide +kernel) rfl
theorem fw_Morn_27 : FW RX1 27 1 0 14 (.object "FadingActs$Realm") := ⟨RX1, TX1, tyX1, rfl, by decide, tin1, tc_275, nmX1, tyX1_ok, rfl, Or.inr ⟨rfl, rfl⟩⟩
theorem tc_276 : Cond.fieldLink RX1 31 "FadingActs$Mornings" "court" "LFadingActs$Court;" ∈ TT := tt_in 276 (by decide +kernel) rfl
theorem fw_Morn_31 : FW RX1 31 1 1 14 (.object "FadingActs$Court") := ⟨RX1, TX1, tyX1, rfl, by decide, tin1, tc_276, nmX1, tyX1_ok, rfl, Or.inr ⟨rfl, rfl⟩⟩
theorem tc_325 : Cond.methodLink RX6 3 Lib.objectInit ∈ TT := tt_in 325 (by decide +kernel) rfl
theorem tc_328 : Cond.fieldLink RX6 9 "FadingActs$Sharing" "toldActs" "[I" ∈ TT := tt_in 328 (by decide +kernel) rfl
theorem fw_Shar_9 : FW RX6 9 6 2 7 (.array .int) := ⟨RX6, TX6, tyX6, rfl, by decide, tin6, tc_328, nmX6, tyX6_ok, rfl, Or.inr ⟨rfl, rfl⟩⟩
theorem tc_329 : Cond.fieldLink RX6 15 "FadingActs$Sharing" "dayOfTold" "[I" ∈ TT := tt_in 329 (by decide +kernel) rfl
theorem fw_Shar_15 : FW RX6 15 6 3 7 (.array .int) := ⟨RX6, TX6, tyX6, rfl, by decide, tin6, tc_329, nmX6, tyX6_ok, rfl, Or.inr ⟨rfl, rfl⟩⟩
theorem tc_331 : Cond.fieldLink RX6 18 "FadingActs$Sharing" "room" "[I" ∈ TT := tt_in 331 (by decide +kernel) rfl
theorem fw_Shar_18 : FW RX6 18 6 4 7 (.array .int) := ⟨RX6, TX6, tyX6, rfl, by decide, tin6, tc_331, nmX6, tyX6_ok, rfl, Or.inr ⟨rfl, rfl⟩⟩
theorem tc_332 : Cond.fieldLink RX6 21 "FadingActs$Sharing" "cost" "[I" ∈ TT := tt_in 332 (by decide +kernel) rfl
theorem fw_Shar_21 : FW RX6 21 6 5 7 (.array .int) := ⟨RX6, TX6, tyX6, rfl, by decide, tin6, tc_332, nmX6, tyX6_ok, rfl, Or.inr ⟨rfl, rfl⟩⟩
theorem tc_326 : Cond.fieldLink RX6 24 "FadingActs$Sharing" "realm" "LFadingActs$Realm;" ∈ TT := tt_in 326 (by decide +kernel) rfl
theorem fw_Shar_24 : FW RX6 24 6 0 7 (.object "FadingActs$Realm") := ⟨RX6, TX6, tyX6, rfl, by decide, tin6, tc_326, nmX6, tyX6_ok, rfl, Or.inr ⟨rfl, rfl⟩⟩
theorem tc_327 : Cond.fieldLink RX6 28 "FadingActs$Sharing" "court" "LFadingActs$Court;" ∈ TT := tt_in 327 (by decide +kernel) rfl
theorem fw_Shar_28 : FW RX6 28 6 1 7 (.object "FadingActs$Court") := ⟨RX6, TX6, tyX6, rfl, by decide, tin6, tc_327, nmX6, tyX6_ok, rfl, Or.inr ⟨rfl, rfl⟩⟩
theorem tc_354 : Cond.methodLink RX3 3 Lib.objectInit ∈ TT := tt_in 354 (by decide +kernel) rfl
theorem tc_357 : Cond.fieldLink RX3 9 "FadingActs$Outlook" "parts" "[J" ∈ TT := tt_in 357 (by decide +kernel) rfl
theorem fw_Outl_9 : FW RX3 9 3 2 5 (.array .long) := ⟨RX3, TX3, tyX3, rfl, by decide, tin3, tc_357, nmX3, tyX3_ok, rfl, Or.inr ⟨rfl, rfl⟩⟩
theorem tc_358 : Cond.fieldLink RX3 15 "FadingActs$Outlook" "isSo" "[Z" ∈ TT := tt_in 358 (by decide +kernel) rfl
theorem fw_Outl_15 : FW RX3 15 3 3 5 (.array .boolean) := ⟨RX3, TX3, tyX3, rfl, by decide, tin3, tc_358, nmX3, tyX3_ok, rfl, Or.inr ⟨rfl, rfl⟩⟩
theorem tc_371 : Cond.arrayClass .boolean ∈ TT := tt_in 371 (by decide +kernel) rfl
theorem tc_359 : Cond.fieldLink RX3 19 "FadingActs$Outlook" "sinceDay" "[I" ∈ TT := tt_in 359 (by decide +kernel) rfl
theorem fw_Outl_19 : FW RX3 19 3 4 5 (.array .int) := ⟨RX3, TX3, tyX3, rfl, by decide, tin3, tc_359, nmX3, tyX3_ok, rfl, Or.inr ⟨rfl, rfl⟩⟩
theorem tc_355 : Cond.fieldLink RX3 23 "FadingActs$Outlook" "realm" "LFadingActs$Realm;" ∈ TT := tt_in 355 (by decide +kernel) rfl
theorem fw_Outl_23 : FW RX3 23 3 0 5 (.object "FadingActs$Realm") := ⟨RX3, TX3, tyX3, rfl, by decide, tin3, tc_355, nmX3, tyX3_ok, rfl, Or.inr ⟨rfl, rfl⟩⟩
theorem tc_356 : Cond.fieldLink RX3 27 "FadingActs$Outlook" "court" "LFadingActs$Court;" ∈ TT := tt_in 356 (by decide +kernel) rfl
theorem fw_Outl_27 : FW RX3 27 3 1 5 (.object "FadingActs$Court") := ⟨RX3, TX3, tyX3, rfl, by decide, tin3, tc_356, nmX3, tyX3_ok, rfl, Or.inr ⟨rfl, rfl⟩⟩
theorem tc_377 : Cond.methodLink RX9 3 Lib.objectInit ∈ TT := tt_in 377 (by decide +kernel) rfl
theorem tc_382 : Cond.fieldLink RX9 9 "FadingActs$Years" "readings" "[I" ∈ TT := tt_in 382 (by decide +kernel) rfl
theorem fw_Year_9 : FW RX9 9 9 3 6 (.array .int) := ⟨RX9, TX9, tyX9, rfl, by decide, tin9, tc_382, nmX9, tyX9_ok, rfl, Or.inr ⟨rfl, rfl⟩⟩
theorem tc_384 : Cond.fieldLink RX9 15 "FadingActs$Years" "heldDays" "[I" ∈ TT := tt_in 384 (by decide +kernel) rfl
theorem fw_Year_15 : FW RX9 15 9 4 6 (.array .int) := ⟨RX9, TX9, tyX9, rfl, by decide, tin9, tc_384, nmX9, tyX9_ok, rfl, Or.inr ⟨rfl, rfl⟩⟩
theorem tc_378 : Cond.fieldLink RX9 18 "FadingActs$Years" "realm" "LFadingActs$Realm;" ∈ TT := tt_in 378 (by decide +kernel) rfl
theorem fw_Year_18 : FW RX9 18 9 0 6 (.object "FadingActs$Realm") := ⟨RX9, TX9, tyX9, rfl, by decide, tin9, tc_378, nmX9, tyX9_ok, rfl, Or.inr ⟨rfl, rfl⟩⟩
theorem tc_379 : Cond.fieldLink RX9 22 "FadingActs$Years" "court" "LFadingActs$Court;" ∈ TT := tt_in 379 (by decide +kernel) rfl
theorem fw_Year_22 : FW RX9 22 9 1 6 (.object "FadingActs$Court") := ⟨RX9, TX9, tyX9, rfl, by decide, tin9, tc_379, nmX9, tyX9_ok, rfl, Or.inr ⟨rfl, rfl⟩⟩
theorem tc_34 : Cond.methodLink RX5 3 Lib.objectInit ∈ TT := tt_in 34 (by decide +kernel) rfl
theorem tc_47 : Cond.fieldLink RX5 9 "FadingActs$Realm" "traits" "[I" ∈ TT := tt_in 47 (by decide +kernel) rfl
theorem fw_Real_9 : FW RX5 9 5 1 20 (.array .int) := ⟨RX5, TX5, tyX5, rfl, by decide, tin5, tc_47, nmX5, tyX5_ok, rfl, Or.inr ⟨rfl, rfl⟩⟩
theorem tc_49 : Cond.fieldLink RX5 15 "FadingActs$Realm" "gainsaid" "[I" ∈ TT := tt_in 49 (by decide +kernel) rfl
theorem fw_Real_15 : FW RX5 15 5 2 20 (.array .int) := ⟨RX5, TX5, tyX5, rfl, by decide, tin5, tc_49, nmX5, tyX5_ok, rfl, Or.inr ⟨rfl, rfl⟩⟩
theorem tc_58 : Cond.fieldLink RX5 18 "FadingActs$Realm" "voices" "[I" ∈ TT := tt_in 58 (by decide +kernel) rfl
theorem fw_Real_18 : FW RX5 18 5 4 20 (.array .int) := ⟨RX5, TX5, tyX5, rfl, by decide, tin5, tc_58, nmX5, tyX5_ok, rfl, Or.inr ⟨rfl, rfl⟩⟩
theorem tc_62 : Cond.fieldLink RX5 21 "FadingActs$Realm" "kinds" "[I" ∈ TT := tt_in 62 (by decide +kernel) rfl
theorem fw_Real_21 : FW RX5 21 5 5 20 (.array .int) := ⟨RX5, TX5, tyX5, rfl, by decide, tin5, tc_62, nmX5, tyX5_ok, rfl, Or.inr ⟨rfl, rfl⟩⟩
theorem tc_65 : Cond.fieldLink RX5 24 "FadingActs$Realm" "listeners" "[I" ∈ TT := tt_in 65 (by decide +kernel) rfl
theorem fw_Real_24 : FW RX5 24 5 6 20 (.array .int) := ⟨RX5, TX5, tyX5, rfl, by decide, tin5, tc_65, nmX5, tyX5_ok, rfl, Or.inr ⟨rfl, rfl⟩⟩
theorem tc_67 : Cond.fieldLink RX5 27 "FadingActs$Realm" "terms" "[I" ∈ TT := tt_in 67 (by decide +kernel) rfl
theorem fw_Real_27 : FW RX5 27 5 7 20 (.array .int) := ⟨RX5, TX5, tyX5, rfl, by decide, tin5, tc_67, nmX5, tyX5_ok, rfl, Or.inr ⟨rfl, rfl⟩⟩
theorem tc_80 : Cond.fieldLink RX5 30 "FadingActs$Realm" "toldActs" "[I" ∈ TT := tt_in 80 (by decide +kernel) rfl
theorem fw_Real_30 : FW RX5 30 5 9 20 (.array .int) := ⟨RX5, TX5, tyX5, rfl, by decide, tin5, tc_80, nmX5, tyX5_ok, rfl, Or.inr ⟨rfl, rfl⟩⟩
theorem tc_83 : Cond.fieldLink RX5 33 "FadingActs$Realm" "toldReaders" "[I" ∈ TT := tt_in 83 (by decide +kernel) rfl
theorem fw_Real_33 : FW RX5 33 5 10 20 (.array .int) := ⟨RX5, TX5, tyX5, rfl, by decide, tin5, tc_83, nmX5, tyX5_ok, rfl, Or.inr ⟨rfl, rfl⟩⟩
theorem tc_86 : Cond.fieldLink RX5 36 "FadingActs$Realm" "toldDays" "[I" ∈ TT := tt_in 86 (by decide +kernel) rfl
theorem fw_Real_36 : FW RX5 36 5 11 20 (.array .int) := ⟨RX5, TX5, tyX5, rfl, by decide, tin5, tc_86, nmX5, tyX5_ok, rfl, Or.inr ⟨rfl, rfl⟩⟩
theorem tc_93 : Cond.fieldLink RX5 39 "FadingActs$Realm" "fineDays" "[I" ∈ TT := tt_in 93 (by decide +kernel) rfl
theorem fw_Real_39 : FW RX5 39 5 13 20 (.array .int) := ⟨RX5, TX5, tyX5, rfl, by decide, tin5, tc_93, nmX5, tyX5_ok, rfl, Or.inr ⟨rfl, rfl⟩⟩
theorem tc_96 : Cond.fieldLink RX5 42 "FadingActs$Realm" "fineKinds" "[I" ∈ TT := tt_in 96 (by decide +kernel) rfl
theorem fw_Real_42 : FW RX5 42 5 14 20 (.array .int) := ⟨RX5, TX5, tyX5, rfl, by decide, tin5, tc_96, nmX5, tyX5_ok, rfl, Or.inr ⟨rfl, rfl⟩⟩
theorem tc_99 : Cond.fieldLink RX5 45 "FadingActs$Realm" "fineActs" "[I" ∈ TT := tt_in 99 (by decide +kernel) rfl
theorem fw_Real_45 : FW RX5 45 5 15 20 (.array .int) := ⟨RX5, TX5, tyX5, rfl, by decide, tin5, tc_99, nmX5, tyX5_ok, rfl, Or.inr ⟨rfl, rfl⟩⟩
theorem tc_102 : Cond.fieldLink RX5 48 "FadingActs$Realm" "fineIs" "[I" ∈ TT := tt_in 102 (by decide +kernel) rfl
theorem fw_Real_48 : FW RX5 48 5 16 20 (.array .int) := ⟨RX5, TX5, tyX5, rfl, by decide, tin5, tc_102, nmX5, tyX5_ok, rfl, Or.inr ⟨rfl, rfl⟩⟩
theorem tc_107 : Cond.fieldLink RX5 53 "FadingActs$Realm" "texts" "[LFadingActs$Text;" ∈ TT := tt_in 107 (by decide +kernel) rfl
theorem fw_Real_53 : FW RX5 53 5 18 20 (.array (.object "FadingActs$Text")) := ⟨RX5, TX5, tyX5, rfl, by decide, tin5, tc_107, nmX5, tyX5_ok, rfl, Or.inr ⟨rfl, rfl⟩⟩
theorem tc_35 : Cond.classLink RX5 51 "FadingActs$Text" ∈ TT := tt_in 35 (by decide +kernel) rfl
theorem tc_109 : Cond.fieldLink RX5 57 "FadingActs$Realm" "inForce" "I" ∈ TT := tt_in 109 (by decide +kernel) rfl
theorem fw_Real_57 : FW RX5 57 5 19 20 .int := ⟨RX5, TX5, tyX5, rfl, by decide, tin5, tc_109, nmX5, tyX5_ok, rfl, Or.inl rfl⟩
theorem tc_37 : Cond.methodLink RX5 61 yJ7_fill_53178 ∈ TT := tt_in 37 (by decide +kernel) rfl
theorem tc_38 : Cond.static yJ7_fill_53178 ∈ TT := tt_in 38 (by decide +kernel) rfl
theorem tc_3 : Cond.initialized RJ7 ∈ TT := tt_in 3 (by decide +kernel) rfl
theorem tc_39 : Cond.code yJ7_fill_53178 cJ7_fill_53178 4 none ∈ TT := tt_in 39 (by decide +kernel) rfl
theorem cs_fill : CS RX5 61 yJ7_fill_53178 cJ7_fill_53178 4 none 2 := ⟨tc_37, tc_38, tc_3, tc_39, by decide, by decide, by decide +kernel⟩
theorem tc_26 : Cond.methodLink RX10 1 Lib.objectInit ∈ TT := tt_in 26 (by decide +kernel) rfl
theorem tc_29 : Cond.classLink RX10 7 RX5 ∈ TT := tt_in 29 (by decide +kernel) rfl
theorem tc_30 : Cond.instantiable RX5 20 ∈ TT := tt_in 30 (by decide +kernel) rfl
theorem tc_2 : Cond.initialized RX5 ∈ TT := tt_in 2 (by decide +kernel) rfl
theorem no_Face_7 : NO RX10 7 5 20 [.int 0, .null, .null, .int 0, .null, .null, .null, .null, .int 0, .null, .null, .null, .int 0, .null, .null, .null, .null, .int 0, .null, .int 0] := ⟨RX5, TX5, tyX5, rfl, tin5, tc_29, tc_30, tc_2, tyX5_ok, fun j hj => by
  rcases (show j = 0 ∨ j = 1 ∨ j = 2 ∨ j = 3 ∨ j = 4 ∨ j = 5 ∨ j = 6 ∨ j = 7 ∨ j = 8 ∨ j = 9 ∨ j = 10 ∨ j = 11 ∨ j = 12 ∨ j = 13 ∨ j = 14 ∨ j = 15 ∨ j = 16 ∨ j = 17 ∨ j = 18 ∨ j = 19 by omega) with rfl | rfl | rfl | rfl | rfl | rfl | rfl | rfl | rfl | rfl | rfl | rfl | rfl | rfl | rfl | rfl | rfl | rfl | rfl | rfl <;> rfl⟩
theorem tc_31 : Cond.methodLink RX10 9 yX5_init ∈ TT := tt_in 31 (by decide +kernel) rfl
theorem tc_32 : Cond.instanceMethod yX5_init ∈ TT := tt_in 32 (by decide +kernel) rfl
theorem tc_33 : Cond.code yX5_init cX5_init 1 none ∈ TT := tt_in 33 (by decide +kernel) rfl
theorem ci_Face_9 : CI RX10 9 yX5_init cX5_init 1 0 := ⟨tc_31, tc_32, tc_2, tc_33, rfl, by decide, by decide, by decide +kernel⟩
theorem tc_400 : Cond.fieldLink RX10 10 "FadingActs" "realm" "LFadingActs$Realm;" ∈ TT := tt_in 400 (by decide +kernel) rfl
theorem fw_Face_10 : FW RX10 10 10 0 13 (.object "FadingActs$Realm") := ⟨RX10, TX10, tyX10, rfl, by decide, tin10, tc_400, nmX10, tyX10_ok, rfl, Or.inr ⟨rfl, rfl⟩⟩
theorem tc_401 : Cond.fieldLink RX10 16 "FadingActs" "images" "[LFadingActs$Realm;" ∈ TT := tt_in 401 (by decide +kernel) rfl
theorem fw_Face_16 : FW RX10 16 10 1 13 (.array (.object "FadingActs$Realm")) := ⟨RX10, TX10, tyX10, rfl, by decide, tin10, tc_401, nmX10, tyX10_ok, rfl, Or.inr ⟨rfl, rfl⟩⟩
theorem tc_154 : Cond.classLink RX10 20 RX7 ∈ TT := tt_in 154 (by decide +kernel) rfl
theorem tc_155 : Cond.instantiable RX7 5 ∈ TT := tt_in 155 (by decide +kernel) rfl
theorem tc_4 : Cond.initialized RX7 ∈ TT := tt_in 4 (by decide +kernel) rfl
theorem no_Face_20 : NO RX10 20 7 5 [.null, .int 0, .int 0, .int 0, .int 0] := ⟨RX7, TX7, tyX7, rfl, tin7, tc_154, tc_155, tc_4, tyX7_ok, fun j hj => by
  rcases (show j = 0 ∨ j = 1 ∨ j = 2 ∨ j = 3 ∨ j = 4 by omega) with rfl | rfl | rfl | rfl | rfl <;> rfl⟩
theorem tc_157 : Cond.instanceMethod yX7_init ∈ TT := tt_in 157 (by decide +kernel) rfl
theorem tc_158 : Cond.code yX7_init cX7_init 1 none ∈ TT := tt_in 158 (by decide +kernel) rfl
theorem cn_Tape : CN9 yX7_init cX7_init 1 0 := ⟨tc_157, tc_4, tc_158, rfl, by decide, by decide, by decide +kernel⟩
theorem tc_402 : Cond.fieldLink RX10 23 "FadingActs" "tape" "LFadingActs$Tape;" ∈ TT := tt_in 402 (by decide +kernel) rfl
theorem fw_Face_23 : FW RX10 23 10 2 13 (.object "FadingActs$Tape") := ⟨RX10, TX10, tyX10, rfl, by decide, tin10, tc_402, nmX10, tyX10_ok, rfl, Or.inr ⟨rfl, rfl⟩⟩
theorem tc_179 : Cond.classLink RX10 27 RX4 ∈ TT := tt_in 179 (by decide +kernel) rfl
theorem tc_180 : Cond.instantiable RX4 9 ∈ TT := tt_in 180 (by decide +kernel) rfl
theorem tc_5 : Cond.initialized RX4 ∈ TT := tt_in 5 (by decide +kernel) rfl
theorem no_Face_27 : NO RX10 27 4 9 [.null, .null, .null, .int 0, .int 0, .int 0, .int 0, .int 0, .int 0] := ⟨RX4, TX4, tyX4, rfl, tin4, tc_179, tc_180, tc_5, tyX4_ok, fun j hj => by
  rcases (show j = 0 ∨ j = 1 ∨ j = 2 ∨ j = 3 ∨ j = 4 ∨ j = 5 ∨ j = 6 ∨ j = 7 ∨ j = 8 by omega) with rfl | rfl | rfl | rfl | rfl | rfl | rfl | rfl | rfl <;> rfl⟩
theorem tc_181 : Cond.methodLink RX10 29 yX4_init ∈ TT := tt_in 181 (by decide +kernel) rfl
theorem tc_182 : Cond.instanceMethod yX4_init ∈ TT := tt_in 182 (by decide +kernel) rfl
theorem tc_183 : Cond.code yX4_init cX4_init 2 none ∈ TT := tt_in 183 (by decide +kernel) rfl
theorem ci_Face_29 : CI RX10 29 yX4_init cX4_init 2 1 := ⟨tc_181, tc_182, tc_5, tc_183, rfl, by decide, by decide, by decide +kernel⟩
theorem tc_403 : Cond.fieldLink RX10 32 "FadingActs" "parser" "LFadingActs$Parser;" ∈ TT := tt_in 403 (by decide +kernel) rfl
theorem fw_Face_32 : FW RX10 32 10 3 13 (.object "FadingActs$Parser") := ⟨RX10, TX10, tyX10, rfl, by decide, tin10, tc_403, nmX10, tyX10_ok, rfl, Or.inr ⟨rfl, rfl⟩⟩
theorem tc_214 : Cond.classLink RX10 36 RX0 ∈ TT := tt_in 214 (by decide +kernel) rfl
theorem tc_215 : Cond.instantiable RX0 6 ∈ TT := tt_in 215 (by decide +kernel) rfl
theorem tc_6 : Cond.initialized RX0 ∈ TT := tt_in 6 (by decide +kernel) rfl
theorem no_Face_36 : NO RX10 36 0 6 [.null, .null, .null, .null, .null, .int 0] := ⟨RX0, TX0, tyX0, rfl, tin0, tc_214, tc_215, tc_6, tyX0_ok, fun j hj => by
  rcases (show j = 0 ∨ j = 1 ∨ j = 2 ∨ j = 3 ∨ j = 4 ∨ j = 5 by omega) with rfl | rfl | rfl | rfl | rfl | rfl <;> rfl⟩
theorem tc_216 : Cond.methodLink RX10 38 yX0_init ∈ TT := tt_in 216 (by decide +kernel) rfl
theorem tc_217 : Cond.instanceMethod yX0_init ∈ TT := tt_in 217 (by decide +kernel) rfl
theorem tc_218 : Cond.code yX0_init cX0_init 2 none ∈ TT := tt_in 218 (by decide +kernel) rfl
theorem ci_Face_38 : CI RX10 38 yX0_init cX0_init 2 1 := ⟨tc_216, tc_217, tc_6, tc_218, rfl, by decide, by decide, by decide +kernel⟩
theorem tc_404 : Cond.fieldLink RX10 41 "FadingActs" "court" "LFadingActs$Court;" ∈ TT := tt_in 404 (by decide +kernel) rfl
theorem fw_Face_41 : FW RX10 41 10 4 13 (.object "FadingActs$Court") := ⟨RX10, TX10, tyX10, rfl, by decide, tin10, tc_404, nmX10, tyX10_ok, rfl, Or.inr ⟨rfl, rfl⟩⟩
theorem tc_240 : Cond.classLink RX10 45 RX2 ∈ TT := tt_in 240 (by decide +kernel) rfl
theorem tc_241 : Cond.instantiable RX2 7 ∈ TT := tt_in 241 (by decide +kernel) rfl
theorem tc_7 : Cond.initialized RX2 ∈ TT := tt_in 7 (by decide +kernel) rfl
theorem no_Face_45 : NO RX10 45 2 7 [.null, .null, .null, .null, .int 0, .int 0, .int 0] := ⟨RX2, TX2, tyX2, rfl, tin2, tc_240, tc_241, tc_7, tyX2_ok, fun j hj => by
  rcases (show j = 0 ∨ j = 1 ∨ j = 2 ∨ j = 3 ∨ j = 4 ∨ j = 5 ∨ j = 6 by omega) with rfl | rfl | rfl | rfl | rfl | rfl | rfl <;> rfl⟩
theorem tc_242 : Cond.methodLink RX10 47 yX2_init ∈ TT := tt_in 242 (by decide +kernel) rfl
theorem tc_243 : Cond.instanceMethod yX2_init ∈ TT := tt_in 243 (by decide +kernel) rfl
theorem tc_244 : Cond.code yX2_init cX2_init 3 none ∈ TT := tt_in 244 (by decide +kernel) rfl
theorem ci_Face_47 : CI RX10 47 yX2_init cX2_init 3 2 := ⟨tc_242, tc_243, tc_7, tc_244, rfl, by decide, by decide, by decide +kernel⟩
theorem tc_405 : Cond.fieldLink RX10 50 "FadingActs" "runner" "LFadingActs$Orders;" ∈ TT := tt_in 405 (by decide +kernel) rfl
theorem fw_Face_50 : FW RX10 50 10 5 13 (.object "FadingActs$Orders") := ⟨RX10, TX10, tyX10, rfl, by decide, tin10, tc_405, nmX10, tyX10_ok, rfl, Or.inr ⟨rfl, rfl⟩⟩
theorem tc_269 : Cond.classLink RX10 54 RX1 ∈ TT := tt_in 269 (by decide +kernel) rfl
theorem tc_270 : Cond.instantiable RX1 14 ∈ TT := tt_in 270 (by decide +kernel) rfl
theorem tc_8 : Cond.initialized RX1 ∈ TT := tt_in 8 (by decide +kernel) rfl
theorem no_Face_54 : NO RX10 54 1 14 [.null, .null, .null, .null, .null, .null, .null, .int 0, .int 0, .int 0, .int 0, .int 0, .int 0, .int 0] := ⟨RX1, TX1, tyX1, rfl, tin1, tc_269, tc_270, tc_8, tyX1_ok, fun j hj => by
  rcases (show j = 0 ∨ j = 1 ∨ j = 2 ∨ j = 3 ∨ j = 4 ∨ j = 5 ∨ j = 6 ∨ j = 7 ∨ j = 8 ∨ j = 9 ∨ j = 10 ∨ j = 11 ∨ j = 12 ∨ j = 13 by omega) with rfl | rfl | rfl | rfl | rfl | rfl | rfl | rfl | rfl | rfl | rfl | rfl | rfl | rfl <;> rfl⟩
theorem tc_271 : Cond.methodLink RX10 56 yX1_init ∈ TT := tt_in 271 (by decide +kernel) rfl
theorem tc_272 : Cond.instanceMethod yX1_init ∈ TT := tt_in 272 (by decide +kernel) rfl
theorem tc_273 : Cond.code yX1_init cX1_init 3 none ∈ TT := tt_in 273 (by decide +kernel) rfl
theorem ci_Face_56 : CI RX10 56 yX1_init cX1_init 3 2 := ⟨tc_271, tc_272, tc_8, tc_273, rfl, by decide, by decide, by decide +kernel⟩
theorem tc_406 : Cond.fieldLink RX10 57 "FadingActs" "planner" "LFadingActs$Mornings;" ∈ TT := tt_in 406 (by decide +kernel) rfl
theorem fw_Face_57 : FW RX10 57 10 6 13 (.object "FadingActs$Mornings") := ⟨RX10, TX10, tyX10, rfl, by decide, tin10, tc_406, nmX10, tyX10_ok, rfl, Or.inr ⟨rfl, rfl⟩⟩
theorem tc_320 : Cond.classLink RX10 61 RX6 ∈ TT := tt_in 320 (by decide +kernel) rfl
theorem tc_321 : Cond.instantiable RX6 7 ∈ TT := tt_in 321 (by decide +kernel) rfl
theorem tc_9 : Cond.initialized RX6 ∈ TT := tt_in 9 (by decide +kernel) rfl
theorem no_Face_61 : NO RX10 61 6 7 [.null, .null, .null, .null, .null, .null, .int 0] := ⟨RX6, TX6, tyX6, rfl, tin6, tc_320, tc_321, tc_9, tyX6_ok, fun j hj => by
  rcases (show j = 0 ∨ j = 1 ∨ j = 2 ∨ j = 3 ∨ j = 4 ∨ j = 5 ∨ j = 6 by omega) with rfl | rfl | rfl | rfl | rfl | rfl | rfl <;> rfl⟩
theorem tc_322 : Cond.methodLink RX10 63 yX6_init ∈ TT := tt_in 322 (by decide +kernel) rfl
theorem tc_323 : Cond.instanceMethod yX6_init ∈ TT := tt_in 323 (by decide +kernel) rfl
theorem tc_324 : Cond.code yX6_init cX6_init 3 none ∈ TT := tt_in 324 (by decide +kernel) rfl
theorem ci_Face_63 : CI RX10 63 yX6_init cX6_init 3 2 := ⟨tc_322, tc_323, tc_9, tc_324, rfl, by decide, by decide, by decide +kernel⟩
theorem tc_407 : Cond.fieldLink RX10 64 "FadingActs" "sharing" "LFadingActs$Sharing;" ∈ TT := tt_in 407 (by decide +kernel) rfl
theorem fw_Face_64 : FW RX10 64 10 7 13 (.object "FadingActs$Sharing") := ⟨RX10, TX10, tyX10, rfl, by decide, tin10, tc_407, nmX10, tyX10_ok, rfl, Or.inr ⟨rfl, rfl⟩⟩
theorem tc_349 : Cond.classLink RX10 68 RX3 ∈ TT := tt_in 349 (by decide +kernel) rfl
theorem tc_350 : Cond.instantiable RX3 5 ∈ TT := tt_in 350 (by decide +kernel) rfl
theorem tc_10 : Cond.initialized RX3 ∈ TT := tt_in 10 (by decide +kernel) rfl
theorem no_Face_68 : NO RX10 68 3 5 [.null, .null, .null, .null, .null] := ⟨RX3, TX3, tyX3, rfl, tin3, tc_349, tc_350, tc_10, tyX3_ok, fun j hj => by
  rcases (show j = 0 ∨ j = 1 ∨ j = 2 ∨ j = 3 ∨ j = 4 by omega) with rfl | rfl | rfl | rfl | rfl <;> rfl⟩
theorem tc_351 : Cond.methodLink RX10 70 yX3_init ∈ TT := tt_in 351 (by decide +kernel) rfl
theorem tc_352 : Cond.instanceMethod yX3_init ∈ TT := tt_in 352 (by decide +kernel) rfl
theorem tc_353 : Cond.code yX3_init cX3_init 3 none ∈ TT := tt_in 353 (by decide +kernel) rfl
theorem ci_Face_70 : CI RX10 70 yX3_init cX3_init 3 2 := ⟨tc_351, tc_352, tc_10, tc_353, rfl, by decide, by decide, by decide +kernel⟩
theorem tc_408 : Cond.fieldLink RX10 71 "FadingActs" "outlook" "LFadingActs$Outlook;" ∈ TT := tt_in 408 (by decide +kernel) rfl
theorem fw_Face_71 : FW RX10 71 10 8 13 (.object "FadingActs$Outlook") := ⟨RX10, TX10, tyX10, rfl, by decide, tin10, tc_408, nmX10, tyX10_ok, rfl, Or.inr ⟨rfl, rfl⟩⟩
theorem tc_372 : Cond.classLink RX10 75 RX9 ∈ TT := tt_in 372 (by decide +kernel) rfl
theorem tc_373 : Cond.instantiable RX9 6 ∈ TT := tt_in 373 (by decide +kernel) rfl
theorem tc_11 : Cond.initialized RX9 ∈ TT := tt_in 11 (by decide +kernel) rfl
theorem no_Face_75 : NO RX10 75 9 6 [.null, .null, .int 0, .null, .null, .int 0] := ⟨RX9, TX9, tyX9, rfl, tin9, tc_372, tc_373, tc_11, tyX9_ok, fun j hj => by
  rcases (show j = 0 ∨ j = 1 ∨ j = 2 ∨ j = 3 ∨ j = 4 ∨ j = 5 by omega) with rfl | rfl | rfl | rfl | rfl | rfl <;> rfl⟩
theorem tc_374 : Cond.methodLink RX10 77 yX9_init ∈ TT := tt_in 374 (by decide +kernel) rfl
theorem tc_375 : Cond.instanceMethod yX9_init ∈ TT := tt_in 375 (by decide +kernel) rfl
theorem tc_376 : Cond.code yX9_init cX9_init 3 none ∈ TT := tt_in 376 (by decide +kernel) rfl
theorem ci_Face_77 : CI RX10 77 yX9_init cX9_init 3 2 := ⟨tc_374, tc_375, tc_11, tc_376, rfl, by decide, by decide, by decide +kernel⟩
theorem tc_409 : Cond.fieldLink RX10 78 "FadingActs" "diary" "LFadingActs$Years;" ∈ TT := tt_in 409 (by decide +kernel) rfl
theorem fw_Face_78 : FW RX10 78 10 9 13 (.object "FadingActs$Years") := ⟨RX10, TX10, tyX10, rfl, by decide, tin10, tc_409, nmX10, tyX10_ok, rfl, Or.inr ⟨rfl, rfl⟩⟩
theorem tc_410 : Cond.fieldLink RX10 82 "FadingActs" "refusals" "[I" ∈ TT := tt_in 410 (by decide +kernel) rfl
theorem fw_Face_82 : FW RX10 82 10 10 13 (.array .int) := ⟨RX10, TX10, tyX10, rfl, by decide, tin10, tc_410, nmX10, tyX10_ok, rfl, Or.inr ⟨rfl, rfl⟩⟩
theorem i_fill {l : Launch} {w : WO} {σ : DD} {o a : Nat} {v : Int32} (hy : wLy w o = some (lI 0 7)) (ha : wAd w o = a) : MV l w yJ7_fill_53178 cJ7_fill_53178 4 (rmK 0 0) σ [.ref a, .int v] (fun τ => τ = fil7 σ o v) := by
  subst ha
  refine met_head (rt := none) (by decide) rfl (fun X hX C => ?_)
  show gW X w (lim0 w) 4 _ σ 0 [(0, .ref (wAd w o)), (1, .int v)] []
  refine r_iconst C 0 (dk_at dk_J7_fill_53178_0 0 rfl) ?_
  refine r_istore_n C [(2, .int 0), (0, .ref (wAd w o)), (1, .int v)] rfl rfl (dk_at dk_J7_fill_53178_0 1 rfl) ?_
  refine r_aload_n C 1 rfl (dk_at dk_J7_fill_53178_0 2 rfl) ?_
  refine r_alenI C o hy (by decide) 7 (by decide) (dk_at dk_J7_fill_53178_0 3 rfl) ?_
  refine r_istore_n C [(3, .int 7), (2, .int 0), (0, .ref (wAd w o)), (1, .int v)] rfl rfl (dk_at dk_J7_fill_53178_0 4 rfl) ?_
  refine r_iload_n C 1 rfl (dk_at dk_J7_fill_53178_0 5 rfl) ?_
  refine r_iload_n C 0 rfl (dk_at dk_J7_fill_53178_0 6 rfl) ?_
  refine r_icmp_ge C 20 rfl (dk_at dk_J7_fill_53178_0 7 rfl) (fun z => absurd z (by decide)) (fun _ => ?_)
  refine r_aload_n C 2 rfl (dk_at dk_J7_fill_53178_0 8 rfl) ?_
  refine r_iload_n C 1 rfl (dk_at dk_J7_fill_53178_0 9 rfl) ?_
  refine r_iload_n C 3 rfl (dk_at dk_J7_fill_53178_0 10 rfl) ?_
  refine r_iastK C o hy (k := 0) rfl (vp_lit rfl) (dk_at dk_J7_fill_53178_0 11 rfl) ?_
  refine r_iinc C 1 rfl (v := 1) rfl [(2, .int 1), (3, .int 7), (0, .ref (wAd w o)), (1, .int v)] rfl rfl (dk_at dk_J7_fill_53178_0 12 rfl) ?_
  refine r_goto C 5 rfl (dk_at dk_J7_fill_53178_0 13 rfl) ?_
  refine r_iload_n C 0 rfl (dk_at dk_J7_fill_53178_0 5 rfl) ?_
  refine r_iload_n C 1 rfl (dk_at dk_J7_fill_53178_0 6 rfl) ?_
  refine r_icmp_ge C 20 rfl (dk_at dk_J7_fill_53178_0 7 rfl) (fun z => absurd z (by decide)) (fun _ => ?_)
  refine r_aload_n C 2 rfl (dk_at dk_J7_fill_53178_0 8 rfl) ?_
  refine r_iload_n C 0 rfl (dk_at dk_J7_fill_53178_0 9 rfl) ?_
  refine r_iload_n C 3 rfl (dk_at dk_J7_fill_53178_0 10 rfl) ?_
  refine r_iastK C o hy (k := 1) rfl (vp_lit rfl) (dk_at dk_J7_fill_53178_0 11 rfl) ?_
  refine r_iinc C 0 rfl (v := 2) rfl [(2, .int 2), (3, .int 7), (0, .ref (wAd w o)), (1, .int v)] rfl rfl (dk_at dk_J7_fill_53178_0 12 rfl) ?_
  refine r_goto C 5 rfl (dk_at dk_J7_fill_53178_0 13 rfl) ?_
  refine r_iload_n C 0 rfl (dk_at dk_J7_fill_53178_0 5 rfl) ?_
  refine r_iload_n C 1 rfl (dk_at dk_J7_fill_53178_0 6 rfl) ?_
  refine r_icmp_ge C 20 rfl (dk_at dk_J7_fill_53178_0 7 rfl) (fun z => absurd z (by decide)) (fun _ => ?_)
  refine r_aload_n C 2 rfl (dk_at dk_J7_fill_53178_0 8 rfl) ?_
  refine r_iload_n C 0 rfl (dk_at dk_J7_fill_53178_0 9 rfl) ?_
  refine r_iload_n C 3 rfl (dk_at dk_J7_fill_53178_0 10 rfl) ?_
  refine r_iastK C o hy (k := 2) rfl (vp_lit rfl) (dk_at dk_J7_fill_53178_0 11 rfl) ?_
  refine r_iinc C 0 rfl (v := 3) rfl [(2, .int 3), (3, .int 7), (0, .ref (wAd w o)), (1, .int v)] rfl rfl (dk_at dk_J7_fill_53178_0 12 rfl) ?_
  refine r_goto C 5 rfl (dk_at dk_J7_fill_53178_0 13 rfl) ?_
  refine r_iload_n C 0 rfl (dk_at dk_J7_fill_53178_0 5 rfl) ?_
  refine r_iload_n C 1 rfl (dk_at dk_J7_fill_53178_0 6 rfl) ?_
  refine r_icmp_ge C 20 rfl (dk_at dk_J7_fill_53178_0 7 rfl) (fun z => absurd z (by decide)) (fun _ => ?_)
  refine r_aload_n C 2 rfl (dk_at dk_J7_fill_53178_0 8 rfl) ?_
  refine r_iload_n C 0 rfl (dk_at dk_J7_fill_53178_0 9 rfl) ?_
  refine r_iload_n C 3 rfl (dk_at dk_J7_fill_53178_0 10 rfl) ?_
  refine r_iastK C o hy (k := 3) rfl (vp_lit rfl) (dk_at dk_J7_fill_53178_0 11 rfl) ?_
  refine r_iinc C 0 rfl (v := 4) rfl [(2, .int 4), (3, .int 7), (0, .ref (wAd w o)), (1, .int v)] rfl rfl (dk_at dk_J7_fill_53178_0 12 rfl) ?_
  refine r_goto C 5 rfl (dk_at dk_J7_fill_53178_0 13 rfl) ?_
  refine r_iload_n C 0 rfl (dk_at dk_J7_fill_53178_0 5 rfl) ?_
  refine r_iload_n C 1 rfl (dk_at dk_J7_fill_53178_0 6 rfl) ?_
  refine r_icmp_ge C 20 rfl (dk_at dk_J7_fill_53178_0 7 rfl) (fun z => absurd z (by decide)) (fun _ => ?_)
  refine r_aload_n C 2 rfl (dk_at dk_J7_fill_53178_0 8 rfl) ?_
  refine r_iload_n C 0 rfl (dk_at dk_J7_fill_53178_0 9 rfl) ?_
  refine r_iload_n C 3 rfl (dk_at dk_J7_fill_53178_0 10 rfl) ?_
  refine r_iastK C o hy (k := 4) rfl (vp_lit rfl) (dk_at dk_J7_fill_53178_0 11 rfl) ?_
  refine r_iinc C 0 rfl (v := 5) rfl [(2, .int 5), (3, .int 7), (0, .ref (wAd w o)), (1, .int v)] rfl rfl (dk_at dk_J7_fill_53178_0 12 rfl) ?_
  refine r_goto C 5 rfl (dk_at dk_J7_fill_53178_0 13 rfl) ?_
  refine r_iload_n C 0 rfl (dk_at dk_J7_fill_53178_0 5 rfl) ?_
  refine r_iload_n C 1 rfl (dk_at dk_J7_fill_53178_0 6 rfl) ?_
  refine r_icmp_ge C 20 rfl (dk_at dk_J7_fill_53178_0 7 rfl) (fun z => absurd z (by decide)) (fun _ => ?_)
  refine r_aload_n C 2 rfl (dk_at dk_J7_fill_53178_0 8 rfl) ?_
  refine r_iload_n C 0 rfl (dk_at dk_J7_fill_53178_0 9 rfl) ?_
  refine r_iload_n C 3 rfl (dk_at dk_J7_fill_53178_0 10 rfl) ?_
  refine r_iastK C o hy (k := 5) rfl (vp_lit rfl) (dk_at dk_J7_fill_53178_0 11 rfl) ?_
  refine r_iinc C 0 rfl (v := 6) rfl [(2, .int 6), (3, .int 7), (0, .ref (wAd w o)), (1, .int v)] rfl rfl (dk_at dk_J7_fill_53178_0 12 rfl) ?_
  refine r_goto C 5 rfl (dk_at dk_J7_fill_53178_0 13 rfl) ?_
  refine r_iload_n C 0 rfl (dk_at dk_J7_fill_53178_0 5 rfl) ?_
  refine r_iload_n C 1 rfl (dk_at dk_J7_fill_53178_0 6 rfl) ?_
  refine r_icmp_ge C 20 rfl (dk_at dk_J7_fill_53178_0 7 rfl) (fun z => absurd z (by decide)) (fun _ => ?_)
  refine r_aload_n C 2 rfl (dk_at dk_J7_fill_53178_0 8 rfl) ?_
  refine r_iload_n C 0 rfl (dk_at dk_J7_fill_53178_0 9 rfl) ?_
  refine r_iload_n C 3 rfl (dk_at dk_J7_fill_53178_0 10 rfl) ?_
  refine r_iastK C o hy (k := 6) rfl (vp_lit rfl) (dk_at dk_J7_fill_53178_0 11 rfl) ?_
  refine r_iinc C 0 rfl (v := 7) rfl [(2, .int 7), (3, .int 7), (0, .ref (wAd w o)), (1, .int v)] rfl rfl (dk_at dk_J7_fill_53178_0 12 rfl) ?_
  refine r_goto C 5 rfl (dk_at dk_J7_fill_53178_0 13 rfl) ?_
  refine r_iload_n C 0 rfl (dk_at dk_J7_fill_53178_0 5 rfl) ?_
  refine r_iload_n C 1 rfl (dk_at dk_J7_fill_53178_0 6 rfl) ?_
  refine r_icmp_ge C 20 rfl (dk_at dk_J7_fill_53178_0 7 rfl) (fun _ => ?_) (fun z => absurd (by decide) z)
  exact r_vret C rfl (dk_at dk_J7_fill_53178_0 14 rfl)
