/-! ===== links of the makers (by program: wip/whole/mkl.py) ===== -/
def ps_Pars_compile_0 : List (Nat × Instr × Nat) := [(0, .aload_n 0, 1), (1, .iload_n 1, 1), (2, .putfield 30, 3), (5, .aload_n 0, 1), (6, .iconst 0, 1), (7, .putfield 34, 3), (10, .aload_n 0, 1), (11, .iconst 0, 1), (12, .putfield 37, 3), (15, .aload_n 0, 1), (16, .iconst 0, 1), (17, .putfield 40, 3), (20, .aload_n 0, 1), (21, .iconst 0, 1), (22, .putfield 43, 3), (25, .aload_n 0, 1), (26, .iconst (-1), 1), (27, .putfield 22, 3), (30, .aload_n 0, 1), (31, .getfield 26, 3), (34, .invokevirtual 46, 3), (37, .aload_n 0, 1), (38, .invokevirtual 49, 3), (41, .istore_n 2, 1), (42, .iconst 0, 1), (43, .istore_n 3, 1), (44, .iload_n 3, 1), (45, .bipush 12, 2), (47, .if_icmp .ge 37, 3), (50, .iload_n 2, 1), (51, .ifCond .eq 33, 3), (54, .aload_n 0, 1), (55, .getfield 26, 3), (58, .bipush 59, 2), (60, .invokevirtual 53, 3), (63, .ifCond .eq 21, 3), (66, .aload_n 0, 1), (67, .getfield 26, 3), (70, .invokevirtual 57, 3), (73, .aload_n 0, 1)]
theorem dk_Pars_compile_0 : ps_Pars_compile_0.all (dkP cX4_compile) = true := by decide +kernel
def ps_Pars_compile_1 : List (Nat × Instr × Nat) := [(74, .invokevirtual 49, 3), (77, .istore_n 2, 1), (78, .iinc 3 1, 3), (81, .goto (-37), 3), (84, .iload_n 2, 1), (85, .ifCond .eq 18, 3), (88, .aload_n 0, 1), (89, .getfield 26, 3), (92, .invokevirtual 60, 3), (95, .ifCond .ne 8, 3), (98, .aload_n 0, 1), (99, .invokevirtual 63, 3), (102, .istore_n 2, 1), (103, .iload_n 2, 1), (104, .ifCond .ne 5, 3), (107, .aconst_null, 1), (108, .areturn, 1), (109, .aload_n 0, 1), (110, .getfield 19, 3), (113, .aload_n 0, 1), (114, .getfield 37, 3), (117, .bipush 6, 2), (119, .imul, 1), (120, .invokestatic 66, 3), (123, .astore_n 3, 1), (124, .new 17, 3), (127, .dup, 1), (128, .aload_n 0, 1), (129, .getfield 11, 3), (132, .aload_n 0, 1), (133, .getfield 34, 3), (136, .invokestatic 66, 3), (139, .aload_n 3, 1), (140, .aload_n 0, 1), (141, .getfield 37, 3), (144, .aload_n 0, 1), (145, .getfield 43, 3), (148, .invokespecial 72, 3), (151, .areturn, 1)]
theorem dk_Pars_compile_1 : ps_Pars_compile_1.all (dkP cX4_compile) = true := by decide +kernel
def ps_Face_law_0 : List (Nat × Instr × Nat) := [(0, .aload_n 0, 1), (1, .getfield 10, 3), (4, .getfield 176, 3), (7, .bipush 6, 2), (9, .if_icmp .lt 18, 3), (12, .aload_n 0, 1), (13, .getfield 23, 3), (16, .iconst 0, 1), (17, .putfield 163, 3), (20, .aload_n 0, 1), (21, .bipush (-5), 2), (23, .invokevirtual 90, 3), (26, .ireturn, 1), (27, .aload_n 0, 1), (28, .getfield 32, 3), (31, .iconst 1, 1), (32, .invokevirtual 179, 3), (35, .astore_n 1, 1), (36, .aload_n 0, 1), (37, .getfield 23, 3), (40, .iconst 0, 1), (41, .putfield 163, 3), (44, .aload_n 1, 1), (45, .ifnonnull 10, 3), (48, .aload_n 0, 1), (49, .bipush (-6), 2), (51, .invokevirtual 90, 3), (54, .ireturn, 1), (55, .aload_n 0, 1), (56, .getfield 10, 3), (59, .getfield 176, 3), (62, .istore_n 2, 1), (63, .aload_n 0, 1), (64, .getfield 10, 3), (67, .getfield 183, 3), (70, .iload_n 2, 1), (71, .aload_n 1, 1), (72, .aastore, 1), (73, .aload_n 0, 1), (74, .getfield 10, 3)]
theorem dk_Face_law_0 : ps_Face_law_0.all (dkP cX10_law) = true := by decide +kernel
def ps_Face_law_1 : List (Nat × Instr × Nat) := [(77, .dup, 1), (78, .getfield 176, 3), (81, .iconst 1, 1), (82, .iadd, 1), (83, .putfield 176, 3), (86, .aload_n 0, 1), (87, .iload_n 2, 1), (88, .invokevirtual 102, 3), (91, .ireturn, 1)]
theorem dk_Face_law_1 : ps_Face_law_1.all (dkP cX10_law) = true := by decide +kernel
def ps_Face_orders_0 : List (Nat × Instr × Nat) := [(0, .aload_n 0, 1), (1, .getfield 32, 3), (4, .iconst 0, 1), (5, .invokevirtual 179, 3), (8, .astore_n 1, 1), (9, .aload_n 0, 1), (10, .getfield 23, 3), (13, .iconst 0, 1), (14, .putfield 163, 3), (17, .aload_n 0, 1), (18, .getfield 50, 3), (21, .iconst (-1), 1), (22, .putfield 187, 3), (25, .aload_n 1, 1), (26, .ifnonnull 10, 3), (29, .aload_n 0, 1), (30, .bipush (-6), 2), (32, .invokevirtual 90, 3), (35, .ireturn, 1), (36, .aload_n 0, 1), (37, .getfield 50, 3), (40, .aload_n 1, 1), (41, .invokevirtual 190, 3), (44, .istore_n 2, 1), (45, .iload_n 2, 1), (46, .ifCond .ge 11, 3), (49, .aload_n 0, 1), (50, .iload_n 2, 1), (51, .invokevirtual 90, 3), (54, .goto 8, 3), (57, .aload_n 0, 1), (58, .iload_n 2, 1), (59, .invokevirtual 102, 3), (62, .ireturn, 1)]
theorem dk_Face_orders_0 : ps_Face_orders_0.all (dkP cX10_orders) = true := by decide +kernel
def ps_Face_image_0 : List (Nat × Instr × Nat) := [(0, .iload_n 1, 1), (1, .ifCond .lt 8, 3), (4, .iload_n 1, 1), (5, .iconst 2, 1), (6, .if_icmp .lt 9, 3), (9, .aload_n 0, 1), (10, .iconst (-1), 1), (11, .invokevirtual 90, 3), (14, .ireturn, 1), (15, .aload_n 0, 1), (16, .getfield 16, 3), (19, .iload_n 1, 1), (20, .aaload, 1), (21, .astore_n 2, 1), (22, .aload_n 2, 1), (23, .ifnonnull 18, 3), (26, .new 7, 3), (29, .dup, 1), (30, .invokespecial 9, 3), (33, .astore_n 2, 1), (34, .aload_n 0, 1), (35, .getfield 16, 3), (38, .iload_n 1, 1), (39, .aload_n 2, 1), (40, .aastore, 1), (41, .aload_n 2, 1), (42, .aload_n 0, 1), (43, .getfield 10, 3), (46, .invokevirtual 309, 3), (49, .aload_n 0, 1), (50, .iconst 0, 1), (51, .invokevirtual 102, 3), (54, .ireturn, 1)]
theorem dk_Face_image_0 : ps_Face_image_0.all (dkP cX10_image) = true := by decide +kernel
def ps_J7_copyOf_59c91_0 : List (Nat × Instr × Nat) := [(0, .iload_n 1, 1), (1, .aload_n 0, 1), (2, .arraylength, 1), (3, .if_icmp .ne 11, 3), (6, .aload_n 0, 1), (7, .invokevirtual 316, 3), (10, .checkcast 317, 3), (13, .areturn, 1), (14, .iload_n 1, 1), (15, .newarray .int, 2), (17, .astore_n 2, 1), (18, .aload_n 0, 1), (19, .iconst 0, 1), (20, .aload_n 2, 1), (21, .iconst 0, 1), (22, .aload_n 0, 1), (23, .arraylength, 1), (24, .iload_n 1, 1), (25, .invokestatic 304, 3), (28, .invokestatic 150, 3), (31, .aload_n 2, 1), (32, .areturn, 1)]
theorem dk_J7_copyOf_59c91_0 : ps_J7_copyOf_59c91_0.all (dkP cJ7_copyOf_59c91) = true := by decide +kernel
def ps_Text_init_0 : List (Nat × Instr × Nat) := [(0, .aload_n 0, 1), (1, .invokespecial 1, 3), (4, .aload_n 0, 1), (5, .aload_n 1, 1), (6, .putfield 7, 3), (9, .aload_n 0, 1), (10, .aload_n 2, 1), (11, .putfield 13, 3), (14, .aload_n 0, 1), (15, .iload_n 3, 1), (16, .putfield 16, 3), (19, .aload_n 0, 1), (20, .iload 4, 2), (22, .putfield 20, 3), (25, .return_, 1)]
theorem dk_Text_init_0 : ps_Text_init_0.all (dkP cX8_init) = true := by decide +kernel
theorem tv_612 : Cond.methodLink RX4 46 yX7_rewind ∈ TT := tt_in 612 (by decide +kernel) rfl
theorem tv_4 : Cond.initialized RX7 ∈ TT := tt_in 4 (by decide +kernel) rfl
theorem tv_615 : Cond.code yX7_rewind cX7_rewind 1 none ∈ TT := tt_in 615 (by decide +kernel) rfl
theorem tv_613 : Cond.instanceMethod yX7_rewind ∈ TT := tt_in 613 (by decide +kernel) rfl
theorem tv_614 : Cond.selects RX7 yX7_rewind yX7_rewind ∈ TT := tt_in 614 (by decide +kernel) rfl
theorem cx_Pars_46 : CL RX4 46 7 yX7_rewind cX7_rewind 1 none 0 := ⟨⟨TX7, 5, rfl⟩, tv_612, tv_613, tv_614, tv_4, tv_615, by decide, by decide, by decide +kernel⟩
theorem tv_623 : Cond.methodLink RX4 49 yX4_clause ∈ TT := tt_in 623 (by decide +kernel) rfl
theorem tv_5 : Cond.initialized RX4 ∈ TT := tt_in 5 (by decide +kernel) rfl
theorem tv_626 : Cond.code yX4_clause cX4_clause 2 (some .boolean) ∈ TT := tt_in 626 (by decide +kernel) rfl
theorem tv_625 : Cond.instanceMethod yX4_clause ∈ TT := tt_in 625 (by decide +kernel) rfl
theorem tz_4 : Cond.selects RX4 yX4_clause yX4_clause ∈ TT := tt_sel 4 (by decide +kernel) rfl
theorem cx_Pars_49 : CL RX4 49 4 yX4_clause cX4_clause 2 (some .boolean) 0 := ⟨⟨TX4, 9, rfl⟩, tv_623, tv_625, tz_4, tv_5, tv_626, by decide, by decide, by decide +kernel⟩
theorem tv_778 : Cond.methodLink RX4 60 yX7_isAtEnd ∈ TT := tt_in 778 (by decide +kernel) rfl
theorem tv_781 : Cond.code yX7_isAtEnd cX7_isAtEnd 1 (some .boolean) ∈ TT := tt_in 781 (by decide +kernel) rfl
theorem tv_779 : Cond.instanceMethod yX7_isAtEnd ∈ TT := tt_in 779 (by decide +kernel) rfl
theorem tv_780 : Cond.selects RX7 yX7_isAtEnd yX7_isAtEnd ∈ TT := tt_in 780 (by decide +kernel) rfl
theorem cx_Pars_60 : CL RX4 60 7 yX7_isAtEnd cX7_isAtEnd 1 (some .boolean) 0 := ⟨⟨TX7, 5, rfl⟩, tv_778, tv_779, tv_780, tv_4, tv_781, by decide, by decide, by decide +kernel⟩
theorem tv_608 : Cond.methodLink RX10 179 yX4_compile ∈ TT := tt_in 608 (by decide +kernel) rfl
theorem tv_611 : Cond.code yX4_compile cX4_compile 4 (some (.object "FadingActs$Text")) ∈ TT := tt_in 611 (by decide +kernel) rfl
theorem tv_609 : Cond.instanceMethod yX4_compile ∈ TT := tt_in 609 (by decide +kernel) rfl
theorem tv_610 : Cond.selects RX4 yX4_compile yX4_compile ∈ TT := tt_in 610 (by decide +kernel) rfl
theorem cx_Face_179 : CL RX10 179 4 yX4_compile cX4_compile 4 (some (.object "FadingActs$Text")) 1 := ⟨⟨TX4, 9, rfl⟩, tv_608, tv_609, tv_610, tv_5, tv_611, by decide, by decide, by decide +kernel⟩
theorem tv_823 : Cond.methodLink RX10 190 yX2_runWholly ∈ TT := tt_in 823 (by decide +kernel) rfl
theorem tv_7 : Cond.initialized RX2 ∈ TT := tt_in 7 (by decide +kernel) rfl
theorem tv_826 : Cond.code yX2_runWholly cX2_runWholly 8 (some .int) ∈ TT := tt_in 826 (by decide +kernel) rfl
theorem tv_824 : Cond.instanceMethod yX2_runWholly ∈ TT := tt_in 824 (by decide +kernel) rfl
theorem tv_825 : Cond.selects RX2 yX2_runWholly yX2_runWholly ∈ TT := tt_in 825 (by decide +kernel) rfl
theorem cx_Face_190 : CL RX10 190 2 yX2_runWholly cX2_runWholly 8 (some .int) 1 := ⟨⟨TX2, 7, rfl⟩, tv_823, tv_824, tv_825, tv_7, tv_826, by decide, by decide, by decide +kernel⟩
theorem tv_108 : Cond.fieldLink RX10 183 "FadingActs$Realm" "texts" "[LFadingActs$Text;" ∈ TT := tt_in 108 (by decide +kernel) rfl
theorem fx_Face_183 : FL RX10 183 5 18 20 (.array (.object "FadingActs$Text")) true := ⟨RX5, TX5, tyX5, rfl, by decide, tin5, tv_108, nmX5, tyX5_ok, rfl, rfl⟩
theorem tv_782 : Cond.methodLink RX4 66 yJ7_copyOf_59c91 ∈ TT := tt_in 782 (by decide +kernel) rfl
theorem tv_783 : Cond.static yJ7_copyOf_59c91 ∈ TT := tt_in 783 (by decide +kernel) rfl
theorem tv_3 : Cond.initialized RJ7 ∈ TT := tt_in 3 (by decide +kernel) rfl
theorem tv_784 : Cond.code yJ7_copyOf_59c91 cJ7_copyOf_59c91 3 (some (.array .int)) ∈ TT := tt_in 784 (by decide +kernel) rfl
theorem cx_copyOf : CS RX4 66 yJ7_copyOf_59c91 cJ7_copyOf_59c91 3 (some (.array .int)) 2 := ⟨tv_782, tv_783, tv_3, tv_784, by decide, by decide, by decide +kernel⟩
theorem tv_785 : Cond.methodLink RJ7 316 ⟨"[I", "clone", "()Ljava/lang/Object;"⟩ ∈ TT := tt_in 785 (by decide +kernel) rfl
theorem tv_786 : Cond.sameMethod "[I" "java/lang/Object" "clone" "()Ljava/lang/Object;" ∈ TT := tt_in 786 (by decide +kernel) rfl
theorem tv_787 : Cond.native ⟨"java/lang/Object", "clone", "()Ljava/lang/Object;"⟩ ∈ TT := tt_in 787 (by decide +kernel) rfl
theorem tv_788 : Cond.instanceMethod ⟨"java/lang/Object", "clone", "()Ljava/lang/Object;"⟩ ∈ TT := tt_in 788 (by decide +kernel) rfl
theorem tv_789 : Cond.selects "[I" ⟨"[I", "clone", "()Ljava/lang/Object;"⟩ ⟨"java/lang/Object", "clone", "()Ljava/lang/Object;"⟩ ∈ TT := tt_in 789 (by decide +kernel) rfl
theorem tv_791 : Cond.classLink RJ7 317 "[I" ∈ TT := tt_in 791 (by decide +kernel) rfl
theorem tv_792 : Cond.methodLink RJ7 304 Lib.Math.min.name ∈ TT := tt_in 792 (by decide +kernel) rfl
theorem tv_793 : Cond.methodLink RJ7 150 arraycopyName ∈ TT := tt_in 793 (by decide +kernel) rfl
theorem tv_748 : Cond.static Lib.Math.min.name ∈ TT := tt_in 748 (by decide +kernel) rfl
theorem tv_14 : Cond.initialized "java/lang/Math" ∈ TT := tt_in 14 (by decide +kernel) rfl
theorem tv_749 : Cond.code Lib.Math.min.name Lib.Math.min.code 2 (some .int) ∈ TT := tt_in 749 (by decide +kernel) rfl
theorem tv_795 : Cond.native arraycopyName ∈ TT := tt_in 795 (by decide +kernel) rfl
theorem tv_794 : Cond.static arraycopyName ∈ TT := tt_in 794 (by decide +kernel) rfl
theorem tv_19 : Cond.initialized "java/lang/System" ∈ TT := tt_in 19 (by decide +kernel) rfl
theorem tc_807 : Cond.fieldLink RX8 7 "FadingActs$Text" "code" "[I" ∈ TT := tt_in 807 (by decide +kernel) rfl
theorem fw_Text_7 : FW RX8 7 8 2 4 (.array .int) := ⟨RX8, TX8, tyX8, rfl, by decide, tin8, tc_807, nmX8, tyX8_ok, rfl, Or.inr ⟨rfl, rfl⟩⟩
theorem tc_808 : Cond.fieldLink RX8 13 "FadingActs$Text" "heads" "[I" ∈ TT := tt_in 808 (by decide +kernel) rfl
theorem fw_Text_13 : FW RX8 13 8 3 4 (.array .int) := ⟨RX8, TX8, tyX8, rfl, by decide, tin8, tc_808, nmX8, tyX8_ok, rfl, Or.inr ⟨rfl, rfl⟩⟩
theorem tc_802 : Cond.fieldLink RX8 16 "FadingActs$Text" "clauses" "I" ∈ TT := tt_in 802 (by decide +kernel) rfl
theorem fw_Text_16 : FW RX8 16 8 0 4 .int := ⟨RX8, TX8, tyX8, rfl, by decide, tin8, tc_802, nmX8, tyX8_ok, rfl, Or.inr ⟨rfl, rfl⟩⟩
theorem tc_805 : Cond.fieldLink RX8 20 "FadingActs$Text" "wordsUsed" "I" ∈ TT := tt_in 805 (by decide +kernel) rfl
theorem fw_Text_20 : FW RX8 20 8 1 4 .int := ⟨RX8, TX8, tyX8, rfl, by decide, tin8, tc_805, nmX8, tyX8_ok, rfl, Or.inr ⟨rfl, rfl⟩⟩
theorem tc_796 : Cond.classLink RX4 17 RX8 ∈ TT := tt_in 796 (by decide +kernel) rfl
theorem tc_797 : Cond.instantiable RX8 4 ∈ TT := tt_in 797 (by decide +kernel) rfl
theorem tc_20 : Cond.initialized RX8 ∈ TT := tt_in 20 (by decide +kernel) rfl
theorem no_Pars_17 : NO RX4 17 8 4 [.int 0, .int 0, .null, .null] := ⟨RX8, TX8, tyX8, rfl, tin8, tc_796, tc_797, tc_20, tyX8_ok, fun j hj => by
  rcases (show j = 0 ∨ j = 1 ∨ j = 2 ∨ j = 3 by omega) with rfl | rfl | rfl | rfl <;> rfl⟩
theorem tc_798 : Cond.methodLink RX4 72 yX8_init ∈ TT := tt_in 798 (by decide +kernel) rfl
theorem tc_799 : Cond.instanceMethod yX8_init ∈ TT := tt_in 799 (by decide +kernel) rfl
theorem tc_800 : Cond.code yX8_init cX8_init 5 none ∈ TT := tt_in 800 (by decide +kernel) rfl
theorem ci_Pars_72 : CI RX4 72 yX8_init cX8_init 5 4 := ⟨tc_798, tc_799, tc_20, tc_800, rfl, by decide, by decide, by decide +kernel⟩
theorem tc_801 : Cond.methodLink RX8 1 Lib.objectInit ∈ TT := tt_in 801 (by decide +kernel) rfl
