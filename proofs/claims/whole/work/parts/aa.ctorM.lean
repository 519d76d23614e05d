/-! ===== the model is made ===== -/
def ps_M_init_0 : List (Nat × Instr × Nat) := [(0, .aload_n 0, 1), (1, .invokespecial 14, 3), (4, .aload_n 0, 1), (5, .bipush 7, 2), (7, .newarray .int, 2), (9, .putfield 7, 3), (12, .aload_n 0, 1), (13, .sipush 6012, 3), (16, .newarray .int, 2), (18, .putfield 20, 3), (21, .aload_n 0, 1), (22, .sipush 12024, 3), (25, .newarray .int, 2), (27, .putfield 23, 3), (30, .aload_n 0, 1), (31, .iconst 2, 1), (32, .newarray .boolean, 2), (34, .putfield 26, 3), (37, .aload_n 0, 1), (38, .sipush 129, 3), (41, .newarray .byte, 2), (43, .dup, 1), (44, .iconst 0, 1), (45, .bipush 108, 2), (47, .bastore, 1), (48, .dup, 1), (49, .iconst 1, 1), (50, .bipush 97, 2), (52, .bastore, 1), (53, .dup, 1), (54, .iconst 2, 1), (55, .bipush 115, 2), (57, .bastore, 1), (58, .dup, 1), (59, .iconst 3, 1), (60, .bipush 116, 2), (62, .bastore, 1), (63, .dup, 1), (64, .iconst 4, 1), (65, .bipush 115, 2)]
theorem dk_M_init_0 : ps_M_init_0.all (dkP cX11_init) = true := by decide +kernel
def ps_M_init_1 : List (Nat × Instr × Nat) := [(67, .bastore, 1), (68, .dup, 1), (69, .iconst 5, 1), (70, .bipush 32, 2), (72, .bastore, 1), (73, .dup, 1), (74, .bipush 6, 2), (76, .bipush 116, 2), (78, .bastore, 1), (79, .dup, 1), (80, .bipush 7, 2), (82, .bipush 97, 2), (84, .bastore, 1), (85, .dup, 1), (86, .bipush 8, 2), (88, .bipush 107, 2), (90, .bastore, 1), (91, .dup, 1), (92, .bipush 9, 2), (94, .bipush 101, 2), (96, .bastore, 1), (97, .dup, 1), (98, .bipush 10, 2), (100, .bipush 115, 2), (102, .bastore, 1), (103, .dup, 1), (104, .bipush 11, 2), (106, .bipush 32, 2), (108, .bastore, 1), (109, .dup, 1), (110, .bipush 12, 2), (112, .bipush 98, 2), (114, .bastore, 1), (115, .dup, 1), (116, .bipush 13, 2), (118, .bipush 97, 2), (120, .bastore, 1), (121, .dup, 1), (122, .bipush 14, 2), (124, .bipush 114, 2)]
theorem dk_M_init_1 : ps_M_init_1.all (dkP cX11_init) = true := by decide +kernel
def ps_M_init_2 : List (Nat × Instr × Nat) := [(126, .bastore, 1), (127, .dup, 1), (128, .bipush 15, 2), (130, .bipush 115, 2), (132, .bastore, 1), (133, .dup, 1), (134, .bipush 16, 2), (136, .bipush 32, 2), (138, .bastore, 1), (139, .dup, 1), (140, .bipush 17, 2), (142, .bipush 105, 2), (144, .bastore, 1), (145, .dup, 1), (146, .bipush 18, 2), (148, .bipush 102, 2), (150, .bastore, 1), (151, .dup, 1), (152, .bipush 19, 2), (154, .bipush 32, 2), (156, .bastore, 1), (157, .dup, 1), (158, .bipush 20, 2), (160, .bipush 111, 2), (162, .bastore, 1), (163, .dup, 1), (164, .bipush 21, 2), (166, .bipush 114, 2), (168, .bastore, 1), (169, .dup, 1), (170, .bipush 22, 2), (172, .bipush 32, 2), (174, .bastore, 1), (175, .dup, 1), (176, .bipush 23, 2), (178, .bipush 97, 2), (180, .bastore, 1), (181, .dup, 1), (182, .bipush 24, 2), (184, .bipush 110, 2)]
theorem dk_M_init_2 : ps_M_init_2.all (dkP cX11_init) = true := by decide +kernel
def ps_M_init_3 : List (Nat × Instr × Nat) := [(186, .bastore, 1), (187, .dup, 1), (188, .bipush 25, 2), (190, .bipush 100, 2), (192, .bastore, 1), (193, .dup, 1), (194, .bipush 26, 2), (196, .bipush 32, 2), (198, .bastore, 1), (199, .dup, 1), (200, .bipush 27, 2), (202, .bipush 110, 2), (204, .bastore, 1), (205, .dup, 1), (206, .bipush 28, 2), (208, .bipush 111, 2), (210, .bastore, 1), (211, .dup, 1), (212, .bipush 29, 2), (214, .bipush 116, 2), (216, .bastore, 1), (217, .dup, 1), (218, .bipush 30, 2), (220, .bipush 32, 2), (222, .bastore, 1), (223, .dup, 1), (224, .bipush 31, 2), (226, .bipush 97, 2), (228, .bastore, 1), (229, .dup, 1), (230, .bipush 32, 2), (232, .bipush 99, 2), (234, .bastore, 1), (235, .dup, 1), (236, .bipush 33, 2), (238, .bipush 116, 2), (240, .bastore, 1), (241, .dup, 1), (242, .bipush 34, 2), (244, .bipush 32, 2)]
theorem dk_M_init_3 : ps_M_init_3.all (dkP cX11_init) = true := by decide +kernel
def ps_M_init_4 : List (Nat × Instr × Nat) := [(246, .bastore, 1), (247, .dup, 1), (248, .bipush 35, 2), (250, .bipush 108, 2), (252, .bastore, 1), (253, .dup, 1), (254, .bipush 36, 2), (256, .bipush 101, 2), (258, .bastore, 1), (259, .dup, 1), (260, .bipush 37, 2), (262, .bipush 110, 2), (264, .bastore, 1), (265, .dup, 1), (266, .bipush 38, 2), (268, .bipush 103, 2), (270, .bastore, 1), (271, .dup, 1), (272, .bipush 39, 2), (274, .bipush 116, 2), (276, .bastore, 1), (277, .dup, 1), (278, .bipush 40, 2), (280, .bipush 104, 2), (282, .bastore, 1), (283, .dup, 1), (284, .bipush 41, 2), (286, .bipush 32, 2), (288, .bastore, 1), (289, .dup, 1), (290, .bipush 42, 2), (292, .bipush 116, 2), (294, .bastore, 1), (295, .dup, 1), (296, .bipush 43, 2), (298, .bipush 101, 2), (300, .bastore, 1), (301, .dup, 1), (302, .bipush 44, 2), (304, .bipush 114, 2)]
theorem dk_M_init_4 : ps_M_init_4.all (dkP cX11_init) = true := by decide +kernel
def ps_M_init_5 : List (Nat × Instr × Nat) := [(306, .bastore, 1), (307, .dup, 1), (308, .bipush 45, 2), (310, .bipush 109, 2), (312, .bastore, 1), (313, .dup, 1), (314, .bipush 46, 2), (316, .bipush 32, 2), (318, .bastore, 1), (319, .dup, 1), (320, .bipush 47, 2), (322, .bipush 98, 2), (324, .bastore, 1), (325, .dup, 1), (326, .bipush 48, 2), (328, .bipush 105, 2), (330, .bastore, 1), (331, .dup, 1), (332, .bipush 49, 2), (334, .bipush 110, 2), (336, .bastore, 1), (337, .dup, 1), (338, .bipush 50, 2), (340, .bipush 100, 2), (342, .bastore, 1), (343, .dup, 1), (344, .bipush 51, 2), (346, .bipush 115, 2), (348, .bastore, 1), (349, .dup, 1), (350, .bipush 52, 2), (352, .bipush 32, 2), (354, .bastore, 1), (355, .dup, 1), (356, .bipush 53, 2), (358, .bipush 114, 2), (360, .bastore, 1), (361, .dup, 1), (362, .bipush 54, 2), (364, .bipush 101, 2)]
theorem dk_M_init_5 : ps_M_init_5.all (dkP cX11_init) = true := by decide +kernel
def ps_M_init_6 : List (Nat × Instr × Nat) := [(366, .bastore, 1), (367, .dup, 1), (368, .bipush 55, 2), (370, .bipush 97, 2), (372, .bastore, 1), (373, .dup, 1), (374, .bipush 56, 2), (376, .bipush 100, 2), (378, .bastore, 1), (379, .dup, 1), (380, .bipush 57, 2), (382, .bipush 101, 2), (384, .bastore, 1), (385, .dup, 1), (386, .bipush 58, 2), (388, .bipush 114, 2), (390, .bastore, 1), (391, .dup, 1), (392, .bipush 59, 2), (394, .bipush 32, 2), (396, .bastore, 1), (397, .dup, 1), (398, .bipush 60, 2), (400, .bipush 99, 2), (402, .bastore, 1), (403, .dup, 1), (404, .bipush 61, 2), (406, .bipush 108, 2), (408, .bastore, 1), (409, .dup, 1), (410, .bipush 62, 2), (412, .bipush 97, 2), (414, .bastore, 1), (415, .dup, 1), (416, .bipush 63, 2), (418, .bipush 115, 2), (420, .bastore, 1), (421, .dup, 1), (422, .bipush 64, 2), (424, .bipush 115, 2)]
theorem dk_M_init_6 : ps_M_init_6.all (dkP cX11_init) = true := by decide +kernel
def ps_M_init_7 : List (Nat × Instr × Nat) := [(426, .bastore, 1), (427, .dup, 1), (428, .bipush 65, 2), (430, .bipush 32, 2), (432, .bastore, 1), (433, .dup, 1), (434, .bipush 66, 2), (436, .bipush 119, 2), (438, .bastore, 1), (439, .dup, 1), (440, .bipush 67, 2), (442, .bipush 101, 2), (444, .bastore, 1), (445, .dup, 1), (446, .bipush 68, 2), (448, .bipush 101, 2), (450, .bastore, 1), (451, .dup, 1), (452, .bipush 69, 2), (454, .bipush 107, 2), (456, .bastore, 1), (457, .dup, 1), (458, .bipush 70, 2), (460, .bipush 100, 2), (462, .bastore, 1), (463, .dup, 1), (464, .bipush 71, 2), (466, .bipush 97, 2), (468, .bastore, 1), (469, .dup, 1), (470, .bipush 72, 2), (472, .bipush 121, 2), (474, .bastore, 1), (475, .dup, 1), (476, .bipush 73, 2), (478, .bipush 32, 2), (480, .bastore, 1), (481, .dup, 1), (482, .bipush 74, 2), (484, .bipush 109, 2)]
theorem dk_M_init_7 : ps_M_init_7.all (dkP cX11_init) = true := by decide +kernel
def ps_M_init_8 : List (Nat × Instr × Nat) := [(486, .bastore, 1), (487, .dup, 1), (488, .bipush 75, 2), (490, .bipush 111, 2), (492, .bastore, 1), (493, .dup, 1), (494, .bipush 76, 2), (496, .bipush 111, 2), (498, .bastore, 1), (499, .dup, 1), (500, .bipush 77, 2), (502, .bipush 100, 2), (504, .bastore, 1), (505, .dup, 1), (506, .bipush 78, 2), (508, .bipush 32, 2), (510, .bastore, 1), (511, .dup, 1), (512, .bipush 79, 2), (514, .bipush 100, 2), (516, .bastore, 1), (517, .dup, 1), (518, .bipush 80, 2), (520, .bipush 97, 2), (522, .bastore, 1), (523, .dup, 1), (524, .bipush 81, 2), (526, .bipush 121, 2), (528, .bastore, 1), (529, .dup, 1), (530, .bipush 82, 2), (532, .bipush 32, 2), (534, .bastore, 1), (535, .dup, 1), (536, .bipush 83, 2), (538, .bipush 104, 2), (540, .bastore, 1), (541, .dup, 1), (542, .bipush 84, 2), (544, .bipush 101, 2)]
theorem dk_M_init_8 : ps_M_init_8.all (dkP cX11_init) = true := by decide +kernel
def ps_M_init_9 : List (Nat × Instr × Nat) := [(546, .bastore, 1), (547, .dup, 1), (548, .bipush 85, 2), (550, .bipush 108, 2), (552, .bastore, 1), (553, .dup, 1), (554, .bipush 86, 2), (556, .bipush 100, 2), (558, .bastore, 1), (559, .dup, 1), (560, .bipush 87, 2), (562, .bipush 32, 2), (564, .bastore, 1), (565, .dup, 1), (566, .bipush 88, 2), (568, .bipush 100, 2), (570, .bastore, 1), (571, .dup, 1), (572, .bipush 89, 2), (574, .bipush 111, 2), (576, .bastore, 1), (577, .dup, 1), (578, .bipush 90, 2), (580, .bipush 110, 2), (582, .bastore, 1), (583, .dup, 1), (584, .bipush 91, 2), (586, .bipush 101, 2), (588, .bastore, 1), (589, .dup, 1), (590, .bipush 92, 2), (592, .bipush 32, 2), (594, .bastore, 1), (595, .dup, 1), (596, .bipush 93, 2), (598, .bipush 108, 2), (600, .bastore, 1), (601, .dup, 1), (602, .bipush 94, 2), (604, .bipush 97, 2)]
theorem dk_M_init_9 : ps_M_init_9.all (dkP cX11_init) = true := by decide +kernel
def ps_M_init_10 : List (Nat × Instr × Nat) := [(606, .bastore, 1), (607, .dup, 1), (608, .bipush 95, 2), (610, .bipush 115, 2), (612, .bastore, 1), (613, .dup, 1), (614, .bipush 96, 2), (616, .bipush 116, 2), (618, .bastore, 1), (619, .dup, 1), (620, .bipush 97, 2), (622, .bipush 32, 2), (624, .bastore, 1), (625, .dup, 1), (626, .bipush 98, 2), (628, .bipush 115, 2), (630, .bastore, 1), (631, .dup, 1), (632, .bipush 99, 2), (634, .bipush 105, 2), (636, .bastore, 1), (637, .dup, 1), (638, .bipush 100, 2), (640, .bipush 110, 2), (642, .bastore, 1), (643, .dup, 1), (644, .bipush 101, 2), (646, .bipush 99, 2), (648, .bastore, 1), (649, .dup, 1), (650, .bipush 102, 2), (652, .bipush 101, 2), (654, .bastore, 1), (655, .dup, 1), (656, .bipush 103, 2), (658, .bipush 32, 2), (660, .bastore, 1), (661, .dup, 1), (662, .bipush 104, 2), (664, .bipush 118, 2)]
theorem dk_M_init_10 : ps_M_init_10.all (dkP cX11_init) = true := by decide +kernel
def ps_M_init_11 : List (Nat × Instr × Nat) := [(666, .bastore, 1), (667, .dup, 1), (668, .bipush 105, 2), (670, .bipush 111, 2), (672, .bastore, 1), (673, .dup, 1), (674, .bipush 106, 2), (676, .bipush 105, 2), (678, .bastore, 1), (679, .dup, 1), (680, .bipush 107, 2), (682, .bipush 99, 2), (684, .bastore, 1), (685, .dup, 1), (686, .bipush 108, 2), (688, .bipush 101, 2), (690, .bastore, 1), (691, .dup, 1), (692, .bipush 109, 2), (694, .bipush 32, 2), (696, .bastore, 1), (697, .dup, 1), (698, .bipush 110, 2), (700, .bipush 114, 2), (702, .bastore, 1), (703, .dup, 1), (704, .bipush 111, 2), (706, .bipush 101, 2), (708, .bastore, 1), (709, .dup, 1), (710, .bipush 112, 2), (712, .bipush 97, 2), (714, .bastore, 1), (715, .dup, 1), (716, .bipush 113, 2), (718, .bipush 100, 2), (720, .bastore, 1), (721, .dup, 1), (722, .bipush 114, 2), (724, .bipush 32, 2)]
theorem dk_M_init_11 : ps_M_init_11.all (dkP cX11_init) = true := by decide +kernel
def ps_M_init_12 : List (Nat × Instr × Nat) := [(726, .bastore, 1), (727, .dup, 1), (728, .bipush 115, 2), (730, .bipush 98, 2), (732, .bastore, 1), (733, .dup, 1), (734, .bipush 116, 2), (736, .bipush 121, 2), (738, .bastore, 1), (739, .dup, 1), (740, .bipush 117, 2), (742, .bipush 32, 2), (744, .bastore, 1), (745, .dup, 1), (746, .bipush 118, 2), (748, .bipush 119, 2), (750, .bastore, 1), (751, .dup, 1), (752, .bipush 119, 2), (754, .bipush 97, 2), (756, .bastore, 1), (757, .dup, 1), (758, .bipush 120, 2), (760, .bipush 105, 2), (762, .bastore, 1), (763, .dup, 1), (764, .bipush 121, 2), (766, .bipush 116, 2), (768, .bastore, 1), (769, .dup, 1), (770, .bipush 122, 2), (772, .bipush 32, 2), (774, .bastore, 1), (775, .dup, 1), (776, .bipush 123, 2), (778, .bipush 116, 2), (780, .bastore, 1), (781, .dup, 1), (782, .bipush 124, 2), (784, .bipush 105, 2)]
theorem dk_M_init_12 : ps_M_init_12.all (dkP cX11_init) = true := by decide +kernel
def ps_M_init_13 : List (Nat × Instr × Nat) := [(786, .bastore, 1), (787, .dup, 1), (788, .bipush 125, 2), (790, .bipush 109, 2), (792, .bastore, 1), (793, .dup, 1), (794, .bipush 126, 2), (796, .bipush 101, 2), (798, .bastore, 1), (799, .dup, 1), (800, .bipush 127, 2), (802, .bipush 115, 2), (804, .bastore, 1), (805, .dup, 1), (806, .sipush 128, 3), (809, .bipush 32, 2), (811, .bastore, 1), (812, .putfield 30, 3), (815, .aload_n 0, 1), (816, .sipush 400, 3), (819, .newarray .byte, 2), (821, .putfield 34, 3), (824, .aload_n 0, 1), (825, .iconst 5, 1), (826, .newarray .int, 2), (828, .putfield 37, 3), (831, .aload_n 0, 1), (832, .iconst (-1), 1), (833, .putfield 40, 3), (836, .aload_n 0, 1), (837, .sipush 401, 3), (840, .newarray .int, 2), (842, .putfield 43, 3), (845, .aload_n 0, 1), (846, .sipush 401, 3), (849, .newarray .int, 2), (851, .putfield 46, 3), (854, .aload_n 0, 1), (855, .sipush 401, 3), (858, .newarray .int, 2)]
theorem dk_M_init_13 : ps_M_init_13.all (dkP cX11_init) = true := by decide +kernel
def ps_M_init_14 : List (Nat × Instr × Nat) := [(860, .putfield 49, 3), (863, .aload_n 0, 1), (864, .bipush 8, 2), (866, .newarray .int, 2), (868, .putfield 52, 3), (871, .aload_n 0, 1), (872, .bipush 8, 2), (874, .newarray .int, 2), (876, .putfield 55, 3), (879, .aload_n 0, 1), (880, .iconst 4, 1), (881, .newarray .int, 2), (883, .putfield 58, 3), (886, .aload_n 0, 1), (887, .sipush 672, 3), (890, .newarray .byte, 2), (892, .putfield 61, 3), (895, .aload_n 0, 1), (896, .iconst (-1), 1), (897, .putfield 64, 3), (900, .aload_n 0, 1), (901, .iconst 5, 1), (902, .newarray .int, 2), (904, .putfield 67, 3), (907, .aload_n 0, 1), (908, .iconst 5, 1), (909, .newarray .int, 2), (911, .putfield 70, 3), (914, .aload_n 0, 1), (915, .bipush 8, 2), (917, .newarray .int, 2), (919, .putfield 73, 3), (922, .aload_n 0, 1), (923, .iconst 4, 1), (924, .newarray .int, 2), (926, .putfield 76, 3), (929, .aload_n 0, 1), (930, .bipush 8, 2), (932, .newarray .int, 2), (934, .putfield 79, 3)]
theorem dk_M_init_14 : ps_M_init_14.all (dkP cX11_init) = true := by decide +kernel
def ps_M_init_15 : List (Nat × Instr × Nat) := [(937, .aload_n 0, 1), (938, .bipush 100, 2), (940, .newarray .long, 2), (942, .putfield 82, 3), (945, .aload_n 0, 1), (946, .bipush 100, 2), (948, .newarray .long, 2), (950, .putfield 86, 3), (953, .aload_n 0, 1), (954, .iconst (-1), 1), (955, .putfield 89, 3), (958, .aload_n 0, 1), (959, .iconst 2, 1), (960, .newarray .long, 2), (962, .putfield 92, 3), (965, .aload_n 0, 1), (966, .bipush 8, 2), (968, .newarray .int, 2), (970, .putfield 95, 3), (973, .aload_n 0, 1), (974, .bipush 8, 2), (976, .newarray .int, 2), (978, .putfield 98, 3), (981, .iconst 0, 1), (982, .istore_n 1, 1), (983, .iload_n 1, 1), (984, .bipush 7, 2), (986, .if_icmp .ge 20, 3), (989, .aload_n 0, 1), (990, .getfield 20, 3), (993, .bipush 104, 2), (995, .iload_n 1, 1), (996, .iadd, 1), (997, .bipush 63, 2), (999, .iastore, 1), (1000, .iinc 1 1, 3), (1003, .goto (-20), 3), (1006, .aload_n 0, 1), (1007, .getfield 20, 3), (1010, .sipush 396, 3)]
theorem dk_M_init_15 : ps_M_init_15.all (dkP cX11_init) = true := by decide +kernel
def ps_M_init_16 : List (Nat × Instr × Nat) := [(1013, .iconst 3, 1), (1014, .iastore, 1), (1015, .aload_n 0, 1), (1016, .getfield 20, 3), (1019, .sipush 397, 3), (1022, .bipush 20, 2), (1024, .iastore, 1), (1025, .aload_n 0, 1), (1026, .getfield 20, 3), (1029, .sipush 404, 3), (1032, .iconst (-1), 1), (1033, .iastore, 1), (1034, .return_, 1)]
theorem dk_M_init_16 : ps_M_init_16.all (dkP cX11_init) = true := by decide +kernel
theorem tc_1178 : Cond.methodLink RX11 14 Lib.objectInit ∈ TT := tt_in 1178 (by decide +kernel) rfl
theorem tc_1181 : Cond.fieldLink RX11 7 "FadingActsModel" "refused" "[I" ∈ TT := tt_in 1181 (by decide +kernel) rfl
theorem fw_M_7 : FW RX11 7 11 2 57 (.array .int) := ⟨RX11, TX11, tyX11, rfl, by decide, tin11, tc_1181, nmX11, tyX11_ok, rfl, Or.inr ⟨rfl, rfl⟩⟩
theorem tc_1182 : Cond.fieldLink RX11 20 "FadingActsModel" "kept" "[I" ∈ TT := tt_in 1182 (by decide +kernel) rfl
theorem fw_M_20 : FW RX11 20 11 3 57 (.array .int) := ⟨RX11, TX11, tyX11, rfl, by decide, tin11, tc_1182, nmX11, tyX11_ok, rfl, Or.inr ⟨rfl, rfl⟩⟩
theorem tc_1183 : Cond.fieldLink RX11 23 "FadingActsModel" "images" "[I" ∈ TT := tt_in 1183 (by decide +kernel) rfl
theorem fw_M_23 : FW RX11 23 11 4 57 (.array .int) := ⟨RX11, TX11, tyX11, rfl, by decide, tin11, tc_1183, nmX11, tyX11_ok, rfl, Or.inr ⟨rfl, rfl⟩⟩
theorem tc_1184 : Cond.fieldLink RX11 26 "FadingActsModel" "hasImage" "[Z" ∈ TT := tt_in 1184 (by decide +kernel) rfl
theorem fw_M_26 : FW RX11 26 11 5 57 (.array .boolean) := ⟨RX11, TX11, tyX11, rfl, by decide, tin11, tc_1184, nmX11, tyX11_ok, rfl, Or.inr ⟨rfl, rfl⟩⟩
theorem tc_1186 : Cond.fieldLink RX11 30 "FadingActsModel" "words" "[B" ∈ TT := tt_in 1186 (by decide +kernel) rfl
theorem fw_M_30 : FW RX11 30 11 7 57 (.array .byte) := ⟨RX11, TX11, tyX11, rfl, by decide, tin11, tc_1186, nmX11, tyX11_ok, rfl, Or.inr ⟨rfl, rfl⟩⟩
theorem tc_818 : Cond.arrayClass .byte ∈ TT := tt_in 818 (by decide +kernel) rfl
theorem tc_1190 : Cond.fieldLink RX11 34 "FadingActsModel" "tape" "[B" ∈ TT := tt_in 1190 (by decide +kernel) rfl
theorem fw_M_34 : FW RX11 34 11 11 57 (.array .byte) := ⟨RX11, TX11, tyX11, rfl, by decide, tin11, tc_1190, nmX11, tyX11_ok, rfl, Or.inr ⟨rfl, rfl⟩⟩
theorem tc_1191 : Cond.fieldLink RX11 37 "FadingActsModel" "five" "[I" ∈ TT := tt_in 1191 (by decide +kernel) rfl
theorem fw_M_37 : FW RX11 37 11 12 57 (.array .int) := ⟨RX11, TX11, tyX11, rfl, by decide, tin11, tc_1191, nmX11, tyX11_ok, rfl, Or.inr ⟨rfl, rfl⟩⟩
theorem tc_1193 : Cond.fieldLink RX11 40 "FadingActsModel" "fault" "I" ∈ TT := tt_in 1193 (by decide +kernel) rfl
theorem fw_M_40 : FW RX11 40 11 14 57 .int := ⟨RX11, TX11, tyX11, rfl, by decide, tin11, tc_1193, nmX11, tyX11_ok, rfl, Or.inl rfl⟩
theorem tc_1194 : Cond.fieldLink RX11 43 "FadingActsModel" "code" "[I" ∈ TT := tt_in 1194 (by decide +kernel) rfl
theorem fw_M_43 : FW RX11 43 11 15 57 (.array .int) := ⟨RX11, TX11, tyX11, rfl, by decide, tin11, tc_1194, nmX11, tyX11_ok, rfl, Or.inr ⟨rfl, rfl⟩⟩
theorem tc_1195 : Cond.fieldLink RX11 46 "FadingActsModel" "value" "[I" ∈ TT := tt_in 1195 (by decide +kernel) rfl
theorem fw_M_46 : FW RX11 46 11 16 57 (.array .int) := ⟨RX11, TX11, tyX11, rfl, by decide, tin11, tc_1195, nmX11, tyX11_ok, rfl, Or.inr ⟨rfl, rfl⟩⟩
theorem tc_1196 : Cond.fieldLink RX11 49 "FadingActsModel" "placed" "[I" ∈ TT := tt_in 1196 (by decide +kernel) rfl
theorem fw_M_49 : FW RX11 49 11 17 57 (.array .int) := ⟨RX11, TX11, tyX11, rfl, by decide, tin11, tc_1196, nmX11, tyX11_ok, rfl, Or.inr ⟨rfl, rfl⟩⟩
theorem tc_1204 : Cond.fieldLink RX11 52 "FadingActsModel" "asked" "[I" ∈ TT := tt_in 1204 (by decide +kernel) rfl
theorem fw_M_52 : FW RX11 52 11 25 57 (.array .int) := ⟨RX11, TX11, tyX11, rfl, by decide, tin11, tc_1204, nmX11, tyX11_ok, rfl, Or.inr ⟨rfl, rfl⟩⟩
theorem tc_1205 : Cond.fieldLink RX11 55 "FadingActsModel" "sinceOf" "[I" ∈ TT := tt_in 1205 (by decide +kernel) rfl
theorem fw_M_55 : FW RX11 55 11 26 57 (.array .int) := ⟨RX11, TX11, tyX11, rfl, by decide, tin11, tc_1205, nmX11, tyX11_ok, rfl, Or.inr ⟨rfl, rfl⟩⟩
theorem tc_1206 : Cond.fieldLink RX11 58 "FadingActsModel" "leftOf" "[I" ∈ TT := tt_in 1206 (by decide +kernel) rfl
theorem fw_M_58 : FW RX11 58 11 27 57 (.array .int) := ⟨RX11, TX11, tyX11, rfl, by decide, tin11, tc_1206, nmX11, tyX11_ok, rfl, Or.inr ⟨rfl, rfl⟩⟩
theorem tc_1207 : Cond.fieldLink RX11 61 "FadingActsModel" "known" "[B" ∈ TT := tt_in 1207 (by decide +kernel) rfl
theorem fw_M_61 : FW RX11 61 11 28 57 (.array .byte) := ⟨RX11, TX11, tyX11, rfl, by decide, tin11, tc_1207, nmX11, tyX11_ok, rfl, Or.inr ⟨rfl, rfl⟩⟩
theorem tc_1208 : Cond.fieldLink RX11 64 "FadingActsModel" "knownBy" "I" ∈ TT := tt_in 1208 (by decide +kernel) rfl
theorem fw_M_64 : FW RX11 64 11 29 57 .int := ⟨RX11, TX11, tyX11, rfl, by decide, tin11, tc_1208, nmX11, tyX11_ok, rfl, Or.inl rfl⟩
theorem tc_1209 : Cond.fieldLink RX11 67 "FadingActsModel" "row0" "[I" ∈ TT := tt_in 1209 (by decide +kernel) rfl
theorem fw_M_67 : FW RX11 67 11 30 57 (.array .int) := ⟨RX11, TX11, tyX11, rfl, by decide, tin11, tc_1209, nmX11, tyX11_ok, rfl, Or.inr ⟨rfl, rfl⟩⟩
theorem tc_1210 : Cond.fieldLink RX11 70 "FadingActsModel" "firstRow" "[I" ∈ TT := tt_in 1210 (by decide +kernel) rfl
theorem fw_M_70 : FW RX11 70 11 31 57 (.array .int) := ⟨RX11, TX11, tyX11, rfl, by decide, tin11, tc_1210, nmX11, tyX11_ok, rfl, Or.inr ⟨rfl, rfl⟩⟩
theorem tc_1217 : Cond.fieldLink RX11 73 "FadingActsModel" "listed" "[I" ∈ TT := tt_in 1217 (by decide +kernel) rfl
theorem fw_M_73 : FW RX11 73 11 38 57 (.array .int) := ⟨RX11, TX11, tyX11, rfl, by decide, tin11, tc_1217, nmX11, tyX11_ok, rfl, Or.inr ⟨rfl, rfl⟩⟩
theorem tc_1218 : Cond.fieldLink RX11 76 "FadingActsModel" "spent" "[I" ∈ TT := tt_in 1218 (by decide +kernel) rfl
theorem fw_M_76 : FW RX11 76 11 39 57 (.array .int) := ⟨RX11, TX11, tyX11, rfl, by decide, tin11, tc_1218, nmX11, tyX11_ok, rfl, Or.inr ⟨rfl, rfl⟩⟩
theorem tc_1220 : Cond.fieldLink RX11 79 "FadingActsModel" "dayOf" "[I" ∈ TT := tt_in 1220 (by decide +kernel) rfl
theorem fw_M_79 : FW RX11 79 11 41 57 (.array .int) := ⟨RX11, TX11, tyX11, rfl, by decide, tin11, tc_1220, nmX11, tyX11_ok, rfl, Or.inr ⟨rfl, rfl⟩⟩
theorem tc_1221 : Cond.fieldLink RX11 82 "FadingActsModel" "now0" "[J" ∈ TT := tt_in 1221 (by decide +kernel) rfl
theorem fw_M_82 : FW RX11 82 11 42 57 (.array .long) := ⟨RX11, TX11, tyX11, rfl, by decide, tin11, tc_1221, nmX11, tyX11_ok, rfl, Or.inr ⟨rfl, rfl⟩⟩
theorem tc_1222 : Cond.fieldLink RX11 86 "FadingActsModel" "then0" "[J" ∈ TT := tt_in 1222 (by decide +kernel) rfl
theorem fw_M_86 : FW RX11 86 11 43 57 (.array .long) := ⟨RX11, TX11, tyX11, rfl, by decide, tin11, tc_1222, nmX11, tyX11_ok, rfl, Or.inr ⟨rfl, rfl⟩⟩
theorem tc_1223 : Cond.fieldLink RX11 89 "FadingActsModel" "stopped0" "I" ∈ TT := tt_in 1223 (by decide +kernel) rfl
theorem fw_M_89 : FW RX11 89 11 44 57 .int := ⟨RX11, TX11, tyX11, rfl, by decide, tin11, tc_1223, nmX11, tyX11_ok, rfl, Or.inl rfl⟩
theorem tc_1231 : Cond.fieldLink RX11 92 "FadingActsModel" "sums" "[J" ∈ TT := tt_in 1231 (by decide +kernel) rfl
theorem fw_M_92 : FW RX11 92 11 52 57 (.array .long) := ⟨RX11, TX11, tyX11, rfl, by decide, tin11, tc_1231, nmX11, tyX11_ok, rfl, Or.inr ⟨rfl, rfl⟩⟩
theorem tc_1232 : Cond.fieldLink RX11 95 "FadingActsModel" "drawnRead" "[I" ∈ TT := tt_in 1232 (by decide +kernel) rfl
theorem fw_M_95 : FW RX11 95 11 53 57 (.array .int) := ⟨RX11, TX11, tyX11, rfl, by decide, tin11, tc_1232, nmX11, tyX11_ok, rfl, Or.inr ⟨rfl, rfl⟩⟩
theorem tc_1233 : Cond.fieldLink RX11 98 "FadingActsModel" "drawnHeld" "[I" ∈ TT := tt_in 1233 (by decide +kernel) rfl
theorem fw_M_98 : FW RX11 98 11 54 57 (.array .int) := ⟨RX11, TX11, tyX11, rfl, by decide, tin11, tc_1233, nmX11, tyX11_ok, rfl, Or.inr ⟨rfl, rfl⟩⟩
def W_M (w : WO) (q1 q2 q3 q4 q5 q6 q7 q8 q9 q10 q11 q12 q13 q14 q15 q16 q17 q18 q19 q20 q21 q22 q23 q24 : Nat) : WO := wSet (wAdd (wAdd (wAdd (wAdd (wAdd (wAdd (wAdd (wAdd (wAdd (wAdd (wAdd (wAdd (wAdd (wAdd (wAdd (wAdd (wAdd (wAdd (wAdd (wAdd (wAdd (wAdd (wAdd (wAdd w 3 q1 (lI 0 7)) 4 q2 (lI 0 6012)) 5 q3 (lI 0 12024)) 6 q4 (lI 2 2)) 8 q5 (lI 1 129)) 12 q6 (lI 1 400)) 13 q7 (lI 0 5)) 16 q8 (lI 0 401)) 17 q9 (lI 0 401)) 18 q10 (lI 0 401)) 26 q11 (lI 0 8)) 27 q12 (lI 0 8)) 28 q13 (lI 0 4)) 29 q14 (lI 1 672)) 31 q15 (lI 0 5)) 32 q16 (lI 0 5)) 39 q17 (lI 0 8)) 40 q18 (lI 0 4)) 42 q19 (lI 0 8)) 43 q20 (lJ 100)) 44 q21 (lJ 100)) 53 q22 (lJ 2)) 54 q23 (lI 0 8)) 55 q24 (lI 0 8)) 0 (lR 11 [.int 0, .int 0, .ref q1, .ref q2, .ref q3, .ref q4, .int 0, .ref q5, .int 0, .int 0, .int 0, .ref q6, .ref q7, .int 0, .int (-1), .ref q8, .ref q9, .ref q10, .int 0, .int 0, .int 0, .int 0, .int 0, .int 0, .int 0, .ref q11, .ref q12, .ref q13, .ref q14, .int (-1), .ref q15, .ref q16, .int 0, .int 0, .int 0, .int 0, .int 0, .int 0, .ref q17, .ref q18, .int 0, .ref q19, .ref q20, .ref q21, .int (-1), .int 0, .int 0, .int 0, .int 0, .int 0, .int 0, .int 0, .ref q22, .ref q23, .ref q24, .int 0, .int 0])
def D_M (σ : DD) : DD := (sI (sI (sI (sI (sI (sI (sI (sI (sI (sI (cle (cle (cle (cle (cle (cle (cle (cle (cle (cle (cle (cle (cle (cle (cle (cle (cle (cle (cle (wS 129 (cle (cle (cle (cle (cle σ 3) 4) 5) 6) 8)) 12) 13) 16) 17) 18) 26) 27) 28) 29) 31) 32) 39) 40) 42) 43) 44) 53) 54) 55) 4 104 63) 4 105 63) 4 106 63) 4 107 63) 4 108 63) 4 109 63) 4 110 63) 4 396 3) 4 397 20) 4 404 (-1))
set_option maxRecDepth 20000 in
theorem i_M {l : Launch} {w : WO} {σ : DD} {a sz : Nat} {b : BZ} (hb : BW b w) (hbs : b.1 ≤ sz) (h0 : wLy w 0 = some (lR 11 [.int 0, .int 0, .null, .null, .null, .null, .int 0, .null, .int 0, .int 0, .int 0, .null, .null, .int 0, .int 0, .null, .null, .null, .int 0, .int 0, .int 0, .int 0, .int 0, .int 0, .int 0, .null, .null, .null, .null, .int 0, .null, .null, .int 0, .int 0, .int 0, .int 0, .int 0, .int 0, .null, .null, .int 0, .null, .null, .null, .int 0, .int 0, .int 0, .int 0, .int 0, .int 0, .int 0, .int 0, .null, .null, .null, .int 0, .int 0])) (ha : wAd w 0 = a) (hN : NRs w σ (fun _ => True)) (hno : ∀ o, 0 < o → wLy w o = none) : Met l yX11_init (.code yX11_init cX11_init 2 none :: TT) { frames := 1, cells := 24, slots := 20722, locals := 12 } (wPc w σ [.ref a] sz) (wQm w sz b (fun u => ∃ q1 q2 q3 q4 q5 q6 q7 q8 q9 q10 q11 q12 q13 q14 q15 q16 q17 q18 q19 q20 q21 q22 q23 q24, u = (W_M w q1 q2 q3 q4 q5 q6 q7 q8 q9 q10 q11 q12 q13 q14 q15 q16 q17 q18 q19 q20 q21 q22 q23 q24, D_M σ) ∧ NRs (W_M w q1 q2 q3 q4 q5 q6 q7 q8 q9 q10 q11 q12 q13 q14 q15 q16 q17 q18 q19 q20 q21 q22 q23 q24) (D_M σ) (fun _ => True))) 24 20722 (gA w sz) := by
  refine mk_head (by decide) rfl hb hbs (fun X hX hi hsz C => ?_)
  subst hX
  have e0 : wSet w 0 (lR 11 [.int 0, .int 0, .null, .null, .null, .null, .int 0, .null, .int 0, .int 0, .int 0, .null, .null, .int 0, .int 0, .null, .null, .null, .int 0, .int 0, .int 0, .int 0, .int 0, .int 0, .int 0, .null, .null, .null, .null, .int 0, .null, .null, .int 0, .int 0, .int 0, .int 0, .int 0, .int 0, .null, .null, .int 0, .null, .null, .null, .int 0, .int 0, .int 0, .int 0, .int 0, .int 0, .int 0, .int 0, .null, .null, .null, .int 0, .int 0]) = w := ws_id h0
  refine gW_w e0 ?_
  replace C := CG_w e0 C
  replace hN := NRs_w e0 hN
  show gW X (wSet w 0 (lR 11 [.int 0, .int 0, .null, .null, .null, .null, .int 0, .null, .int 0, .int 0, .int 0, .null, .null, .int 0, .int 0, .null, .null, .null, .int 0, .int 0, .int 0, .int 0, .int 0, .int 0, .int 0, .null, .null, .null, .null, .int 0, .null, .null, .int 0, .int 0, .int 0, .int 0, .int 0, .int 0, .null, .null, .int 0, .null, .null, .null, .int 0, .int 0, .int 0, .int 0, .int 0, .int 0, .int 0, .int 0, .null, .null, .null, .int 0, .int 0])) (gA w sz, 0, 0) 2 _ σ 0 [(0, .ref a)] []
  refine r_aload_n C.1 0 rfl (dk_at dk_M_init_0 0 rfl) ?_
  refine r_objI C tc_1178 tc_27 tc_28 (Nat.le_of_ble_eq_true rfl) (Nat.le_of_ble_eq_true rfl) (dk_at dk_M_init_0 1 rfl) ?_
  refine r_aload_n C.1 0 rfl (dk_at dk_M_init_0 2 rfl) ?_
  refine r_bipush C.1 7 (dk_at dk_M_init_0 3 rfl) ?_
  refine r_newI (c1 := 1) (s1 := 7) C tc_152 3 7 (by decide) rfl (by decide) (no_sn (by decide) (hno 3 (by decide))) (hN 3 trivial) ⟨rfl, rfl, Nat.le_of_ble_eq_true rfl, Nat.le_of_ble_eq_true rfl⟩ (dk_at dk_M_init_0 4 rfl) (fun q1 hhq1 C => ?_)
  refine r_nf C hi (by decide) hN (fun _ _ => nR_I) fw_M_7 ⟨rfl, rfl⟩ ha (Nat.le_of_ble_eq_true rfl) (dk_at dk_M_init_0 5 rfl) [.int 0, .int 0, .ref q1, .null, .null, .null, .int 0, .null, .int 0, .int 0, .int 0, .null, .null, .int 0, .int 0, .null, .null, .null, .int 0, .int 0, .int 0, .int 0, .int 0, .int 0, .int 0, .null, .null, .null, .null, .int 0, .null, .null, .int 0, .int 0, .int 0, .int 0, .int 0, .int 0, .null, .null, .int 0, .null, .null, .null, .int 0, .int 0, .int 0, .int 0, .int 0, .int 0, .int 0, .int 0, .null, .null, .null, .int 0, .int 0] rfl (fun C hN ha => ?_)
  refine r_aload_n C.1 0 rfl (dk_at dk_M_init_0 6 rfl) ?_
  refine r_sipush C.1 6012 (dk_at dk_M_init_0 7 rfl) ?_
  refine r_newI (c1 := 2) (s1 := 6019) C tc_152 4 6012 (by decide) rfl (by decide) (no_sn (by decide) (no_an (by decide) (hno 4 (by decide)))) (hN 4 trivial) ⟨rfl, rfl, Nat.le_of_ble_eq_true rfl, Nat.le_of_ble_eq_true rfl⟩ (dk_at dk_M_init_0 8 rfl) (fun q2 hhq2 C => ?_)
  refine r_nf C hi (by decide) hN (fun _ _ => nR_I) fw_M_20 ⟨rfl, rfl⟩ ha (Nat.le_of_ble_eq_true rfl) (dk_at dk_M_init_0 9 rfl) [.int 0, .int 0, .ref q1, .ref q2, .null, .null, .int 0, .null, .int 0, .int 0, .int 0, .null, .null, .int 0, .int 0, .null, .null, .null, .int 0, .int 0, .int 0, .int 0, .int 0, .int 0, .int 0, .null, .null, .null, .null, .int 0, .null, .null, .int 0, .int 0, .int 0, .int 0, .int 0, .int 0, .null, .null, .int 0, .null, .null, .null, .int 0, .int 0, .int 0, .int 0, .int 0, .int 0, .int 0, .int 0, .null, .null, .null, .int 0, .int 0] rfl (fun C hN ha => ?_)
  refine r_aload_n C.1 0 rfl (dk_at dk_M_init_0 10 rfl) ?_
  refine r_sipush C.1 12024 (dk_at dk_M_init_0 11 rfl) ?_
  refine r_newI (c1 := 3) (s1 := 18043) C tc_152 5 12024 (by decide) rfl (by decide) (no_sn (by decide) (no_an (by decide) (no_an (by decide) (hno 5 (by decide))))) (hN 5 trivial) ⟨rfl, rfl, Nat.le_of_ble_eq_true rfl, Nat.le_of_ble_eq_true rfl⟩ (dk_at dk_M_init_0 12 rfl) (fun q3 hhq3 C => ?_)
  refine r_nf C hi (by decide) hN (fun _ _ => nR_I) fw_M_23 ⟨rfl, rfl⟩ ha (Nat.le_of_ble_eq_true rfl) (dk_at dk_M_init_0 13 rfl) [.int 0, .int 0, .ref q1, .ref q2, .ref q3, .null, .int 0, .null, .int 0, .int 0, .int 0, .null, .null, .int 0, .int 0, .null, .null, .null, .int 0, .int 0, .int 0, .int 0, .int 0, .int 0, .int 0, .null, .null, .null, .null, .int 0, .null, .null, .int 0, .int 0, .int 0, .int 0, .int 0, .int 0, .null, .null, .int 0, .null, .null, .null, .int 0, .int 0, .int 0, .int 0, .int 0, .int 0, .int 0, .int 0, .null, .null, .null, .int 0, .int 0] rfl (fun C hN ha => ?_)
  refine r_aload_n C.1 0 rfl (dk_at dk_M_init_0 14 rfl) ?_
  refine r_iconst C.1 2 (dk_at dk_M_init_0 15 rfl) ?_
  refine r_newZ (c1 := 4) (s1 := 18045) C tc_371 6 2 (by decide) rfl (by decide) (no_sn (by decide) (no_an (by decide) (no_an (by decide) (no_an (by decide) (hno 6 (by decide)))))) (hN 6 trivial) ⟨rfl, rfl, Nat.le_of_ble_eq_true rfl, Nat.le_of_ble_eq_true rfl⟩ (dk_at dk_M_init_0 16 rfl) (fun q4 hhq4 C => ?_)
  refine r_nf C hi (by decide) hN (fun _ _ => nR_I) fw_M_26 ⟨rfl, rfl⟩ ha (Nat.le_of_ble_eq_true rfl) (dk_at dk_M_init_0 17 rfl) [.int 0, .int 0, .ref q1, .ref q2, .ref q3, .ref q4, .int 0, .null, .int 0, .int 0, .int 0, .null, .null, .int 0, .int 0, .null, .null, .null, .int 0, .int 0, .int 0, .int 0, .int 0, .int 0, .int 0, .null, .null, .null, .null, .int 0, .null, .null, .int 0, .int 0, .int 0, .int 0, .int 0, .int 0, .null, .null, .int 0, .null, .null, .null, .int 0, .int 0, .int 0, .int 0, .int 0, .int 0, .int 0, .int 0, .null, .null, .null, .int 0, .int 0] rfl (fun C hN ha => ?_)
  refine r_aload_n C.1 0 rfl (dk_at dk_M_init_0 18 rfl) ?_
  refine r_sipush C.1 129 (dk_at dk_M_init_0 19 rfl) ?_
  refine r_newB (c1 := 5) (s1 := 18174) C tc_818 8 129 (by decide) rfl (by decide) (no_sn (by decide) (no_an (by decide) (no_an (by decide) (no_an (by decide) (no_an (by decide) (hno 8 (by decide))))))) (hN 8 trivial) ⟨rfl, rfl, Nat.le_of_ble_eq_true rfl, Nat.le_of_ble_eq_true rfl⟩ (dk_at dk_M_init_0 20 rfl) (fun q5 hhq5 C => ?_)
  have hN := hN.add (o := 8) (a := q5) (y := lI 1 129) (fun _ _ => nR_I)
  rw [ws_comm (by decide)] at C hN ⊢
  replace ha := ha_an (o := 8) (a := q5) (y := lI 1 129) (by decide) ha
  rw [← wS_0 (σ := (cle (cle (cle (cle (cle σ 3) 4) 5) 6) 8))]
  refine r_dup C.1 rfl (dk_at dk_M_init_0 21 rfl) ?_
  refine r_iconst C.1 0 (dk_at dk_M_init_0 22 rfl) ?_
  refine r_bipush C.1 108 (dk_at dk_M_init_0 23 rfl) ?_
  refine r_bastA (n := 129) C 8 rfl rfl (k := 0) rfl (vp_lit rfl) (dk_at dk_M_init_0 24 rfl) ?_
  rw [wS_s (n := 0) (v := 108) (by decide)]
  refine r_dup C.1 rfl (dk_at dk_M_init_0 25 rfl) ?_
  refine r_iconst C.1 1 (dk_at dk_M_init_0 26 rfl) ?_
  refine r_bipush C.1 97 (dk_at dk_M_init_0 27 rfl) ?_
  refine r_bastA (n := 129) C 8 rfl rfl (k := 1) rfl (vp_lit rfl) (dk_at dk_M_init_0 28 rfl) ?_
  rw [wS_s (n := 1) (v := 97) (by decide)]
  refine r_dup C.1 rfl (dk_at dk_M_init_0 29 rfl) ?_
  refine r_iconst C.1 2 (dk_at dk_M_init_0 30 rfl) ?_
  refine r_bipush C.1 115 (dk_at dk_M_init_0 31 rfl) ?_
  refine r_bastA (n := 129) C 8 rfl rfl (k := 2) rfl (vp_lit rfl) (dk_at dk_M_init_0 32 rfl) ?_
  rw [wS_s (n := 2) (v := 115) (by decide)]
  refine r_dup C.1 rfl (dk_at dk_M_init_0 33 rfl) ?_
  refine r_iconst C.1 3 (dk_at dk_M_init_0 34 rfl) ?_
  refine r_bipush C.1 116 (dk_at dk_M_init_0 35 rfl) ?_
  refine r_bastA (n := 129) C 8 rfl rfl (k := 3) rfl (vp_lit rfl) (dk_at dk_M_init_0 36 rfl) ?_
  rw [wS_s (n := 3) (v := 116) (by decide)]
  refine r_dup C.1 rfl (dk_at dk_M_init_0 37 rfl) ?_
  refine r_iconst C.1 4 (dk_at dk_M_init_0 38 rfl) ?_
  refine r_bipush C.1 115 (dk_at dk_M_init_0 39 rfl) ?_
  refine r_bastA (n := 129) C 8 rfl rfl (k := 4) rfl (vp_lit rfl) (dk_at dk_M_init_1 0 rfl) ?_
  rw [wS_s (n := 4) (v := 115) (by decide)]
  refine r_dup C.1 rfl (dk_at dk_M_init_1 1 rfl) ?_
  refine r_iconst C.1 5 (dk_at dk_M_init_1 2 rfl) ?_
  refine r_bipush C.1 32 (dk_at dk_M_init_1 3 rfl) ?_
  refine r_bastA (n := 129) C 8 rfl rfl (k := 5) rfl (vp_lit rfl) (dk_at dk_M_init_1 4 rfl) ?_
  rw [wS_s (n := 5) (v := 32) (by decide)]
  refine r_dup C.1 rfl (dk_at dk_M_init_1 5 rfl) ?_
  refine r_bipush C.1 6 (dk_at dk_M_init_1 6 rfl) ?_
  refine r_bipush C.1 116 (dk_at dk_M_init_1 7 rfl) ?_
  refine r_bastA (n := 129) C 8 rfl rfl (k := 6) rfl (vp_lit rfl) (dk_at dk_M_init_1 8 rfl) ?_
  rw [wS_s (n := 6) (v := 116) (by decide)]
  refine r_dup C.1 rfl (dk_at dk_M_init_1 9 rfl) ?_
  refine r_bipush C.1 7 (dk_at dk_M_init_1 10 rfl) ?_
  refine r_bipush C.1 97 (dk_at dk_M_init_1 11 rfl) ?_
  refine r_bastA (n := 129) C 8 rfl rfl (k := 7) rfl (vp_lit rfl) (dk_at dk_M_init_1 12 rfl) ?_
  rw [wS_s (n := 7) (v := 97) (by decide)]
  refine r_dup C.1 rfl (dk_at dk_M_init_1 13 rfl) ?_
  refine r_bipush C.1 8 (dk_at dk_M_init_1 14 rfl) ?_
  refine r_bipush C.1 107 (dk_at dk_M_init_1 15 rfl) ?_
  refine r_bastA (n := 129) C 8 rfl rfl (k := 8) rfl (vp_lit rfl) (dk_at dk_M_init_1 16 rfl) ?_
  rw [wS_s (n := 8) (v := 107) (by decide)]
  refine r_dup C.1 rfl (dk_at dk_M_init_1 17 rfl) ?_
  refine r_bipush C.1 9 (dk_at dk_M_init_1 18 rfl) ?_
  refine r_bipush C.1 101 (dk_at dk_M_init_1 19 rfl) ?_
  refine r_bastA (n := 129) C 8 rfl rfl (k := 9) rfl (vp_lit rfl) (dk_at dk_M_init_1 20 rfl) ?_
  rw [wS_s (n := 9) (v := 101) (by decide)]
  refine r_dup C.1 rfl (dk_at dk_M_init_1 21 rfl) ?_
  refine r_bipush C.1 10 (dk_at dk_M_init_1 22 rfl) ?_
  refine r_bipush C.1 115 (dk_at dk_M_init_1 23 rfl) ?_
  refine r_bastA (n := 129) C 8 rfl rfl (k := 10) rfl (vp_lit rfl) (dk_at dk_M_init_1 24 rfl) ?_
  rw [wS_s (n := 10) (v := 115) (by decide)]
  refine r_dup C.1 rfl (dk_at dk_M_init_1 25 rfl) ?_
  refine r_bipush C.1 11 (dk_at dk_M_init_1 26 rfl) ?_
  refine r_bipush C.1 32 (dk_at dk_M_init_1 27 rfl) ?_
  refine r_bastA (n := 129) C 8 rfl rfl (k := 11) rfl (vp_lit rfl) (dk_at dk_M_init_1 28 rfl) ?_
  rw [wS_s (n := 11) (v := 32) (by decide)]
  refine r_dup C.1 rfl (dk_at dk_M_init_1 29 rfl) ?_
  refine r_bipush C.1 12 (dk_at dk_M_init_1 30 rfl) ?_
  refine r_bipush C.1 98 (dk_at dk_M_init_1 31 rfl) ?_
  refine r_bastA (n := 129) C 8 rfl rfl (k := 12) rfl (vp_lit rfl) (dk_at dk_M_init_1 32 rfl) ?_
  rw [wS_s (n := 12) (v := 98) (by decide)]
  refine r_dup C.1 rfl (dk_at dk_M_init_1 33 rfl) ?_
  refine r_bipush C.1 13 (dk_at dk_M_init_1 34 rfl) ?_
  refine r_bipush C.1 97 (dk_at dk_M_init_1 35 rfl) ?_
  refine r_bastA (n := 129) C 8 rfl rfl (k := 13) rfl (vp_lit rfl) (dk_at dk_M_init_1 36 rfl) ?_
  rw [wS_s (n := 13) (v := 97) (by decide)]
  refine r_dup C.1 rfl (dk_at dk_M_init_1 37 rfl) ?_
  refine r_bipush C.1 14 (dk_at dk_M_init_1 38 rfl) ?_
  refine r_bipush C.1 114 (dk_at dk_M_init_1 39 rfl) ?_
  refine r_bastA (n := 129) C 8 rfl rfl (k := 14) rfl (vp_lit rfl) (dk_at dk_M_init_2 0 rfl) ?_
  rw [wS_s (n := 14) (v := 114) (by decide)]
  refine r_dup C.1 rfl (dk_at dk_M_init_2 1 rfl) ?_
  refine r_bipush C.1 15 (dk_at dk_M_init_2 2 rfl) ?_
  refine r_bipush C.1 115 (dk_at dk_M_init_2 3 rfl) ?_
  refine r_bastA (n := 129) C 8 rfl rfl (k := 15) rfl (vp_lit rfl) (dk_at dk_M_init_2 4 rfl) ?_
  rw [wS_s (n := 15) (v := 115) (by decide)]
  refine r_dup C.1 rfl (dk_at dk_M_init_2 5 rfl) ?_
  refine r_bipush C.1 16 (dk_at dk_M_init_2 6 rfl) ?_
  refine r_bipush C.1 32 (dk_at dk_M_init_2 7 rfl) ?_
  refine r_bastA (n := 129) C 8 rfl rfl (k := 16) rfl (vp_lit rfl) (dk_at dk_M_init_2 8 rfl) ?_
  rw [wS_s (n := 16) (v := 32) (by decide)]
  refine r_dup C.1 rfl (dk_at dk_M_init_2 9 rfl) ?_
  refine r_bipush C.1 17 (dk_at dk_M_init_2 10 rfl) ?_
  refine r_bipush C.1 105 (dk_at dk_M_init_2 11 rfl) ?_
  refine r_bastA (n := 129) C 8 rfl rfl (k := 17) rfl (vp_lit rfl) (dk_at dk_M_init_2 12 rfl) ?_
  rw [wS_s (n := 17) (v := 105) (by decide)]
  refine r_dup C.1 rfl (dk_at dk_M_init_2 13 rfl) ?_
  refine r_bipush C.1 18 (dk_at dk_M_init_2 14 rfl) ?_
  refine r_bipush C.1 102 (dk_at dk_M_init_2 15 rfl) ?_
  refine r_bastA (n := 129) C 8 rfl rfl (k := 18) rfl (vp_lit rfl) (dk_at dk_M_init_2 16 rfl) ?_
  rw [wS_s (n := 18) (v := 102) (by decide)]
  refine r_dup C.1 rfl (dk_at dk_M_init_2 17 rfl) ?_
  refine r_bipush C.1 19 (dk_at dk_M_init_2 18 rfl) ?_
  refine r_bipush C.1 32 (dk_at dk_M_init_2 19 rfl) ?_
  refine r_bastA (n := 129) C 8 rfl rfl (k := 19) rfl (vp_lit rfl) (dk_at dk_M_init_2 20 rfl) ?_
  rw [wS_s (n := 19) (v := 32) (by decide)]
  refine r_dup C.1 rfl (dk_at dk_M_init_2 21 rfl) ?_
  refine r_bipush C.1 20 (dk_at dk_M_init_2 22 rfl) ?_
  refine r_bipush C.1 111 (dk_at dk_M_init_2 23 rfl) ?_
  refine r_bastA (n := 129) C 8 rfl rfl (k := 20) rfl (vp_lit rfl) (dk_at dk_M_init_2 24 rfl) ?_
  rw [wS_s (n := 20) (v := 111) (by decide)]
  refine r_dup C.1 rfl (dk_at dk_M_init_2 25 rfl) ?_
  refine r_bipush C.1 21 (dk_at dk_M_init_2 26 rfl) ?_
  refine r_bipush C.1 114 (dk_at dk_M_init_2 27 rfl) ?_
  refine r_bastA (n := 129) C 8 rfl rfl (k := 21) rfl (vp_lit rfl) (dk_at dk_M_init_2 28 rfl) ?_
  rw [wS_s (n := 21) (v := 114) (by decide)]
  refine r_dup C.1 rfl (dk_at dk_M_init_2 29 rfl) ?_
  refine r_bipush C.1 22 (dk_at dk_M_init_2 30 rfl) ?_
  refine r_bipush C.1 32 (dk_at dk_M_init_2 31 rfl) ?_
  refine r_bastA (n := 129) C 8 rfl rfl (k := 22) rfl (vp_lit rfl) (dk_at dk_M_init_2 32 rfl) ?_
  rw [wS_s (n := 22) (v := 32) (by decide)]
  refine r_dup C.1 rfl (dk_at dk_M_init_2 33 rfl) ?_
  refine r_bipush C.1 23 (dk_at dk_M_init_2 34 rfl) ?_
  refine r_bipush C.1 97 (dk_at dk_M_init_2 35 rfl) ?_
  refine r_bastA (n := 129) C 8 rfl rfl (k := 23) rfl (vp_lit rfl) (dk_at dk_M_init_2 36 rfl) ?_
  rw [wS_s (n := 23) (v := 97) (by decide)]
  refine r_dup C.1 rfl (dk_at dk_M_init_2 37 rfl) ?_
  refine r_bipush C.1 24 (dk_at dk_M_init_2 38 rfl) ?_
  refine r_bipush C.1 110 (dk_at dk_M_init_2 39 rfl) ?_
  refine r_bastA (n := 129) C 8 rfl rfl (k := 24) rfl (vp_lit rfl) (dk_at dk_M_init_3 0 rfl) ?_
  rw [wS_s (n := 24) (v := 110) (by decide)]
  refine r_dup C.1 rfl (dk_at dk_M_init_3 1 rfl) ?_
  refine r_bipush C.1 25 (dk_at dk_M_init_3 2 rfl) ?_
  refine r_bipush C.1 100 (dk_at dk_M_init_3 3 rfl) ?_
  refine r_bastA (n := 129) C 8 rfl rfl (k := 25) rfl (vp_lit rfl) (dk_at dk_M_init_3 4 rfl) ?_
  rw [wS_s (n := 25) (v := 100) (by decide)]
  refine r_dup C.1 rfl (dk_at dk_M_init_3 5 rfl) ?_
  refine r_bipush C.1 26 (dk_at dk_M_init_3 6 rfl) ?_
  refine r_bipush C.1 32 (dk_at dk_M_init_3 7 rfl) ?_
  refine r_bastA (n := 129) C 8 rfl rfl (k := 26) rfl (vp_lit rfl) (dk_at dk_M_init_3 8 rfl) ?_
  rw [wS_s (n := 26) (v := 32) (by decide)]
  refine r_dup C.1 rfl (dk_at dk_M_init_3 9 rfl) ?_
  refine r_bipush C.1 27 (dk_at dk_M_init_3 10 rfl) ?_
  refine r_bipush C.1 110 (dk_at dk_M_init_3 11 rfl) ?_
  refine r_bastA (n := 129) C 8 rfl rfl (k := 27) rfl (vp_lit rfl) (dk_at dk_M_init_3 12 rfl) ?_
  rw [wS_s (n := 27) (v := 110) (by decide)]
  refine r_dup C.1 rfl (dk_at dk_M_init_3 13 rfl) ?_
  refine r_bipush C.1 28 (dk_at dk_M_init_3 14 rfl) ?_
  refine r_bipush C.1 111 (dk_at dk_M_init_3 15 rfl) ?_
  refine r_bastA (n := 129) C 8 rfl rfl (k := 28) rfl (vp_lit rfl) (dk_at dk_M_init_3 16 rfl) ?_
  rw [wS_s (n := 28) (v := 111) (by decide)]
  refine r_dup C.1 rfl (dk_at dk_M_init_3 17 rfl) ?_
  refine r_bipush C.1 29 (dk_at dk_M_init_3 18 rfl) ?_
  refine r_bipush C.1 116 (dk_at dk_M_init_3 19 rfl) ?_
  refine r_bastA (n := 129) C 8 rfl rfl (k := 29) rfl (vp_lit rfl) (dk_at dk_M_init_3 20 rfl) ?_
  rw [wS_s (n := 29) (v := 116) (by decide)]
  refine r_dup C.1 rfl (dk_at dk_M_init_3 21 rfl) ?_
  refine r_bipush C.1 30 (dk_at dk_M_init_3 22 rfl) ?_
  refine r_bipush C.1 32 (dk_at dk_M_init_3 23 rfl) ?_
  refine r_bastA (n := 129) C 8 rfl rfl (k := 30) rfl (vp_lit rfl) (dk_at dk_M_init_3 24 rfl) ?_
  rw [wS_s (n := 30) (v := 32) (by decide)]
  refine r_dup C.1 rfl (dk_at dk_M_init_3 25 rfl) ?_
  refine r_bipush C.1 31 (dk_at dk_M_init_3 26 rfl) ?_
  refine r_bipush C.1 97 (dk_at dk_M_init_3 27 rfl) ?_
  refine r_bastA (n := 129) C 8 rfl rfl (k := 31) rfl (vp_lit rfl) (dk_at dk_M_init_3 28 rfl) ?_
  rw [wS_s (n := 31) (v := 97) (by decide)]
  refine r_dup C.1 rfl (dk_at dk_M_init_3 29 rfl) ?_
  refine r_bipush C.1 32 (dk_at dk_M_init_3 30 rfl) ?_
  refine r_bipush C.1 99 (dk_at dk_M_init_3 31 rfl) ?_
  refine r_bastA (n := 129) C 8 rfl rfl (k := 32) rfl (vp_lit rfl) (dk_at dk_M_init_3 32 rfl) ?_
  rw [wS_s (n := 32) (v := 99) (by decide)]
  refine r_dup C.1 rfl (dk_at dk_M_init_3 33 rfl) ?_
  refine r_bipush C.1 33 (dk_at dk_M_init_3 34 rfl) ?_
  refine r_bipush C.1 116 (dk_at dk_M_init_3 35 rfl) ?_
  refine r_bastA (n := 129) C 8 rfl rfl (k := 33) rfl (vp_lit rfl) (dk_at dk_M_init_3 36 rfl) ?_
  rw [wS_s (n := 33) (v := 116) (by decide)]
  refine r_dup C.1 rfl (dk_at dk_M_init_3 37 rfl) ?_
  refine r_bipush C.1 34 (dk_at dk_M_init_3 38 rfl) ?_
  refine r_bipush C.1 32 (dk_at dk_M_init_3 39 rfl) ?_
  refine r_bastA (n := 129) C 8 rfl rfl (k := 34) rfl (vp_lit rfl) (dk_at dk_M_init_4 0 rfl) ?_
  rw [wS_s (n := 34) (v := 32) (by decide)]
  refine r_dup C.1 rfl (dk_at dk_M_init_4 1 rfl) ?_
  refine r_bipush C.1 35 (dk_at dk_M_init_4 2 rfl) ?_
  refine r_bipush C.1 108 (dk_at dk_M_init_4 3 rfl) ?_
  refine r_bastA (n := 129) C 8 rfl rfl (k := 35) rfl (vp_lit rfl) (dk_at dk_M_init_4 4 rfl) ?_
  rw [wS_s (n := 35) (v := 108) (by decide)]
  refine r_dup C.1 rfl (dk_at dk_M_init_4 5 rfl) ?_
  refine r_bipush C.1 36 (dk_at dk_M_init_4 6 rfl) ?_
  refine r_bipush C.1 101 (dk_at dk_M_init_4 7 rfl) ?_
  refine r_bastA (n := 129) C 8 rfl rfl (k := 36) rfl (vp_lit rfl) (dk_at dk_M_init_4 8 rfl) ?_
  rw [wS_s (n := 36) (v := 101) (by decide)]
  refine r_dup C.1 rfl (dk_at dk_M_init_4 9 rfl) ?_
  refine r_bipush C.1 37 (dk_at dk_M_init_4 10 rfl) ?_
  refine r_bipush C.1 110 (dk_at dk_M_init_4 11 rfl) ?_
  refine r_bastA (n := 129) C 8 rfl rfl (k := 37) rfl (vp_lit rfl) (dk_at dk_M_init_4 12 rfl) ?_
  rw [wS_s (n := 37) (v := 110) (by decide)]
  refine r_dup C.1 rfl (dk_at dk_M_init_4 13 rfl) ?_
  refine r_bipush C.1 38 (dk_at dk_M_init_4 14 rfl) ?_
  refine r_bipush C.1 103 (dk_at dk_M_init_4 15 rfl) ?_
  refine r_bastA (n := 129) C 8 rfl rfl (k := 38) rfl (vp_lit rfl) (dk_at dk_M_init_4 16 rfl) ?_
  rw [wS_s (n := 38) (v := 103) (by decide)]
  refine r_dup C.1 rfl (dk_at dk_M_init_4 17 rfl) ?_
  refine r_bipush C.1 39 (dk_at dk_M_init_4 18 rfl) ?_
  refine r_bipush C.1 116 (dk_at dk_M_init_4 19 rfl) ?_
  refine r_bastA (n := 129) C 8 rfl rfl (k := 39) rfl (vp_lit rfl) (dk_at dk_M_init_4 20 rfl) ?_
  rw [wS_s (n := 39) (v := 116) (by decide)]
  refine r_dup C.1 rfl (dk_at dk_M_init_4 21 rfl) ?_
  refine r_bipush C.1 40 (dk_at dk_M_init_4 22 rfl) ?_
  refine r_bipush C.1 104 (dk_at dk_M_init_4 23 rfl) ?_
  refine r_bastA (n := 129) C 8 rfl rfl (k := 40) rfl (vp_lit rfl) (dk_at dk_M_init_4 24 rfl) ?_
  rw [wS_s (n := 40) (v := 104) (by decide)]
  refine r_dup C.1 rfl (dk_at dk_M_init_4 25 rfl) ?_
  refine r_bipush C.1 41 (dk_at dk_M_init_4 26 rfl) ?_
  refine r_bipush C.1 32 (dk_at dk_M_init_4 27 rfl) ?_
  refine r_bastA (n := 129) C 8 rfl rfl (k := 41) rfl (vp_lit rfl) (dk_at dk_M_init_4 28 rfl) ?_
  rw [wS_s (n := 41) (v := 32) (by decide)]
  refine r_dup C.1 rfl (dk_at dk_M_init_4 29 rfl) ?_
  refine r_bipush C.1 42 (dk_at dk_M_init_4 30 rfl) ?_
  refine r_bipush C.1 116 (dk_at dk_M_init_4 31 rfl) ?_
  refine r_bastA (n := 129) C 8 rfl rfl (k := 42) rfl (vp_lit rfl) (dk_at dk_M_init_4 32 rfl) ?_
  rw [wS_s (n := 42) (v := 116) (by decide)]
  refine r_dup C.1 rfl (dk_at dk_M_init_4 33 rfl) ?_
  refine r_bipush C.1 43 (dk_at dk_M_init_4 34 rfl) ?_
  refine r_bipush C.1 101 (dk_at dk_M_init_4 35 rfl) ?_
  refine r_bastA (n := 129) C 8 rfl rfl (k := 43) rfl (vp_lit rfl) (dk_at dk_M_init_4 36 rfl) ?_
  rw [wS_s (n := 43) (v := 101) (by decide)]
  refine r_dup C.1 rfl (dk_at dk_M_init_4 37 rfl) ?_
  refine r_bipush C.1 44 (dk_at dk_M_init_4 38 rfl) ?_
  refine r_bipush C.1 114 (dk_at dk_M_init_4 39 rfl) ?_
  refine r_bastA (n := 129) C 8 rfl rfl (k := 44) rfl (vp_lit rfl) (dk_at dk_M_init_5 0 rfl) ?_
  rw [wS_s (n := 44) (v := 114) (by decide)]
  refine r_dup C.1 rfl (dk_at dk_M_init_5 1 rfl) ?_
  refine r_bipush C.1 45 (dk_at dk_M_init_5 2 rfl) ?_
  refine r_bipush C.1 109 (dk_at dk_M_init_5 3 rfl) ?_
  refine r_bastA (n := 129) C 8 rfl rfl (k := 45) rfl (vp_lit rfl) (dk_at dk_M_init_5 4 rfl) ?_
  rw [wS_s (n := 45) (v := 109) (by decide)]
  refine r_dup C.1 rfl (dk_at dk_M_init_5 5 rfl) ?_
  refine r_bipush C.1 46 (dk_at dk_M_init_5 6 rfl) ?_
  refine r_bipush C.1 32 (dk_at dk_M_init_5 7 rfl) ?_
  refine r_bastA (n := 129) C 8 rfl rfl (k := 46) rfl (vp_lit rfl) (dk_at dk_M_init_5 8 rfl) ?_
  rw [wS_s (n := 46) (v := 32) (by decide)]
  refine r_dup C.1 rfl (dk_at dk_M_init_5 9 rfl) ?_
  refine r_bipush C.1 47 (dk_at dk_M_init_5 10 rfl) ?_
  refine r_bipush C.1 98 (dk_at dk_M_init_5 11 rfl) ?_
  refine r_bastA (n := 129) C 8 rfl rfl (k := 47) rfl (vp_lit rfl) (dk_at dk_M_init_5 12 rfl) ?_
  rw [wS_s (n := 47) (v := 98) (by decide)]
  refine r_dup C.1 rfl (dk_at dk_M_init_5 13 rfl) ?_
  refine r_bipush C.1 48 (dk_at dk_M_init_5 14 rfl) ?_
  refine r_bipush C.1 105 (dk_at dk_M_init_5 15 rfl) ?_
  refine r_bastA (n := 129) C 8 rfl rfl (k := 48) rfl (vp_lit rfl) (dk_at dk_M_init_5 16 rfl) ?_
  rw [wS_s (n := 48) (v := 105) (by decide)]
  refine r_dup C.1 rfl (dk_at dk_M_init_5 17 rfl) ?_
  refine r_bipush C.1 49 (dk_at dk_M_init_5 18 rfl) ?_
  refine r_bipush C.1 110 (dk_at dk_M_init_5 19 rfl) ?_
  refine r_bastA (n := 129) C 8 rfl rfl (k := 49) rfl (vp_lit rfl) (dk_at dk_M_init_5 20 rfl) ?_
  rw [wS_s (n := 49) (v := 110) (by decide)]
  refine r_dup C.1 rfl (dk_at dk_M_init_5 21 rfl) ?_
  refine r_bipush C.1 50 (dk_at dk_M_init_5 22 rfl) ?_
  refine r_bipush C.1 100 (dk_at dk_M_init_5 23 rfl) ?_
  refine r_bastA (n := 129) C 8 rfl rfl (k := 50) rfl (vp_lit rfl) (dk_at dk_M_init_5 24 rfl) ?_
  rw [wS_s (n := 50) (v := 100) (by decide)]
  refine r_dup C.1 rfl (dk_at dk_M_init_5 25 rfl) ?_
  refine r_bipush C.1 51 (dk_at dk_M_init_5 26 rfl) ?_
  refine r_bipush C.1 115 (dk_at dk_M_init_5 27 rfl) ?_
  refine r_bastA (n := 129) C 8 rfl rfl (k := 51) rfl (vp_lit rfl) (dk_at dk_M_init_5 28 rfl) ?_
  rw [wS_s (n := 51) (v := 115) (by decide)]
  refine r_dup C.1 rfl (dk_at dk_M_init_5 29 rfl) ?_
  refine r_bipush C.1 52 (dk_at dk_M_init_5 30 rfl) ?_
  refine r_bipush C.1 32 (dk_at dk_M_init_5 31 rfl) ?_
  refine r_bastA (n := 129) C 8 rfl rfl (k := 52) rfl (vp_lit rfl) (dk_at dk_M_init_5 32 rfl) ?_
  rw [wS_s (n := 52) (v := 32) (by decide)]
  refine r_dup C.1 rfl (dk_at dk_M_init_5 33 rfl) ?_
  refine r_bipush C.1 53 (dk_at dk_M_init_5 34 rfl) ?_
  refine r_bipush C.1 114 (dk_at dk_M_init_5 35 rfl) ?_
  refine r_bastA (n := 129) C 8 rfl rfl (k := 53) rfl (vp_lit rfl) (dk_at dk_M_init_5 36 rfl) ?_
  rw [wS_s (n := 53) (v := 114) (by decide)]
  refine r_dup C.1 rfl (dk_at dk_M_init_5 37 rfl) ?_
  refine r_bipush C.1 54 (dk_at dk_M_init_5 38 rfl) ?_
  refine r_bipush C.1 101 (dk_at dk_M_init_5 39 rfl) ?_
  refine r_bastA (n := 129) C 8 rfl rfl (k := 54) rfl (vp_lit rfl) (dk_at dk_M_init_6 0 rfl) ?_
  rw [wS_s (n := 54) (v := 101) (by decide)]
  refine r_dup C.1 rfl (dk_at dk_M_init_6 1 rfl) ?_
  refine r_bipush C.1 55 (dk_at dk_M_init_6 2 rfl) ?_
  refine r_bipush C.1 97 (dk_at dk_M_init_6 3 rfl) ?_
  refine r_bastA (n := 129) C 8 rfl rfl (k := 55) rfl (vp_lit rfl) (dk_at dk_M_init_6 4 rfl) ?_
  rw [wS_s (n := 55) (v := 97) (by decide)]
  refine r_dup C.1 rfl (dk_at dk_M_init_6 5 rfl) ?_
  refine r_bipush C.1 56 (dk_at dk_M_init_6 6 rfl) ?_
  refine r_bipush C.1 100 (dk_at dk_M_init_6 7 rfl) ?_
  refine r_bastA (n := 129) C 8 rfl rfl (k := 56) rfl (vp_lit rfl) (dk_at dk_M_init_6 8 rfl) ?_
  rw [wS_s (n := 56) (v := 100) (by decide)]
  refine r_dup C.1 rfl (dk_at dk_M_init_6 9 rfl) ?_
  refine r_bipush C.1 57 (dk_at dk_M_init_6 10 rfl) ?_
  refine r_bipush C.1 101 (dk_at dk_M_init_6 11 rfl) ?_
  refine r_bastA (n := 129) C 8 rfl rfl (k := 57) rfl (vp_lit rfl) (dk_at dk_M_init_6 12 rfl) ?_
  rw [wS_s (n := 57) (v := 101) (by decide)]
  refine r_dup C.1 rfl (dk_at dk_M_init_6 13 rfl) ?_
  refine r_bipush C.1 58 (dk_at dk_M_init_6 14 rfl) ?_
  refine r_bipush C.1 114 (dk_at dk_M_init_6 15 rfl) ?_
  refine r_bastA (n := 129) C 8 rfl rfl (k := 58) rfl (vp_lit rfl) (dk_at dk_M_init_6 16 rfl) ?_
  rw [wS_s (n := 58) (v := 114) (by decide)]
  refine r_dup C.1 rfl (dk_at dk_M_init_6 17 rfl) ?_
  refine r_bipush C.1 59 (dk_at dk_M_init_6 18 rfl) ?_
  refine r_bipush C.1 32 (dk_at dk_M_init_6 19 rfl) ?_
  refine r_bastA (n := 129) C 8 rfl rfl (k := 59) rfl (vp_lit rfl) (dk_at dk_M_init_6 20 rfl) ?_
  rw [wS_s (n := 59) (v := 32) (by decide)]
  refine r_dup C.1 rfl (dk_at dk_M_init_6 21 rfl) ?_
  refine r_bipush C.1 60 (dk_at dk_M_init_6 22 rfl) ?_
  refine r_bipush C.1 99 (dk_at dk_M_init_6 23 rfl) ?_
  refine r_bastA (n := 129) C 8 rfl rfl (k := 60) rfl (vp_lit rfl) (dk_at dk_M_init_6 24 rfl) ?_
  rw [wS_s (n := 60) (v := 99) (by decide)]
  refine r_dup C.1 rfl (dk_at dk_M_init_6 25 rfl) ?_
  refine r_bipush C.1 61 (dk_at dk_M_init_6 26 rfl) ?_
  refine r_bipush C.1 108 (dk_at dk_M_init_6 27 rfl) ?_
  refine r_bastA (n := 129) C 8 rfl rfl (k := 61) rfl (vp_lit rfl) (dk_at dk_M_init_6 28 rfl) ?_
  rw [wS_s (n := 61) (v := 108) (by decide)]
  refine r_dup C.1 rfl (dk_at dk_M_init_6 29 rfl) ?_
  refine r_bipush C.1 62 (dk_at dk_M_init_6 30 rfl) ?_
  refine r_bipush C.1 97 (dk_at dk_M_init_6 31 rfl) ?_
  refine r_bastA (n := 129) C 8 rfl rfl (k := 62) rfl (vp_lit rfl) (dk_at dk_M_init_6 32 rfl) ?_
  rw [wS_s (n := 62) (v := 97) (by decide)]
  refine r_dup C.1 rfl (dk_at dk_M_init_6 33 rfl) ?_
  refine r_bipush C.1 63 (dk_at dk_M_init_6 34 rfl) ?_
  refine r_bipush C.1 115 (dk_at dk_M_init_6 35 rfl) ?_
  refine r_bastA (n := 129) C 8 rfl rfl (k := 63) rfl (vp_lit rfl) (dk_at dk_M_init_6 36 rfl) ?_
  rw [wS_s (n := 63) (v := 115) (by decide)]
  refine r_dup C.1 rfl (dk_at dk_M_init_6 37 rfl) ?_
  refine r_bipush C.1 64 (dk_at dk_M_init_6 38 rfl) ?_
  refine r_bipush C.1 115 (dk_at dk_M_init_6 39 rfl) ?_
  refine r_bastA (n := 129) C 8 rfl rfl (k := 64) rfl (vp_lit rfl) (dk_at dk_M_init_7 0 rfl) ?_
  rw [wS_s (n := 64) (v := 115) (by decide)]
  refine r_dup C.1 rfl (dk_at dk_M_init_7 1 rfl) ?_
  refine r_bipush C.1 65 (dk_at dk_M_init_7 2 rfl) ?_
  refine r_bipush C.1 32 (dk_at dk_M_init_7 3 rfl) ?_
  refine r_bastA (n := 129) C 8 rfl rfl (k := 65) rfl (vp_lit rfl) (dk_at dk_M_init_7 4 rfl) ?_
  rw [wS_s (n := 65) (v := 32) (by decide)]
  refine r_dup C.1 rfl (dk_at dk_M_init_7 5 rfl) ?_
  refine r_bipush C.1 66 (dk_at dk_M_init_7 6 rfl) ?_
  refine r_bipush C.1 119 (dk_at dk_M_init_7 7 rfl) ?_
  refine r_bastA (n := 129) C 8 rfl rfl (k := 66) rfl (vp_lit rfl) (dk_at dk_M_init_7 8 rfl) ?_
  rw [wS_s (n := 66) (v := 119) (by decide)]
  refine r_dup C.1 rfl (dk_at dk_M_init_7 9 rfl) ?_
  refine r_bipush C.1 67 (dk_at dk_M_init_7 10 rfl) ?_
  refine r_bipush C.1 101 (dk_at dk_M_init_7 11 rfl) ?_
  refine r_bastA (n := 129) C 8 rfl rfl (k := 67) rfl (vp_lit rfl) (dk_at dk_M_init_7 12 rfl) ?_
  rw [wS_s (n := 67) (v := 101) (by decide)]
  refine r_dup C.1 rfl (dk_at dk_M_init_7 13 rfl) ?_
  refine r_bipush C.1 68 (dk_at dk_M_init_7 14 rfl) ?_
  refine r_bipush C.1 101 (dk_at dk_M_init_7 15 rfl) ?_
  refine r_bastA (n := 129) C 8 rfl rfl (k := 68) rfl (vp_lit rfl) (dk_at dk_M_init_7 16 rfl) ?_
  rw [wS_s (n := 68) (v := 101) (by decide)]
  refine r_dup C.1 rfl (dk_at dk_M_init_7 17 rfl) ?_
  refine r_bipush C.1 69 (dk_at dk_M_init_7 18 rfl) ?_
  refine r_bipush C.1 107 (dk_at dk_M_init_7 19 rfl) ?_
  refine r_bastA (n := 129) C 8 rfl rfl (k := 69) rfl (vp_lit rfl) (dk_at dk_M_init_7 20 rfl) ?_
  rw [wS_s (n := 69) (v := 107) (by decide)]
  refine r_dup C.1 rfl (dk_at dk_M_init_7 21 rfl) ?_
  refine r_bipush C.1 70 (dk_at dk_M_init_7 22 rfl) ?_
  refine r_bipush C.1 100 (dk_at dk_M_init_7 23 rfl) ?_
  refine r_bastA (n := 129) C 8 rfl rfl (k := 70) rfl (vp_lit rfl) (dk_at dk_M_init_7 24 rfl) ?_
  rw [wS_s (n := 70) (v := 100) (by decide)]
  refine r_dup C.1 rfl (dk_at dk_M_init_7 25 rfl) ?_
  refine r_bipush C.1 71 (dk_at dk_M_init_7 26 rfl) ?_
  refine r_bipush C.1 97 (dk_at dk_M_init_7 27 rfl) ?_
  refine r_bastA (n := 129) C 8 rfl rfl (k := 71) rfl (vp_lit rfl) (dk_at dk_M_init_7 28 rfl) ?_
  rw [wS_s (n := 71) (v := 97) (by decide)]
  refine r_dup C.1 rfl (dk_at dk_M_init_7 29 rfl) ?_
  refine r_bipush C.1 72 (dk_at dk_M_init_7 30 rfl) ?_
  refine r_bipush C.1 121 (dk_at dk_M_init_7 31 rfl) ?_
  refine r_bastA (n := 129) C 8 rfl rfl (k := 72) rfl (vp_lit rfl) (dk_at dk_M_init_7 32 rfl) ?_
  rw [wS_s (n := 72) (v := 121) (by decide)]
  refine r_dup C.1 rfl (dk_at dk_M_init_7 33 rfl) ?_
  refine r_bipush C.1 73 (dk_at dk_M_init_7 34 rfl) ?_
  refine r_bipush C.1 32 (dk_at dk_M_init_7 35 rfl) ?_
  refine r_bastA (n := 129) C 8 rfl rfl (k := 73) rfl (vp_lit rfl) (dk_at dk_M_init_7 36 rfl) ?_
  rw [wS_s (n := 73) (v := 32) (by decide)]
  refine r_dup C.1 rfl (dk_at dk_M_init_7 37 rfl) ?_
  refine r_bipush C.1 74 (dk_at dk_M_init_7 38 rfl) ?_
  refine r_bipush C.1 109 (dk_at dk_M_init_7 39 rfl) ?_
  refine r_bastA (n := 129) C 8 rfl rfl (k := 74) rfl (vp_lit rfl) (dk_at dk_M_init_8 0 rfl) ?_
  rw [wS_s (n := 74) (v := 109) (by decide)]
  refine r_dup C.1 rfl (dk_at dk_M_init_8 1 rfl) ?_
  refine r_bipush C.1 75 (dk_at dk_M_init_8 2 rfl) ?_
  refine r_bipush C.1 111 (dk_at dk_M_init_8 3 rfl) ?_
  refine r_bastA (n := 129) C 8 rfl rfl (k := 75) rfl (vp_lit rfl) (dk_at dk_M_init_8 4 rfl) ?_
  rw [wS_s (n := 75) (v := 111) (by decide)]
  refine r_dup C.1 rfl (dk_at dk_M_init_8 5 rfl) ?_
  refine r_bipush C.1 76 (dk_at dk_M_init_8 6 rfl) ?_
  refine r_bipush C.1 111 (dk_at dk_M_init_8 7 rfl) ?_
  refine r_bastA (n := 129) C 8 rfl rfl (k := 76) rfl (vp_lit rfl) (dk_at dk_M_init_8 8 rfl) ?_
  rw [wS_s (n := 76) (v := 111) (by decide)]
  refine r_dup C.1 rfl (dk_at dk_M_init_8 9 rfl) ?_
  refine r_bipush C.1 77 (dk_at dk_M_init_8 10 rfl) ?_
  refine r_bipush C.1 100 (dk_at dk_M_init_8 11 rfl) ?_
  refine r_bastA (n := 129) C 8 rfl rfl (k := 77) rfl (vp_lit rfl) (dk_at dk_M_init_8 12 rfl) ?_
  rw [wS_s (n := 77) (v := 100) (by decide)]
  refine r_dup C.1 rfl (dk_at dk_M_init_8 13 rfl) ?_
  refine r_bipush C.1 78 (dk_at dk_M_init_8 14 rfl) ?_
  refine r_bipush C.1 32 (dk_at dk_M_init_8 15 rfl) ?_
  refine r_bastA (n := 129) C 8 rfl rfl (k := 78) rfl (vp_lit rfl) (dk_at dk_M_init_8 16 rfl) ?_
  rw [wS_s (n := 78) (v := 32) (by decide)]
  refine r_dup C.1 rfl (dk_at dk_M_init_8 17 rfl) ?_
  refine r_bipush C.1 79 (dk_at dk_M_init_8 18 rfl) ?_
  refine r_bipush C.1 100 (dk_at dk_M_init_8 19 rfl) ?_
  refine r_bastA (n := 129) C 8 rfl rfl (k := 79) rfl (vp_lit rfl) (dk_at dk_M_init_8 20 rfl) ?_
  rw [wS_s (n := 79) (v := 100) (by decide)]
  refine r_dup C.1 rfl (dk_at dk_M_init_8 21 rfl) ?_
  refine r_bipush C.1 80 (dk_at dk_M_init_8 22 rfl) ?_
  refine r_bipush C.1 97 (dk_at dk_M_init_8 23 rfl) ?_
  refine r_bastA (n := 129) C 8 rfl rfl (k := 80) rfl (vp_lit rfl) (dk_at dk_M_init_8 24 rfl) ?_
  rw [wS_s (n := 80) (v := 97) (by decide)]
  refine r_dup C.1 rfl (dk_at dk_M_init_8 25 rfl) ?_
  refine r_bipush C.1 81 (dk_at dk_M_init_8 26 rfl) ?_
  refine r_bipush C.1 121 (dk_at dk_M_init_8 27 rfl) ?_
  refine r_bastA (n := 129) C 8 rfl rfl (k := 81) rfl (vp_lit rfl) (dk_at dk_M_init_8 28 rfl) ?_
  rw [wS_s (n := 81) (v := 121) (by decide)]
  refine r_dup C.1 rfl (dk_at dk_M_init_8 29 rfl) ?_
  refine r_bipush C.1 82 (dk_at dk_M_init_8 30 rfl) ?_
  refine r_bipush C.1 32 (dk_at dk_M_init_8 31 rfl) ?_
  refine r_bastA (n := 129) C 8 rfl rfl (k := 82) rfl (vp_lit rfl) (dk_at dk_M_init_8 32 rfl) ?_
  rw [wS_s (n := 82) (v := 32) (by decide)]
  refine r_dup C.1 rfl (dk_at dk_M_init_8 33 rfl) ?_
  refine r_bipush C.1 83 (dk_at dk_M_init_8 34 rfl) ?_
  refine r_bipush C.1 104 (dk_at dk_M_init_8 35 rfl) ?_
  refine r_bastA (n := 129) C 8 rfl rfl (k := 83) rfl (vp_lit rfl) (dk_at dk_M_init_8 36 rfl) ?_
  rw [wS_s (n := 83) (v := 104) (by decide)]
  refine r_dup C.1 rfl (dk_at dk_M_init_8 37 rfl) ?_
  refine r_bipush C.1 84 (dk_at dk_M_init_8 38 rfl) ?_
  refine r_bipush C.1 101 (dk_at dk_M_init_8 39 rfl) ?_
  refine r_bastA (n := 129) C 8 rfl rfl (k := 84) rfl (vp_lit rfl) (dk_at dk_M_init_9 0 rfl) ?_
  rw [wS_s (n := 84) (v := 101) (by decide)]
  refine r_dup C.1 rfl (dk_at dk_M_init_9 1 rfl) ?_
  refine r_bipush C.1 85 (dk_at dk_M_init_9 2 rfl) ?_
  refine r_bipush C.1 108 (dk_at dk_M_init_9 3 rfl) ?_
  refine r_bastA (n := 129) C 8 rfl rfl (k := 85) rfl (vp_lit rfl) (dk_at dk_M_init_9 4 rfl) ?_
  rw [wS_s (n := 85) (v := 108) (by decide)]
  refine r_dup C.1 rfl (dk_at dk_M_init_9 5 rfl) ?_
  refine r_bipush C.1 86 (dk_at dk_M_init_9 6 rfl) ?_
  refine r_bipush C.1 100 (dk_at dk_M_init_9 7 rfl) ?_
  refine r_bastA (n := 129) C 8 rfl rfl (k := 86) rfl (vp_lit rfl) (dk_at dk_M_init_9 8 rfl) ?_
  rw [wS_s (n := 86) (v := 100) (by decide)]
  refine r_dup C.1 rfl (dk_at dk_M_init_9 9 rfl) ?_
  refine r_bipush C.1 87 (dk_at dk_M_init_9 10 rfl) ?_
  refine r_bipush C.1 32 (dk_at dk_M_init_9 11 rfl) ?_
  refine r_bastA (n := 129) C 8 rfl rfl (k := 87) rfl (vp_lit rfl) (dk_at dk_M_init_9 12 rfl) ?_
  rw [wS_s (n := 87) (v := 32) (by decide)]
  refine r_dup C.1 rfl (dk_at dk_M_init_9 13 rfl) ?_
  refine r_bipush C.1 88 (dk_at dk_M_init_9 14 rfl) ?_
  refine r_bipush C.1 100 (dk_at dk_M_init_9 15 rfl) ?_
  refine r_bastA (n := 129) C 8 rfl rfl (k := 88) rfl (vp_lit rfl) (dk_at dk_M_init_9 16 rfl) ?_
  rw [wS_s (n := 88) (v := 100) (by decide)]
  refine r_dup C.1 rfl (dk_at dk_M_init_9 17 rfl) ?_
  refine r_bipush C.1 89 (dk_at dk_M_init_9 18 rfl) ?_
  refine r_bipush C.1 111 (dk_at dk_M_init_9 19 rfl) ?_
  refine r_bastA (n := 129) C 8 rfl rfl (k := 89) rfl (vp_lit rfl) (dk_at dk_M_init_9 20 rfl) ?_
  rw [wS_s (n := 89) (v := 111) (by decide)]
  refine r_dup C.1 rfl (dk_at dk_M_init_9 21 rfl) ?_
  refine r_bipush C.1 90 (dk_at dk_M_init_9 22 rfl) ?_
  refine r_bipush C.1 110 (dk_at dk_M_init_9 23 rfl) ?_
  refine r_bastA (n := 129) C 8 rfl rfl (k := 90) rfl (vp_lit rfl) (dk_at dk_M_init_9 24 rfl) ?_
  rw [wS_s (n := 90) (v := 110) (by decide)]
  refine r_dup C.1 rfl (dk_at dk_M_init_9 25 rfl) ?_
  refine r_bipush C.1 91 (dk_at dk_M_init_9 26 rfl) ?_
  refine r_bipush C.1 101 (dk_at dk_M_init_9 27 rfl) ?_
  refine r_bastA (n := 129) C 8 rfl rfl (k := 91) rfl (vp_lit rfl) (dk_at dk_M_init_9 28 rfl) ?_
  rw [wS_s (n := 91) (v := 101) (by decide)]
  refine r_dup C.1 rfl (dk_at dk_M_init_9 29 rfl) ?_
  refine r_bipush C.1 92 (dk_at dk_M_init_9 30 rfl) ?_
  refine r_bipush C.1 32 (dk_at dk_M_init_9 31 rfl) ?_
  refine r_bastA (n := 129) C 8 rfl rfl (k := 92) rfl (vp_lit rfl) (dk_at dk_M_init_9 32 rfl) ?_
  rw [wS_s (n := 92) (v := 32) (by decide)]
  refine r_dup C.1 rfl (dk_at dk_M_init_9 33 rfl) ?_
  refine r_bipush C.1 93 (dk_at dk_M_init_9 34 rfl) ?_
  refine r_bipush C.1 108 (dk_at dk_M_init_9 35 rfl) ?_
  refine r_bastA (n := 129) C 8 rfl rfl (k := 93) rfl (vp_lit rfl) (dk_at dk_M_init_9 36 rfl) ?_
  rw [wS_s (n := 93) (v := 108) (by decide)]
  refine r_dup C.1 rfl (dk_at dk_M_init_9 37 rfl) ?_
  refine r_bipush C.1 94 (dk_at dk_M_init_9 38 rfl) ?_
  refine r_bipush C.1 97 (dk_at dk_M_init_9 39 rfl) ?_
  refine r_bastA (n := 129) C 8 rfl rfl (k := 94) rfl (vp_lit rfl) (dk_at dk_M_init_10 0 rfl) ?_
  rw [wS_s (n := 94) (v := 97) (by decide)]
  refine r_dup C.1 rfl (dk_at dk_M_init_10 1 rfl) ?_
  refine r_bipush C.1 95 (dk_at dk_M_init_10 2 rfl) ?_
  refine r_bipush C.1 115 (dk_at dk_M_init_10 3 rfl) ?_
  refine r_bastA (n := 129) C 8 rfl rfl (k := 95) rfl (vp_lit rfl) (dk_at dk_M_init_10 4 rfl) ?_
  rw [wS_s (n := 95) (v := 115) (by decide)]
  refine r_dup C.1 rfl (dk_at dk_M_init_10 5 rfl) ?_
  refine r_bipush C.1 96 (dk_at dk_M_init_10 6 rfl) ?_
  refine r_bipush C.1 116 (dk_at dk_M_init_10 7 rfl) ?_
  refine r_bastA (n := 129) C 8 rfl rfl (k := 96) rfl (vp_lit rfl) (dk_at dk_M_init_10 8 rfl) ?_
  rw [wS_s (n := 96) (v := 116) (by decide)]
  refine r_dup C.1 rfl (dk_at dk_M_init_10 9 rfl) ?_
  refine r_bipush C.1 97 (dk_at dk_M_init_10 10 rfl) ?_
  refine r_bipush C.1 32 (dk_at dk_M_init_10 11 rfl) ?_
  refine r_bastA (n := 129) C 8 rfl rfl (k := 97) rfl (vp_lit rfl) (dk_at dk_M_init_10 12 rfl) ?_
  rw [wS_s (n := 97) (v := 32) (by decide)]
  refine r_dup C.1 rfl (dk_at dk_M_init_10 13 rfl) ?_
  refine r_bipush C.1 98 (dk_at dk_M_init_10 14 rfl) ?_
  refine r_bipush C.1 115 (dk_at dk_M_init_10 15 rfl) ?_
  refine r_bastA (n := 129) C 8 rfl rfl (k := 98) rfl (vp_lit rfl) (dk_at dk_M_init_10 16 rfl) ?_
  rw [wS_s (n := 98) (v := 115) (by decide)]
  refine r_dup C.1 rfl (dk_at dk_M_init_10 17 rfl) ?_
  refine r_bipush C.1 99 (dk_at dk_M_init_10 18 rfl) ?_
  refine r_bipush C.1 105 (dk_at dk_M_init_10 19 rfl) ?_
  refine r_bastA (n := 129) C 8 rfl rfl (k := 99) rfl (vp_lit rfl) (dk_at dk_M_init_10 20 rfl) ?_
  rw [wS_s (n := 99) (v := 105) (by decide)]
  refine r_dup C.1 rfl (dk_at dk_M_init_10 21 rfl) ?_
  refine r_bipush C.1 100 (dk_at dk_M_init_10 22 rfl) ?_
  refine r_bipush C.1 110 (dk_at dk_M_init_10 23 rfl) ?_
  refine r_bastA (n := 129) C 8 rfl rfl (k := 100) rfl (vp_lit rfl) (dk_at dk_M_init_10 24 rfl) ?_
  rw [wS_s (n := 100) (v := 110) (by decide)]
  refine r_dup C.1 rfl (dk_at dk_M_init_10 25 rfl) ?_
  refine r_bipush C.1 101 (dk_at dk_M_init_10 26 rfl) ?_
  refine r_bipush C.1 99 (dk_at dk_M_init_10 27 rfl) ?_
  refine r_bastA (n := 129) C 8 rfl rfl (k := 101) rfl (vp_lit rfl) (dk_at dk_M_init_10 28 rfl) ?_
  rw [wS_s (n := 101) (v := 99) (by decide)]
  refine r_dup C.1 rfl (dk_at dk_M_init_10 29 rfl) ?_
  refine r_bipush C.1 102 (dk_at dk_M_init_10 30 rfl) ?_
  refine r_bipush C.1 101 (dk_at dk_M_init_10 31 rfl) ?_
  refine r_bastA (n := 129) C 8 rfl rfl (k := 102) rfl (vp_lit rfl) (dk_at dk_M_init_10 32 rfl) ?_
  rw [wS_s (n := 102) (v := 101) (by decide)]
  refine r_dup C.1 rfl (dk_at dk_M_init_10 33 rfl) ?_
  refine r_bipush C.1 103 (dk_at dk_M_init_10 34 rfl) ?_
  refine r_bipush C.1 32 (dk_at dk_M_init_10 35 rfl) ?_
  refine r_bastA (n := 129) C 8 rfl rfl (k := 103) rfl (vp_lit rfl) (dk_at dk_M_init_10 36 rfl) ?_
  rw [wS_s (n := 103) (v := 32) (by decide)]
  refine r_dup C.1 rfl (dk_at dk_M_init_10 37 rfl) ?_
  refine r_bipush C.1 104 (dk_at dk_M_init_10 38 rfl) ?_
  refine r_bipush C.1 118 (dk_at dk_M_init_10 39 rfl) ?_
  refine r_bastA (n := 129) C 8 rfl rfl (k := 104) rfl (vp_lit rfl) (dk_at dk_M_init_11 0 rfl) ?_
  rw [wS_s (n := 104) (v := 118) (by decide)]
  refine r_dup C.1 rfl (dk_at dk_M_init_11 1 rfl) ?_
  refine r_bipush C.1 105 (dk_at dk_M_init_11 2 rfl) ?_
  refine r_bipush C.1 111 (dk_at dk_M_init_11 3 rfl) ?_
  refine r_bastA (n := 129) C 8 rfl rfl (k := 105) rfl (vp_lit rfl) (dk_at dk_M_init_11 4 rfl) ?_
  rw [wS_s (n := 105) (v := 111) (by decide)]
  refine r_dup C.1 rfl (dk_at dk_M_init_11 5 rfl) ?_
  refine r_bipush C.1 106 (dk_at dk_M_init_11 6 rfl) ?_
  refine r_bipush C.1 105 (dk_at dk_M_init_11 7 rfl) ?_
  refine r_bastA (n := 129) C 8 rfl rfl (k := 106) rfl (vp_lit rfl) (dk_at dk_M_init_11 8 rfl) ?_
  rw [wS_s (n := 106) (v := 105) (by decide)]
  refine r_dup C.1 rfl (dk_at dk_M_init_11 9 rfl) ?_
  refine r_bipush C.1 107 (dk_at dk_M_init_11 10 rfl) ?_
  refine r_bipush C.1 99 (dk_at dk_M_init_11 11 rfl) ?_
  refine r_bastA (n := 129) C 8 rfl rfl (k := 107) rfl (vp_lit rfl) (dk_at dk_M_init_11 12 rfl) ?_
  rw [wS_s (n := 107) (v := 99) (by decide)]
  refine r_dup C.1 rfl (dk_at dk_M_init_11 13 rfl) ?_
  refine r_bipush C.1 108 (dk_at dk_M_init_11 14 rfl) ?_
  refine r_bipush C.1 101 (dk_at dk_M_init_11 15 rfl) ?_
  refine r_bastA (n := 129) C 8 rfl rfl (k := 108) rfl (vp_lit rfl) (dk_at dk_M_init_11 16 rfl) ?_
  rw [wS_s (n := 108) (v := 101) (by decide)]
  refine r_dup C.1 rfl (dk_at dk_M_init_11 17 rfl) ?_
  refine r_bipush C.1 109 (dk_at dk_M_init_11 18 rfl) ?_
  refine r_bipush C.1 32 (dk_at dk_M_init_11 19 rfl) ?_
  refine r_bastA (n := 129) C 8 rfl rfl (k := 109) rfl (vp_lit rfl) (dk_at dk_M_init_11 20 rfl) ?_
  rw [wS_s (n := 109) (v := 32) (by decide)]
  refine r_dup C.1 rfl (dk_at dk_M_init_11 21 rfl) ?_
  refine r_bipush C.1 110 (dk_at dk_M_init_11 22 rfl) ?_
  refine r_bipush C.1 114 (dk_at dk_M_init_11 23 rfl) ?_
  refine r_bastA (n := 129) C 8 rfl rfl (k := 110) rfl (vp_lit rfl) (dk_at dk_M_init_11 24 rfl) ?_
  rw [wS_s (n := 110) (v := 114) (by decide)]
  refine r_dup C.1 rfl (dk_at dk_M_init_11 25 rfl) ?_
  refine r_bipush C.1 111 (dk_at dk_M_init_11 26 rfl) ?_
  refine r_bipush C.1 101 (dk_at dk_M_init_11 27 rfl) ?_
  refine r_bastA (n := 129) C 8 rfl rfl (k := 111) rfl (vp_lit rfl) (dk_at dk_M_init_11 28 rfl) ?_
  rw [wS_s (n := 111) (v := 101) (by decide)]
  refine r_dup C.1 rfl (dk_at dk_M_init_11 29 rfl) ?_
  refine r_bipush C.1 112 (dk_at dk_M_init_11 30 rfl) ?_
  refine r_bipush C.1 97 (dk_at dk_M_init_11 31 rfl) ?_
  refine r_bastA (n := 129) C 8 rfl rfl (k := 112) rfl (vp_lit rfl) (dk_at dk_M_init_11 32 rfl) ?_
  rw [wS_s (n := 112) (v := 97) (by decide)]
  refine r_dup C.1 rfl (dk_at dk_M_init_11 33 rfl) ?_
  refine r_bipush C.1 113 (dk_at dk_M_init_11 34 rfl) ?_
  refine r_bipush C.1 100 (dk_at dk_M_init_11 35 rfl) ?_
  refine r_bastA (n := 129) C 8 rfl rfl (k := 113) rfl (vp_lit rfl) (dk_at dk_M_init_11 36 rfl) ?_
  rw [wS_s (n := 113) (v := 100) (by decide)]
  refine r_dup C.1 rfl (dk_at dk_M_init_11 37 rfl) ?_
  refine r_bipush C.1 114 (dk_at dk_M_init_11 38 rfl) ?_
  refine r_bipush C.1 32 (dk_at dk_M_init_11 39 rfl) ?_
  refine r_bastA (n := 129) C 8 rfl rfl (k := 114) rfl (vp_lit rfl) (dk_at dk_M_init_12 0 rfl) ?_
  rw [wS_s (n := 114) (v := 32) (by decide)]
  refine r_dup C.1 rfl (dk_at dk_M_init_12 1 rfl) ?_
  refine r_bipush C.1 115 (dk_at dk_M_init_12 2 rfl) ?_
  refine r_bipush C.1 98 (dk_at dk_M_init_12 3 rfl) ?_
  refine r_bastA (n := 129) C 8 rfl rfl (k := 115) rfl (vp_lit rfl) (dk_at dk_M_init_12 4 rfl) ?_
  rw [wS_s (n := 115) (v := 98) (by decide)]
  refine r_dup C.1 rfl (dk_at dk_M_init_12 5 rfl) ?_
  refine r_bipush C.1 116 (dk_at dk_M_init_12 6 rfl) ?_
  refine r_bipush C.1 121 (dk_at dk_M_init_12 7 rfl) ?_
  refine r_bastA (n := 129) C 8 rfl rfl (k := 116) rfl (vp_lit rfl) (dk_at dk_M_init_12 8 rfl) ?_
  rw [wS_s (n := 116) (v := 121) (by decide)]
  refine r_dup C.1 rfl (dk_at dk_M_init_12 9 rfl) ?_
  refine r_bipush C.1 117 (dk_at dk_M_init_12 10 rfl) ?_
  refine r_bipush C.1 32 (dk_at dk_M_init_12 11 rfl) ?_
  refine r_bastA (n := 129) C 8 rfl rfl (k := 117) rfl (vp_lit rfl) (dk_at dk_M_init_12 12 rfl) ?_
  rw [wS_s (n := 117) (v := 32) (by decide)]
  refine r_dup C.1 rfl (dk_at dk_M_init_12 13 rfl) ?_
  refine r_bipush C.1 118 (dk_at dk_M_init_12 14 rfl) ?_
  refine r_bipush C.1 119 (dk_at dk_M_init_12 15 rfl) ?_
  refine r_bastA (n := 129) C 8 rfl rfl (k := 118) rfl (vp_lit rfl) (dk_at dk_M_init_12 16 rfl) ?_
  rw [wS_s (n := 118) (v := 119) (by decide)]
  refine r_dup C.1 rfl (dk_at dk_M_init_12 17 rfl) ?_
  refine r_bipush C.1 119 (dk_at dk_M_init_12 18 rfl) ?_
  refine r_bipush C.1 97 (dk_at dk_M_init_12 19 rfl) ?_
  refine r_bastA (n := 129) C 8 rfl rfl (k := 119) rfl (vp_lit rfl) (dk_at dk_M_init_12 20 rfl) ?_
  rw [wS_s (n := 119) (v := 97) (by decide)]
  refine r_dup C.1 rfl (dk_at dk_M_init_12 21 rfl) ?_
  refine r_bipush C.1 120 (dk_at dk_M_init_12 22 rfl) ?_
  refine r_bipush C.1 105 (dk_at dk_M_init_12 23 rfl) ?_
  refine r_bastA (n := 129) C 8 rfl rfl (k := 120) rfl (vp_lit rfl) (dk_at dk_M_init_12 24 rfl) ?_
  rw [wS_s (n := 120) (v := 105) (by decide)]
  refine r_dup C.1 rfl (dk_at dk_M_init_12 25 rfl) ?_
  refine r_bipush C.1 121 (dk_at dk_M_init_12 26 rfl) ?_
  refine r_bipush C.1 116 (dk_at dk_M_init_12 27 rfl) ?_
  refine r_bastA (n := 129) C 8 rfl rfl (k := 121) rfl (vp_lit rfl) (dk_at dk_M_init_12 28 rfl) ?_
  rw [wS_s (n := 121) (v := 116) (by decide)]
  refine r_dup C.1 rfl (dk_at dk_M_init_12 29 rfl) ?_
  refine r_bipush C.1 122 (dk_at dk_M_init_12 30 rfl) ?_
  refine r_bipush C.1 32 (dk_at dk_M_init_12 31 rfl) ?_
  refine r_bastA (n := 129) C 8 rfl rfl (k := 122) rfl (vp_lit rfl) (dk_at dk_M_init_12 32 rfl) ?_
  rw [wS_s (n := 122) (v := 32) (by decide)]
  refine r_dup C.1 rfl (dk_at dk_M_init_12 33 rfl) ?_
  refine r_bipush C.1 123 (dk_at dk_M_init_12 34 rfl) ?_
  refine r_bipush C.1 116 (dk_at dk_M_init_12 35 rfl) ?_
  refine r_bastA (n := 129) C 8 rfl rfl (k := 123) rfl (vp_lit rfl) (dk_at dk_M_init_12 36 rfl) ?_
  rw [wS_s (n := 123) (v := 116) (by decide)]
  refine r_dup C.1 rfl (dk_at dk_M_init_12 37 rfl) ?_
  refine r_bipush C.1 124 (dk_at dk_M_init_12 38 rfl) ?_
  refine r_bipush C.1 105 (dk_at dk_M_init_12 39 rfl) ?_
  refine r_bastA (n := 129) C 8 rfl rfl (k := 124) rfl (vp_lit rfl) (dk_at dk_M_init_13 0 rfl) ?_
  rw [wS_s (n := 124) (v := 105) (by decide)]
  refine r_dup C.1 rfl (dk_at dk_M_init_13 1 rfl) ?_
  refine r_bipush C.1 125 (dk_at dk_M_init_13 2 rfl) ?_
  refine r_bipush C.1 109 (dk_at dk_M_init_13 3 rfl) ?_
  refine r_bastA (n := 129) C 8 rfl rfl (k := 125) rfl (vp_lit rfl) (dk_at dk_M_init_13 4 rfl) ?_
  rw [wS_s (n := 125) (v := 109) (by decide)]
  refine r_dup C.1 rfl (dk_at dk_M_init_13 5 rfl) ?_
  refine r_bipush C.1 126 (dk_at dk_M_init_13 6 rfl) ?_
  refine r_bipush C.1 101 (dk_at dk_M_init_13 7 rfl) ?_
  refine r_bastA (n := 129) C 8 rfl rfl (k := 126) rfl (vp_lit rfl) (dk_at dk_M_init_13 8 rfl) ?_
  rw [wS_s (n := 126) (v := 101) (by decide)]
  refine r_dup C.1 rfl (dk_at dk_M_init_13 9 rfl) ?_
  refine r_bipush C.1 127 (dk_at dk_M_init_13 10 rfl) ?_
  refine r_bipush C.1 115 (dk_at dk_M_init_13 11 rfl) ?_
  refine r_bastA (n := 129) C 8 rfl rfl (k := 127) rfl (vp_lit rfl) (dk_at dk_M_init_13 12 rfl) ?_
  rw [wS_s (n := 127) (v := 115) (by decide)]
  refine r_dup C.1 rfl (dk_at dk_M_init_13 13 rfl) ?_
  refine r_sipush C.1 128 (dk_at dk_M_init_13 14 rfl) ?_
  refine r_bipush C.1 32 (dk_at dk_M_init_13 15 rfl) ?_
  refine r_bastA (n := 129) C 8 rfl rfl (k := 128) rfl (vp_lit rfl) (dk_at dk_M_init_13 16 rfl) ?_
  rw [wS_s (n := 128) (v := 32) (by decide)]
  replace hN := hN.wS 129
  refine r_pf C hi hN fw_M_30 ⟨rfl, rfl⟩ ha (Nat.le_of_ble_eq_true rfl) (dk_at dk_M_init_13 17 rfl) [.int 0, .int 0, .ref q1, .ref q2, .ref q3, .ref q4, .int 0, .ref q5, .int 0, .int 0, .int 0, .null, .null, .int 0, .int 0, .null, .null, .null, .int 0, .int 0, .int 0, .int 0, .int 0, .int 0, .int 0, .null, .null, .null, .null, .int 0, .null, .null, .int 0, .int 0, .int 0, .int 0, .int 0, .int 0, .null, .null, .int 0, .null, .null, .null, .int 0, .int 0, .int 0, .int 0, .int 0, .int 0, .int 0, .int 0, .null, .null, .null, .int 0, .int 0] rfl (fun C hN => ?_)
  refine r_aload_n C.1 0 rfl (dk_at dk_M_init_13 18 rfl) ?_
  refine r_sipush C.1 400 (dk_at dk_M_init_13 19 rfl) ?_
  refine r_newB (c1 := 6) (s1 := 18574) C tc_818 12 400 (by decide) rfl (by decide) (no_sn (by decide) (no_an (by decide) (no_an (by decide) (no_an (by decide) (no_an (by decide) (no_an (by decide) (hno 12 (by decide)))))))) (hN 12 trivial) ⟨rfl, rfl, Nat.le_of_ble_eq_true rfl, Nat.le_of_ble_eq_true rfl⟩ (dk_at dk_M_init_13 20 rfl) (fun q6 hhq6 C => ?_)
  refine r_nf C hi (by decide) hN (fun _ _ => nR_I) fw_M_34 ⟨rfl, rfl⟩ ha (Nat.le_of_ble_eq_true rfl) (dk_at dk_M_init_13 21 rfl) [.int 0, .int 0, .ref q1, .ref q2, .ref q3, .ref q4, .int 0, .ref q5, .int 0, .int 0, .int 0, .ref q6, .null, .int 0, .int 0, .null, .null, .null, .int 0, .int 0, .int 0, .int 0, .int 0, .int 0, .int 0, .null, .null, .null, .null, .int 0, .null, .null, .int 0, .int 0, .int 0, .int 0, .int 0, .int 0, .null, .null, .int 0, .null, .null, .null, .int 0, .int 0, .int 0, .int 0, .int 0, .int 0, .int 0, .int 0, .null, .null, .null, .int 0, .int 0] rfl (fun C hN ha => ?_)
  refine r_aload_n C.1 0 rfl (dk_at dk_M_init_13 22 rfl) ?_
  refine r_iconst C.1 5 (dk_at dk_M_init_13 23 rfl) ?_
  refine r_newI (c1 := 7) (s1 := 18579) C tc_152 13 5 (by decide) rfl (by decide) (no_sn (by decide) (no_an (by decide) (no_an (by decide) (no_an (by decide) (no_an (by decide) (no_an (by decide) (no_an (by decide) (hno 13 (by decide))))))))) (hN 13 trivial) ⟨rfl, rfl, Nat.le_of_ble_eq_true rfl, Nat.le_of_ble_eq_true rfl⟩ (dk_at dk_M_init_13 24 rfl) (fun q7 hhq7 C => ?_)
  refine r_nf C hi (by decide) hN (fun _ _ => nR_I) fw_M_37 ⟨rfl, rfl⟩ ha (Nat.le_of_ble_eq_true rfl) (dk_at dk_M_init_13 25 rfl) [.int 0, .int 0, .ref q1, .ref q2, .ref q3, .ref q4, .int 0, .ref q5, .int 0, .int 0, .int 0, .ref q6, .ref q7, .int 0, .int 0, .null, .null, .null, .int 0, .int 0, .int 0, .int 0, .int 0, .int 0, .int 0, .null, .null, .null, .null, .int 0, .null, .null, .int 0, .int 0, .int 0, .int 0, .int 0, .int 0, .null, .null, .int 0, .null, .null, .null, .int 0, .int 0, .int 0, .int 0, .int 0, .int 0, .int 0, .int 0, .null, .null, .null, .int 0, .int 0] rfl (fun C hN ha => ?_)
  refine r_aload_n C.1 0 rfl (dk_at dk_M_init_13 26 rfl) ?_
  refine r_iconst C.1 (-1) (dk_at dk_M_init_13 27 rfl) ?_
  refine r_pf C hi hN fw_M_40 ⟨rfl, rfl⟩ ha (Nat.le_of_ble_eq_true rfl) (dk_at dk_M_init_13 28 rfl) [.int 0, .int 0, .ref q1, .ref q2, .ref q3, .ref q4, .int 0, .ref q5, .int 0, .int 0, .int 0, .ref q6, .ref q7, .int 0, .int (-1), .null, .null, .null, .int 0, .int 0, .int 0, .int 0, .int 0, .int 0, .int 0, .null, .null, .null, .null, .int 0, .null, .null, .int 0, .int 0, .int 0, .int 0, .int 0, .int 0, .null, .null, .int 0, .null, .null, .null, .int 0, .int 0, .int 0, .int 0, .int 0, .int 0, .int 0, .int 0, .null, .null, .null, .int 0, .int 0] rfl (fun C hN => ?_)
  refine r_aload_n C.1 0 rfl (dk_at dk_M_init_13 29 rfl) ?_
  refine r_sipush C.1 401 (dk_at dk_M_init_13 30 rfl) ?_
  refine r_newI (c1 := 8) (s1 := 18980) C tc_152 16 401 (by decide) rfl (by decide) (no_sn (by decide) (no_an (by decide) (no_an (by decide) (no_an (by decide) (no_an (by decide) (no_an (by decide) (no_an (by decide) (no_an (by decide) (hno 16 (by decide)))))))))) (hN 16 trivial) ⟨rfl, rfl, Nat.le_of_ble_eq_true rfl, Nat.le_of_ble_eq_true rfl⟩ (dk_at dk_M_init_13 31 rfl) (fun q8 hhq8 C => ?_)
  refine r_nf C hi (by decide) hN (fun _ _ => nR_I) fw_M_43 ⟨rfl, rfl⟩ ha (Nat.le_of_ble_eq_true rfl) (dk_at dk_M_init_13 32 rfl) [.int 0, .int 0, .ref q1, .ref q2, .ref q3, .ref q4, .int 0, .ref q5, .int 0, .int 0, .int 0, .ref q6, .ref q7, .int 0, .int (-1), .ref q8, .null, .null, .int 0, .int 0, .int 0, .int 0, .int 0, .int 0, .int 0, .null, .null, .null, .null, .int 0, .null, .null, .int 0, .int 0, .int 0, .int 0, .int 0, .int 0, .null, .null, .int 0, .null, .null, .null, .int 0, .int 0, .int 0, .int 0, .int 0, .int 0, .int 0, .int 0, .null, .null, .null, .int 0, .int 0] rfl (fun C hN ha => ?_)
  refine r_aload_n C.1 0 rfl (dk_at dk_M_init_13 33 rfl) ?_
  refine r_sipush C.1 401 (dk_at dk_M_init_13 34 rfl) ?_
  refine r_newI (c1 := 9) (s1 := 19381) C tc_152 17 401 (by decide) rfl (by decide) (no_sn (by decide) (no_an (by decide) (no_an (by decide) (no_an (by decide) (no_an (by decide) (no_an (by decide) (no_an (by decide) (no_an (by decide) (no_an (by decide) (hno 17 (by decide))))))))))) (hN 17 trivial) ⟨rfl, rfl, Nat.le_of_ble_eq_true rfl, Nat.le_of_ble_eq_true rfl⟩ (dk_at dk_M_init_13 35 rfl) (fun q9 hhq9 C => ?_)
  refine r_nf C hi (by decide) hN (fun _ _ => nR_I) fw_M_46 ⟨rfl, rfl⟩ ha (Nat.le_of_ble_eq_true rfl) (dk_at dk_M_init_13 36 rfl) [.int 0, .int 0, .ref q1, .ref q2, .ref q3, .ref q4, .int 0, .ref q5, .int 0, .int 0, .int 0, .ref q6, .ref q7, .int 0, .int (-1), .ref q8, .ref q9, .null, .int 0, .int 0, .int 0, .int 0, .int 0, .int 0, .int 0, .null, .null, .null, .null, .int 0, .null, .null, .int 0, .int 0, .int 0, .int 0, .int 0, .int 0, .null, .null, .int 0, .null, .null, .null, .int 0, .int 0, .int 0, .int 0, .int 0, .int 0, .int 0, .int 0, .null, .null, .null, .int 0, .int 0] rfl (fun C hN ha => ?_)
  refine r_aload_n C.1 0 rfl (dk_at dk_M_init_13 37 rfl) ?_
  refine r_sipush C.1 401 (dk_at dk_M_init_13 38 rfl) ?_
  refine r_newI (c1 := 10) (s1 := 19782) C tc_152 18 401 (by decide) rfl (by decide) (no_sn (by decide) (no_an (by decide) (no_an (by decide) (no_an (by decide) (no_an (by decide) (no_an (by decide) (no_an (by decide) (no_an (by decide) (no_an (by decide) (no_an (by decide) (hno 18 (by decide)))))))))))) (hN 18 trivial) ⟨rfl, rfl, Nat.le_of_ble_eq_true rfl, Nat.le_of_ble_eq_true rfl⟩ (dk_at dk_M_init_13 39 rfl) (fun q10 hhq10 C => ?_)
  refine r_nf C hi (by decide) hN (fun _ _ => nR_I) fw_M_49 ⟨rfl, rfl⟩ ha (Nat.le_of_ble_eq_true rfl) (dk_at dk_M_init_14 0 rfl) [.int 0, .int 0, .ref q1, .ref q2, .ref q3, .ref q4, .int 0, .ref q5, .int 0, .int 0, .int 0, .ref q6, .ref q7, .int 0, .int (-1), .ref q8, .ref q9, .ref q10, .int 0, .int 0, .int 0, .int 0, .int 0, .int 0, .int 0, .null, .null, .null, .null, .int 0, .null, .null, .int 0, .int 0, .int 0, .int 0, .int 0, .int 0, .null, .null, .int 0, .null, .null, .null, .int 0, .int 0, .int 0, .int 0, .int 0, .int 0, .int 0, .int 0, .null, .null, .null, .int 0, .int 0] rfl (fun C hN ha => ?_)
  refine r_aload_n C.1 0 rfl (dk_at dk_M_init_14 1 rfl) ?_
  refine r_bipush C.1 8 (dk_at dk_M_init_14 2 rfl) ?_
  refine r_newI (c1 := 11) (s1 := 19790) C tc_152 26 8 (by decide) rfl (by decide) (no_sn (by decide) (no_an (by decide) (no_an (by decide) (no_an (by decide) (no_an (by decide) (no_an (by decide) (no_an (by decide) (no_an (by decide) (no_an (by decide) (no_an (by decide) (no_an (by decide) (hno 26 (by decide))))))))))))) (hN 26 trivial) ⟨rfl, rfl, Nat.le_of_ble_eq_true rfl, Nat.le_of_ble_eq_true rfl⟩ (dk_at dk_M_init_14 3 rfl) (fun q11 hhq11 C => ?_)
  refine r_nf C hi (by decide) hN (fun _ _ => nR_I) fw_M_52 ⟨rfl, rfl⟩ ha (Nat.le_of_ble_eq_true rfl) (dk_at dk_M_init_14 4 rfl) [.int 0, .int 0, .ref q1, .ref q2, .ref q3, .ref q4, .int 0, .ref q5, .int 0, .int 0, .int 0, .ref q6, .ref q7, .int 0, .int (-1), .ref q8, .ref q9, .ref q10, .int 0, .int 0, .int 0, .int 0, .int 0, .int 0, .int 0, .ref q11, .null, .null, .null, .int 0, .null, .null, .int 0, .int 0, .int 0, .int 0, .int 0, .int 0, .null, .null, .int 0, .null, .null, .null, .int 0, .int 0, .int 0, .int 0, .int 0, .int 0, .int 0, .int 0, .null, .null, .null, .int 0, .int 0] rfl (fun C hN ha => ?_)
  refine r_aload_n C.1 0 rfl (dk_at dk_M_init_14 5 rfl) ?_
  refine r_bipush C.1 8 (dk_at dk_M_init_14 6 rfl) ?_
  refine r_newI (c1 := 12) (s1 := 19798) C tc_152 27 8 (by decide) rfl (by decide) (no_sn (by decide) (no_an (by decide) (no_an (by decide) (no_an (by decide) (no_an (by decide) (no_an (by decide) (no_an (by decide) (no_an (by decide) (no_an (by decide) (no_an (by decide) (no_an (by decide) (no_an (by decide) (hno 27 (by decide)))))))))))))) (hN 27 trivial) ⟨rfl, rfl, Nat.le_of_ble_eq_true rfl, Nat.le_of_ble_eq_true rfl⟩ (dk_at dk_M_init_14 7 rfl) (fun q12 hhq12 C => ?_)
  refine r_nf C hi (by decide) hN (fun _ _ => nR_I) fw_M_55 ⟨rfl, rfl⟩ ha (Nat.le_of_ble_eq_true rfl) (dk_at dk_M_init_14 8 rfl) [.int 0, .int 0, .ref q1, .ref q2, .ref q3, .ref q4, .int 0, .ref q5, .int 0, .int 0, .int 0, .ref q6, .ref q7, .int 0, .int (-1), .ref q8, .ref q9, .ref q10, .int 0, .int 0, .int 0, .int 0, .int 0, .int 0, .int 0, .ref q11, .ref q12, .null, .null, .int 0, .null, .null, .int 0, .int 0, .int 0, .int 0, .int 0, .int 0, .null, .null, .int 0, .null, .null, .null, .int 0, .int 0, .int 0, .int 0, .int 0, .int 0, .int 0, .int 0, .null, .null, .null, .int 0, .int 0] rfl (fun C hN ha => ?_)
  refine r_aload_n C.1 0 rfl (dk_at dk_M_init_14 9 rfl) ?_
  refine r_iconst C.1 4 (dk_at dk_M_init_14 10 rfl) ?_
  refine r_newI (c1 := 13) (s1 := 19802) C tc_152 28 4 (by decide) rfl (by decide) (no_sn (by decide) (no_an (by decide) (no_an (by decide) (no_an (by decide) (no_an (by decide) (no_an (by decide) (no_an (by decide) (no_an (by decide) (no_an (by decide) (no_an (by decide) (no_an (by decide) (no_an (by decide) (no_an (by decide) (hno 28 (by decide))))))))))))))) (hN 28 trivial) ⟨rfl, rfl, Nat.le_of_ble_eq_true rfl, Nat.le_of_ble_eq_true rfl⟩ (dk_at dk_M_init_14 11 rfl) (fun q13 hhq13 C => ?_)
  refine r_nf C hi (by decide) hN (fun _ _ => nR_I) fw_M_58 ⟨rfl, rfl⟩ ha (Nat.le_of_ble_eq_true rfl) (dk_at dk_M_init_14 12 rfl) [.int 0, .int 0, .ref q1, .ref q2, .ref q3, .ref q4, .int 0, .ref q5, .int 0, .int 0, .int 0, .ref q6, .ref q7, .int 0, .int (-1), .ref q8, .ref q9, .ref q10, .int 0, .int 0, .int 0, .int 0, .int 0, .int 0, .int 0, .ref q11, .ref q12, .ref q13, .null, .int 0, .null, .null, .int 0, .int 0, .int 0, .int 0, .int 0, .int 0, .null, .null, .int 0, .null, .null, .null, .int 0, .int 0, .int 0, .int 0, .int 0, .int 0, .int 0, .int 0, .null, .null, .null, .int 0, .int 0] rfl (fun C hN ha => ?_)
  refine r_aload_n C.1 0 rfl (dk_at dk_M_init_14 13 rfl) ?_
  refine r_sipush C.1 672 (dk_at dk_M_init_14 14 rfl) ?_
  refine r_newB (c1 := 14) (s1 := 20474) C tc_818 29 672 (by decide) rfl (by decide) (no_sn (by decide) (no_an (by decide) (no_an (by decide) (no_an (by decide) (no_an (by decide) (no_an (by decide) (no_an (by decide) (no_an (by decide) (no_an (by decide) (no_an (by decide) (no_an (by decide) (no_an (by decide) (no_an (by decide) (no_an (by decide) (hno 29 (by decide)))))))))))))))) (hN 29 trivial) ⟨rfl, rfl, Nat.le_of_ble_eq_true rfl, Nat.le_of_ble_eq_true rfl⟩ (dk_at dk_M_init_14 15 rfl) (fun q14 hhq14 C => ?_)
  refine r_nf C hi (by decide) hN (fun _ _ => nR_I) fw_M_61 ⟨rfl, rfl⟩ ha (Nat.le_of_ble_eq_true rfl) (dk_at dk_M_init_14 16 rfl) [.int 0, .int 0, .ref q1, .ref q2, .ref q3, .ref q4, .int 0, .ref q5, .int 0, .int 0, .int 0, .ref q6, .ref q7, .int 0, .int (-1), .ref q8, .ref q9, .ref q10, .int 0, .int 0, .int 0, .int 0, .int 0, .int 0, .int 0, .ref q11, .ref q12, .ref q13, .ref q14, .int 0, .null, .null, .int 0, .int 0, .int 0, .int 0, .int 0, .int 0, .null, .null, .int 0, .null, .null, .null, .int 0, .int 0, .int 0, .int 0, .int 0, .int 0, .int 0, .int 0, .null, .null, .null, .int 0, .int 0] rfl (fun C hN ha => ?_)
  refine r_aload_n C.1 0 rfl (dk_at dk_M_init_14 17 rfl) ?_
  refine r_iconst C.1 (-1) (dk_at dk_M_init_14 18 rfl) ?_
  refine r_pf C hi hN fw_M_64 ⟨rfl, rfl⟩ ha (Nat.le_of_ble_eq_true rfl) (dk_at dk_M_init_14 19 rfl) [.int 0, .int 0, .ref q1, .ref q2, .ref q3, .ref q4, .int 0, .ref q5, .int 0, .int 0, .int 0, .ref q6, .ref q7, .int 0, .int (-1), .ref q8, .ref q9, .ref q10, .int 0, .int 0, .int 0, .int 0, .int 0, .int 0, .int 0, .ref q11, .ref q12, .ref q13, .ref q14, .int (-1), .null, .null, .int 0, .int 0, .int 0, .int 0, .int 0, .int 0, .null, .null, .int 0, .null, .null, .null, .int 0, .int 0, .int 0, .int 0, .int 0, .int 0, .int 0, .int 0, .null, .null, .null, .int 0, .int 0] rfl (fun C hN => ?_)
  refine r_aload_n C.1 0 rfl (dk_at dk_M_init_14 20 rfl) ?_
  refine r_iconst C.1 5 (dk_at dk_M_init_14 21 rfl) ?_
  refine r_newI (c1 := 15) (s1 := 20479) C tc_152 31 5 (by decide) rfl (by decide) (no_sn (by decide) (no_an (by decide) (no_an (by decide) (no_an (by decide) (no_an (by decide) (no_an (by decide) (no_an (by decide) (no_an (by decide) (no_an (by decide) (no_an (by decide) (no_an (by decide) (no_an (by decide) (no_an (by decide) (no_an (by decide) (no_an (by decide) (hno 31 (by decide))))))))))))))))) (hN 31 trivial) ⟨rfl, rfl, Nat.le_of_ble_eq_true rfl, Nat.le_of_ble_eq_true rfl⟩ (dk_at dk_M_init_14 22 rfl) (fun q15 hhq15 C => ?_)
  refine r_nf C hi (by decide) hN (fun _ _ => nR_I) fw_M_67 ⟨rfl, rfl⟩ ha (Nat.le_of_ble_eq_true rfl) (dk_at dk_M_init_14 23 rfl) [.int 0, .int 0, .ref q1, .ref q2, .ref q3, .ref q4, .int 0, .ref q5, .int 0, .int 0, .int 0, .ref q6, .ref q7, .int 0, .int (-1), .ref q8, .ref q9, .ref q10, .int 0, .int 0, .int 0, .int 0, .int 0, .int 0, .int 0, .ref q11, .ref q12, .ref q13, .ref q14, .int (-1), .ref q15, .null, .int 0, .int 0, .int 0, .int 0, .int 0, .int 0, .null, .null, .int 0, .null, .null, .null, .int 0, .int 0, .int 0, .int 0, .int 0, .int 0, .int 0, .int 0, .null, .null, .null, .int 0, .int 0] rfl (fun C hN ha => ?_)
  refine r_aload_n C.1 0 rfl (dk_at dk_M_init_14 24 rfl) ?_
  refine r_iconst C.1 5 (dk_at dk_M_init_14 25 rfl) ?_
  refine r_newI (c1 := 16) (s1 := 20484) C tc_152 32 5 (by decide) rfl (by decide) (no_sn (by decide) (no_an (by decide) (no_an (by decide) (no_an (by decide) (no_an (by decide) (no_an (by decide) (no_an (by decide) (no_an (by decide) (no_an (by decide) (no_an (by decide) (no_an (by decide) (no_an (by decide) (no_an (by decide) (no_an (by decide) (no_an (by decide) (no_an (by decide) (hno 32 (by decide)))))))))))))))))) (hN 32 trivial) ⟨rfl, rfl, Nat.le_of_ble_eq_true rfl, Nat.le_of_ble_eq_true rfl⟩ (dk_at dk_M_init_14 26 rfl) (fun q16 hhq16 C => ?_)
  refine r_nf C hi (by decide) hN (fun _ _ => nR_I) fw_M_70 ⟨rfl, rfl⟩ ha (Nat.le_of_ble_eq_true rfl) (dk_at dk_M_init_14 27 rfl) [.int 0, .int 0, .ref q1, .ref q2, .ref q3, .ref q4, .int 0, .ref q5, .int 0, .int 0, .int 0, .ref q6, .ref q7, .int 0, .int (-1), .ref q8, .ref q9, .ref q10, .int 0, .int 0, .int 0, .int 0, .int 0, .int 0, .int 0, .ref q11, .ref q12, .ref q13, .ref q14, .int (-1), .ref q15, .ref q16, .int 0, .int 0, .int 0, .int 0, .int 0, .int 0, .null, .null, .int 0, .null, .null, .null, .int 0, .int 0, .int 0, .int 0, .int 0, .int 0, .int 0, .int 0, .null, .null, .null, .int 0, .int 0] rfl (fun C hN ha => ?_)
  refine r_aload_n C.1 0 rfl (dk_at dk_M_init_14 28 rfl) ?_
  refine r_bipush C.1 8 (dk_at dk_M_init_14 29 rfl) ?_
  refine r_newI (c1 := 17) (s1 := 20492) C tc_152 39 8 (by decide) rfl (by decide) (no_sn (by decide) (no_an (by decide) (no_an (by decide) (no_an (by decide) (no_an (by decide) (no_an (by decide) (no_an (by decide) (no_an (by decide) (no_an (by decide) (no_an (by decide) (no_an (by decide) (no_an (by decide) (no_an (by decide) (no_an (by decide) (no_an (by decide) (no_an (by decide) (no_an (by decide) (hno 39 (by decide))))))))))))))))))) (hN 39 trivial) ⟨rfl, rfl, Nat.le_of_ble_eq_true rfl, Nat.le_of_ble_eq_true rfl⟩ (dk_at dk_M_init_14 30 rfl) (fun q17 hhq17 C => ?_)
  refine r_nf C hi (by decide) hN (fun _ _ => nR_I) fw_M_73 ⟨rfl, rfl⟩ ha (Nat.le_of_ble_eq_true rfl) (dk_at dk_M_init_14 31 rfl) [.int 0, .int 0, .ref q1, .ref q2, .ref q3, .ref q4, .int 0, .ref q5, .int 0, .int 0, .int 0, .ref q6, .ref q7, .int 0, .int (-1), .ref q8, .ref q9, .ref q10, .int 0, .int 0, .int 0, .int 0, .int 0, .int 0, .int 0, .ref q11, .ref q12, .ref q13, .ref q14, .int (-1), .ref q15, .ref q16, .int 0, .int 0, .int 0, .int 0, .int 0, .int 0, .ref q17, .null, .int 0, .null, .null, .null, .int 0, .int 0, .int 0, .int 0, .int 0, .int 0, .int 0, .int 0, .null, .null, .null, .int 0, .int 0] rfl (fun C hN ha => ?_)
  refine r_aload_n C.1 0 rfl (dk_at dk_M_init_14 32 rfl) ?_
  refine r_iconst C.1 4 (dk_at dk_M_init_14 33 rfl) ?_
  refine r_newI (c1 := 18) (s1 := 20496) C tc_152 40 4 (by decide) rfl (by decide) (no_sn (by decide) (no_an (by decide) (no_an (by decide) (no_an (by decide) (no_an (by decide) (no_an (by decide) (no_an (by decide) (no_an (by decide) (no_an (by decide) (no_an (by decide) (no_an (by decide) (no_an (by decide) (no_an (by decide) (no_an (by decide) (no_an (by decide) (no_an (by decide) (no_an (by decide) (no_an (by decide) (hno 40 (by decide)))))))))))))))))))) (hN 40 trivial) ⟨rfl, rfl, Nat.le_of_ble_eq_true rfl, Nat.le_of_ble_eq_true rfl⟩ (dk_at dk_M_init_14 34 rfl) (fun q18 hhq18 C => ?_)
  refine r_nf C hi (by decide) hN (fun _ _ => nR_I) fw_M_76 ⟨rfl, rfl⟩ ha (Nat.le_of_ble_eq_true rfl) (dk_at dk_M_init_14 35 rfl) [.int 0, .int 0, .ref q1, .ref q2, .ref q3, .ref q4, .int 0, .ref q5, .int 0, .int 0, .int 0, .ref q6, .ref q7, .int 0, .int (-1), .ref q8, .ref q9, .ref q10, .int 0, .int 0, .int 0, .int 0, .int 0, .int 0, .int 0, .ref q11, .ref q12, .ref q13, .ref q14, .int (-1), .ref q15, .ref q16, .int 0, .int 0, .int 0, .int 0, .int 0, .int 0, .ref q17, .ref q18, .int 0, .null, .null, .null, .int 0, .int 0, .int 0, .int 0, .int 0, .int 0, .int 0, .int 0, .null, .null, .null, .int 0, .int 0] rfl (fun C hN ha => ?_)
  refine r_aload_n C.1 0 rfl (dk_at dk_M_init_14 36 rfl) ?_
  refine r_bipush C.1 8 (dk_at dk_M_init_14 37 rfl) ?_
  refine r_newI (c1 := 19) (s1 := 20504) C tc_152 42 8 (by decide) rfl (by decide) (no_sn (by decide) (no_an (by decide) (no_an (by decide) (no_an (by decide) (no_an (by decide) (no_an (by decide) (no_an (by decide) (no_an (by decide) (no_an (by decide) (no_an (by decide) (no_an (by decide) (no_an (by decide) (no_an (by decide) (no_an (by decide) (no_an (by decide) (no_an (by decide) (no_an (by decide) (no_an (by decide) (no_an (by decide) (hno 42 (by decide))))))))))))))))))))) (hN 42 trivial) ⟨rfl, rfl, Nat.le_of_ble_eq_true rfl, Nat.le_of_ble_eq_true rfl⟩ (dk_at dk_M_init_14 38 rfl) (fun q19 hhq19 C => ?_)
  refine r_nf C hi (by decide) hN (fun _ _ => nR_I) fw_M_79 ⟨rfl, rfl⟩ ha (Nat.le_of_ble_eq_true rfl) (dk_at dk_M_init_14 39 rfl) [.int 0, .int 0, .ref q1, .ref q2, .ref q3, .ref q4, .int 0, .ref q5, .int 0, .int 0, .int 0, .ref q6, .ref q7, .int 0, .int (-1), .ref q8, .ref q9, .ref q10, .int 0, .int 0, .int 0, .int 0, .int 0, .int 0, .int 0, .ref q11, .ref q12, .ref q13, .ref q14, .int (-1), .ref q15, .ref q16, .int 0, .int 0, .int 0, .int 0, .int 0, .int 0, .ref q17, .ref q18, .int 0, .ref q19, .null, .null, .int 0, .int 0, .int 0, .int 0, .int 0, .int 0, .int 0, .int 0, .null, .null, .null, .int 0, .int 0] rfl (fun C hN ha => ?_)
  refine r_aload_n C.1 0 rfl (dk_at dk_M_init_15 0 rfl) ?_
  refine r_bipush C.1 100 (dk_at dk_M_init_15 1 rfl) ?_
  refine r_newJ (c1 := 20) (s1 := 20604) C tc_239 43 100 (by decide) rfl (by decide) (no_sn (by decide) (no_an (by decide) (no_an (by decide) (no_an (by decide) (no_an (by decide) (no_an (by decide) (no_an (by decide) (no_an (by decide) (no_an (by decide) (no_an (by decide) (no_an (by decide) (no_an (by decide) (no_an (by decide) (no_an (by decide) (no_an (by decide) (no_an (by decide) (no_an (by decide) (no_an (by decide) (no_an (by decide) (no_an (by decide) (hno 43 (by decide)))))))))))))))))))))) (hN 43 trivial) ⟨rfl, rfl, Nat.le_of_ble_eq_true rfl, Nat.le_of_ble_eq_true rfl⟩ (dk_at dk_M_init_15 2 rfl) (fun q20 hhq20 C => ?_)
  refine r_nf C hi (by decide) hN (fun _ _ => nR_J) fw_M_82 ⟨rfl, rfl⟩ ha (Nat.le_of_ble_eq_true rfl) (dk_at dk_M_init_15 3 rfl) [.int 0, .int 0, .ref q1, .ref q2, .ref q3, .ref q4, .int 0, .ref q5, .int 0, .int 0, .int 0, .ref q6, .ref q7, .int 0, .int (-1), .ref q8, .ref q9, .ref q10, .int 0, .int 0, .int 0, .int 0, .int 0, .int 0, .int 0, .ref q11, .ref q12, .ref q13, .ref q14, .int (-1), .ref q15, .ref q16, .int 0, .int 0, .int 0, .int 0, .int 0, .int 0, .ref q17, .ref q18, .int 0, .ref q19, .ref q20, .null, .int 0, .int 0, .int 0, .int 0, .int 0, .int 0, .int 0, .int 0, .null, .null, .null, .int 0, .int 0] rfl (fun C hN ha => ?_)
  refine r_aload_n C.1 0 rfl (dk_at dk_M_init_15 4 rfl) ?_
  refine r_bipush C.1 100 (dk_at dk_M_init_15 5 rfl) ?_
  refine r_newJ (c1 := 21) (s1 := 20704) C tc_239 44 100 (by decide) rfl (by decide) (no_sn (by decide) (no_an (by decide) (no_an (by decide) (no_an (by decide) (no_an (by decide) (no_an (by decide) (no_an (by decide) (no_an (by decide) (no_an (by decide) (no_an (by decide) (no_an (by decide) (no_an (by decide) (no_an (by decide) (no_an (by decide) (no_an (by decide) (no_an (by decide) (no_an (by decide) (no_an (by decide) (no_an (by decide) (no_an (by decide) (no_an (by decide) (hno 44 (by decide))))))))))))))))))))))) (hN 44 trivial) ⟨rfl, rfl, Nat.le_of_ble_eq_true rfl, Nat.le_of_ble_eq_true rfl⟩ (dk_at dk_M_init_15 6 rfl) (fun q21 hhq21 C => ?_)
  refine r_nf C hi (by decide) hN (fun _ _ => nR_J) fw_M_86 ⟨rfl, rfl⟩ ha (Nat.le_of_ble_eq_true rfl) (dk_at dk_M_init_15 7 rfl) [.int 0, .int 0, .ref q1, .ref q2, .ref q3, .ref q4, .int 0, .ref q5, .int 0, .int 0, .int 0, .ref q6, .ref q7, .int 0, .int (-1), .ref q8, .ref q9, .ref q10, .int 0, .int 0, .int 0, .int 0, .int 0, .int 0, .int 0, .ref q11, .ref q12, .ref q13, .ref q14, .int (-1), .ref q15, .ref q16, .int 0, .int 0, .int 0, .int 0, .int 0, .int 0, .ref q17, .ref q18, .int 0, .ref q19, .ref q20, .ref q21, .int 0, .int 0, .int 0, .int 0, .int 0, .int 0, .int 0, .int 0, .null, .null, .null, .int 0, .int 0] rfl (fun C hN ha => ?_)
  refine r_aload_n C.1 0 rfl (dk_at dk_M_init_15 8 rfl) ?_
  refine r_iconst C.1 (-1) (dk_at dk_M_init_15 9 rfl) ?_
  refine r_pf C hi hN fw_M_89 ⟨rfl, rfl⟩ ha (Nat.le_of_ble_eq_true rfl) (dk_at dk_M_init_15 10 rfl) [.int 0, .int 0, .ref q1, .ref q2, .ref q3, .ref q4, .int 0, .ref q5, .int 0, .int 0, .int 0, .ref q6, .ref q7, .int 0, .int (-1), .ref q8, .ref q9, .ref q10, .int 0, .int 0, .int 0, .int 0, .int 0, .int 0, .int 0, .ref q11, .ref q12, .ref q13, .ref q14, .int (-1), .ref q15, .ref q16, .int 0, .int 0, .int 0, .int 0, .int 0, .int 0, .ref q17, .ref q18, .int 0, .ref q19, .ref q20, .ref q21, .int (-1), .int 0, .int 0, .int 0, .int 0, .int 0, .int 0, .int 0, .null, .null, .null, .int 0, .int 0] rfl (fun C hN => ?_)
  refine r_aload_n C.1 0 rfl (dk_at dk_M_init_15 11 rfl) ?_
  refine r_iconst C.1 2 (dk_at dk_M_init_15 12 rfl) ?_
  refine r_newJ (c1 := 22) (s1 := 20706) C tc_239 53 2 (by decide) rfl (by decide) (no_sn (by decide) (no_an (by decide) (no_an (by decide) (no_an (by decide) (no_an (by decide) (no_an (by decide) (no_an (by decide) (no_an (by decide) (no_an (by decide) (no_an (by decide) (no_an (by decide) (no_an (by decide) (no_an (by decide) (no_an (by decide) (no_an (by decide) (no_an (by decide) (no_an (by decide) (no_an (by decide) (no_an (by decide) (no_an (by decide) (no_an (by decide) (no_an (by decide) (hno 53 (by decide)))))))))))))))))))))))) (hN 53 trivial) ⟨rfl, rfl, Nat.le_of_ble_eq_true rfl, Nat.le_of_ble_eq_true rfl⟩ (dk_at dk_M_init_15 13 rfl) (fun q22 hhq22 C => ?_)
  refine r_nf C hi (by decide) hN (fun _ _ => nR_J) fw_M_92 ⟨rfl, rfl⟩ ha (Nat.le_of_ble_eq_true rfl) (dk_at dk_M_init_15 14 rfl) [.int 0, .int 0, .ref q1, .ref q2, .ref q3, .ref q4, .int 0, .ref q5, .int 0, .int 0, .int 0, .ref q6, .ref q7, .int 0, .int (-1), .ref q8, .ref q9, .ref q10, .int 0, .int 0, .int 0, .int 0, .int 0, .int 0, .int 0, .ref q11, .ref q12, .ref q13, .ref q14, .int (-1), .ref q15, .ref q16, .int 0, .int 0, .int 0, .int 0, .int 0, .int 0, .ref q17, .ref q18, .int 0, .ref q19, .ref q20, .ref q21, .int (-1), .int 0, .int 0, .int 0, .int 0, .int 0, .int 0, .int 0, .ref q22, .null, .null, .int 0, .int 0] rfl (fun C hN ha => ?_)
  refine r_aload_n C.1 0 rfl (dk_at dk_M_init_15 15 rfl) ?_
  refine r_bipush C.1 8 (dk_at dk_M_init_15 16 rfl) ?_
  refine r_newI (c1 := 23) (s1 := 20714) C tc_152 54 8 (by decide) rfl (by decide) (no_sn (by decide) (no_an (by decide) (no_an (by decide) (no_an (by decide) (no_an (by decide) (no_an (by decide) (no_an (by decide) (no_an (by decide) (no_an (by decide) (no_an (by decide) (no_an (by decide) (no_an (by decide) (no_an (by decide) (no_an (by decide) (no_an (by decide) (no_an (by decide) (no_an (by decide) (no_an (by decide) (no_an (by decide) (no_an (by decide) (no_an (by decide) (no_an (by decide) (no_an (by decide) (hno 54 (by decide))))))))))))))))))))))))) (hN 54 trivial) ⟨rfl, rfl, Nat.le_of_ble_eq_true rfl, Nat.le_of_ble_eq_true rfl⟩ (dk_at dk_M_init_15 17 rfl) (fun q23 hhq23 C => ?_)
  refine r_nf C hi (by decide) hN (fun _ _ => nR_I) fw_M_95 ⟨rfl, rfl⟩ ha (Nat.le_of_ble_eq_true rfl) (dk_at dk_M_init_15 18 rfl) [.int 0, .int 0, .ref q1, .ref q2, .ref q3, .ref q4, .int 0, .ref q5, .int 0, .int 0, .int 0, .ref q6, .ref q7, .int 0, .int (-1), .ref q8, .ref q9, .ref q10, .int 0, .int 0, .int 0, .int 0, .int 0, .int 0, .int 0, .ref q11, .ref q12, .ref q13, .ref q14, .int (-1), .ref q15, .ref q16, .int 0, .int 0, .int 0, .int 0, .int 0, .int 0, .ref q17, .ref q18, .int 0, .ref q19, .ref q20, .ref q21, .int (-1), .int 0, .int 0, .int 0, .int 0, .int 0, .int 0, .int 0, .ref q22, .ref q23, .null, .int 0, .int 0] rfl (fun C hN ha => ?_)
  refine r_aload_n C.1 0 rfl (dk_at dk_M_init_15 19 rfl) ?_
  refine r_bipush C.1 8 (dk_at dk_M_init_15 20 rfl) ?_
  refine r_newI (c1 := 24) (s1 := 20722) C tc_152 55 8 (by decide) rfl (by decide) (no_sn (by decide) (no_an (by decide) (no_an (by decide) (no_an (by decide) (no_an (by decide) (no_an (by decide) (no_an (by decide) (no_an (by decide) (no_an (by decide) (no_an (by decide) (no_an (by decide) (no_an (by decide) (no_an (by decide) (no_an (by decide) (no_an (by decide) (no_an (by decide) (no_an (by decide) (no_an (by decide) (no_an (by decide) (no_an (by decide) (no_an (by decide) (no_an (by decide) (no_an (by decide) (no_an (by decide) (hno 55 (by decide)))))))))))))))))))))))))) (hN 55 trivial) ⟨rfl, rfl, Nat.le_of_ble_eq_true rfl, Nat.le_of_ble_eq_true rfl⟩ (dk_at dk_M_init_15 21 rfl) (fun q24 hhq24 C => ?_)
  refine r_nf C hi (by decide) hN (fun _ _ => nR_I) fw_M_98 ⟨rfl, rfl⟩ ha (Nat.le_of_ble_eq_true rfl) (dk_at dk_M_init_15 22 rfl) [.int 0, .int 0, .ref q1, .ref q2, .ref q3, .ref q4, .int 0, .ref q5, .int 0, .int 0, .int 0, .ref q6, .ref q7, .int 0, .int (-1), .ref q8, .ref q9, .ref q10, .int 0, .int 0, .int 0, .int 0, .int 0, .int 0, .int 0, .ref q11, .ref q12, .ref q13, .ref q14, .int (-1), .ref q15, .ref q16, .int 0, .int 0, .int 0, .int 0, .int 0, .int 0, .ref q17, .ref q18, .int 0, .ref q19, .ref q20, .ref q21, .int (-1), .int 0, .int 0, .int 0, .int 0, .int 0, .int 0, .int 0, .ref q22, .ref q23, .ref q24, .int 0, .int 0] rfl (fun C hN ha => ?_)
  refine r_iconst C.1 0 (dk_at dk_M_init_15 23 rfl) ?_
  refine r_istore_n C.1 [(1, .int 0), (0, .ref a)] rfl rfl (dk_at dk_M_init_15 24 rfl) ?_
  refine r_iload_n C.1 0 rfl (dk_at dk_M_init_15 25 rfl) ?_
  refine r_bipush C.1 7 (dk_at dk_M_init_15 26 rfl) ?_
  refine r_icmp_ge C.1 1006 rfl (dk_at dk_M_init_15 27 rfl) (fun z => absurd z (by decide)) (fun _ => ?_)
  refine r_aload_n C.1 1 rfl (dk_at dk_M_init_15 28 rfl) ?_
  refine r_getS C fw_M_20 ha rfl (dk_at dk_M_init_15 29 rfl) ?_
  refine r_bipush C.1 104 (dk_at dk_M_init_15 30 rfl) ?_
  refine r_iload_n C.1 0 rfl (dk_at dk_M_init_15 31 rfl) ?_
  refine r_iadd C.1 (dk_at dk_M_init_15 32 rfl) ?_
  rw [show (104 : Int32) + 0 = 104 from by decide]
  refine r_bipush C.1 63 (dk_at dk_M_init_15 33 rfl) ?_
  refine r_iastA (n := 6012) C 4 rfl rfl (k := 104) rfl (vp_lit rfl) (dk_at dk_M_init_15 34 rfl) ?_
  replace hN := hN.si 4 104 63
  refine r_iinc C.1 0 rfl (v := 1) rfl [(1, .int 1), (0, .ref a)] rfl rfl (dk_at dk_M_init_15 35 rfl) ?_
  refine r_goto C.1 983 rfl (dk_at dk_M_init_15 36 rfl) ?_
  refine r_iload_n C.1 0 rfl (dk_at dk_M_init_15 25 rfl) ?_
  refine r_bipush C.1 7 (dk_at dk_M_init_15 26 rfl) ?_
  refine r_icmp_ge C.1 1006 rfl (dk_at dk_M_init_15 27 rfl) (fun z => absurd z (by decide)) (fun _ => ?_)
  refine r_aload_n C.1 1 rfl (dk_at dk_M_init_15 28 rfl) ?_
  refine r_getS C fw_M_20 ha rfl (dk_at dk_M_init_15 29 rfl) ?_
  refine r_bipush C.1 104 (dk_at dk_M_init_15 30 rfl) ?_
  refine r_iload_n C.1 0 rfl (dk_at dk_M_init_15 31 rfl) ?_
  refine r_iadd C.1 (dk_at dk_M_init_15 32 rfl) ?_
  rw [show (104 : Int32) + 1 = 105 from by decide]
  refine r_bipush C.1 63 (dk_at dk_M_init_15 33 rfl) ?_
  refine r_iastA (n := 6012) C 4 rfl rfl (k := 105) rfl (vp_lit rfl) (dk_at dk_M_init_15 34 rfl) ?_
  replace hN := hN.si 4 105 63
  refine r_iinc C.1 0 rfl (v := 2) rfl [(1, .int 2), (0, .ref a)] rfl rfl (dk_at dk_M_init_15 35 rfl) ?_
  refine r_goto C.1 983 rfl (dk_at dk_M_init_15 36 rfl) ?_
  refine r_iload_n C.1 0 rfl (dk_at dk_M_init_15 25 rfl) ?_
  refine r_bipush C.1 7 (dk_at dk_M_init_15 26 rfl) ?_
  refine r_icmp_ge C.1 1006 rfl (dk_at dk_M_init_15 27 rfl) (fun z => absurd z (by decide)) (fun _ => ?_)
  refine r_aload_n C.1 1 rfl (dk_at dk_M_init_15 28 rfl) ?_
  refine r_getS C fw_M_20 ha rfl (dk_at dk_M_init_15 29 rfl) ?_
  refine r_bipush C.1 104 (dk_at dk_M_init_15 30 rfl) ?_
  refine r_iload_n C.1 0 rfl (dk_at dk_M_init_15 31 rfl) ?_
  refine r_iadd C.1 (dk_at dk_M_init_15 32 rfl) ?_
  rw [show (104 : Int32) + 2 = 106 from by decide]
  refine r_bipush C.1 63 (dk_at dk_M_init_15 33 rfl) ?_
  refine r_iastA (n := 6012) C 4 rfl rfl (k := 106) rfl (vp_lit rfl) (dk_at dk_M_init_15 34 rfl) ?_
  replace hN := hN.si 4 106 63
  refine r_iinc C.1 0 rfl (v := 3) rfl [(1, .int 3), (0, .ref a)] rfl rfl (dk_at dk_M_init_15 35 rfl) ?_
  refine r_goto C.1 983 rfl (dk_at dk_M_init_15 36 rfl) ?_
  refine r_iload_n C.1 0 rfl (dk_at dk_M_init_15 25 rfl) ?_
  refine r_bipush C.1 7 (dk_at dk_M_init_15 26 rfl) ?_
  refine r_icmp_ge C.1 1006 rfl (dk_at dk_M_init_15 27 rfl) (fun z => absurd z (by decide)) (fun _ => ?_)
  refine r_aload_n C.1 1 rfl (dk_at dk_M_init_15 28 rfl) ?_
  refine r_getS C fw_M_20 ha rfl (dk_at dk_M_init_15 29 rfl) ?_
  refine r_bipush C.1 104 (dk_at dk_M_init_15 30 rfl) ?_
  refine r_iload_n C.1 0 rfl (dk_at dk_M_init_15 31 rfl) ?_
  refine r_iadd C.1 (dk_at dk_M_init_15 32 rfl) ?_
  rw [show (104 : Int32) + 3 = 107 from by decide]
  refine r_bipush C.1 63 (dk_at dk_M_init_15 33 rfl) ?_
  refine r_iastA (n := 6012) C 4 rfl rfl (k := 107) rfl (vp_lit rfl) (dk_at dk_M_init_15 34 rfl) ?_
  replace hN := hN.si 4 107 63
  refine r_iinc C.1 0 rfl (v := 4) rfl [(1, .int 4), (0, .ref a)] rfl rfl (dk_at dk_M_init_15 35 rfl) ?_
  refine r_goto C.1 983 rfl (dk_at dk_M_init_15 36 rfl) ?_
  refine r_iload_n C.1 0 rfl (dk_at dk_M_init_15 25 rfl) ?_
  refine r_bipush C.1 7 (dk_at dk_M_init_15 26 rfl) ?_
  refine r_icmp_ge C.1 1006 rfl (dk_at dk_M_init_15 27 rfl) (fun z => absurd z (by decide)) (fun _ => ?_)
  refine r_aload_n C.1 1 rfl (dk_at dk_M_init_15 28 rfl) ?_
  refine r_getS C fw_M_20 ha rfl (dk_at dk_M_init_15 29 rfl) ?_
  refine r_bipush C.1 104 (dk_at dk_M_init_15 30 rfl) ?_
  refine r_iload_n C.1 0 rfl (dk_at dk_M_init_15 31 rfl) ?_
  refine r_iadd C.1 (dk_at dk_M_init_15 32 rfl) ?_
  rw [show (104 : Int32) + 4 = 108 from by decide]
  refine r_bipush C.1 63 (dk_at dk_M_init_15 33 rfl) ?_
  refine r_iastA (n := 6012) C 4 rfl rfl (k := 108) rfl (vp_lit rfl) (dk_at dk_M_init_15 34 rfl) ?_
  replace hN := hN.si 4 108 63
  refine r_iinc C.1 0 rfl (v := 5) rfl [(1, .int 5), (0, .ref a)] rfl rfl (dk_at dk_M_init_15 35 rfl) ?_
  refine r_goto C.1 983 rfl (dk_at dk_M_init_15 36 rfl) ?_
  refine r_iload_n C.1 0 rfl (dk_at dk_M_init_15 25 rfl) ?_
  refine r_bipush C.1 7 (dk_at dk_M_init_15 26 rfl) ?_
  refine r_icmp_ge C.1 1006 rfl (dk_at dk_M_init_15 27 rfl) (fun z => absurd z (by decide)) (fun _ => ?_)
  refine r_aload_n C.1 1 rfl (dk_at dk_M_init_15 28 rfl) ?_
  refine r_getS C fw_M_20 ha rfl (dk_at dk_M_init_15 29 rfl) ?_
  refine r_bipush C.1 104 (dk_at dk_M_init_15 30 rfl) ?_
  refine r_iload_n C.1 0 rfl (dk_at dk_M_init_15 31 rfl) ?_
  refine r_iadd C.1 (dk_at dk_M_init_15 32 rfl) ?_
  rw [show (104 : Int32) + 5 = 109 from by decide]
  refine r_bipush C.1 63 (dk_at dk_M_init_15 33 rfl) ?_
  refine r_iastA (n := 6012) C 4 rfl rfl (k := 109) rfl (vp_lit rfl) (dk_at dk_M_init_15 34 rfl) ?_
  replace hN := hN.si 4 109 63
  refine r_iinc C.1 0 rfl (v := 6) rfl [(1, .int 6), (0, .ref a)] rfl rfl (dk_at dk_M_init_15 35 rfl) ?_
  refine r_goto C.1 983 rfl (dk_at dk_M_init_15 36 rfl) ?_
  refine r_iload_n C.1 0 rfl (dk_at dk_M_init_15 25 rfl) ?_
  refine r_bipush C.1 7 (dk_at dk_M_init_15 26 rfl) ?_
  refine r_icmp_ge C.1 1006 rfl (dk_at dk_M_init_15 27 rfl) (fun z => absurd z (by decide)) (fun _ => ?_)
  refine r_aload_n C.1 1 rfl (dk_at dk_M_init_15 28 rfl) ?_
  refine r_getS C fw_M_20 ha rfl (dk_at dk_M_init_15 29 rfl) ?_
  refine r_bipush C.1 104 (dk_at dk_M_init_15 30 rfl) ?_
  refine r_iload_n C.1 0 rfl (dk_at dk_M_init_15 31 rfl) ?_
  refine r_iadd C.1 (dk_at dk_M_init_15 32 rfl) ?_
  rw [show (104 : Int32) + 6 = 110 from by decide]
  refine r_bipush C.1 63 (dk_at dk_M_init_15 33 rfl) ?_
  refine r_iastA (n := 6012) C 4 rfl rfl (k := 110) rfl (vp_lit rfl) (dk_at dk_M_init_15 34 rfl) ?_
  replace hN := hN.si 4 110 63
  refine r_iinc C.1 0 rfl (v := 7) rfl [(1, .int 7), (0, .ref a)] rfl rfl (dk_at dk_M_init_15 35 rfl) ?_
  refine r_goto C.1 983 rfl (dk_at dk_M_init_15 36 rfl) ?_
  refine r_iload_n C.1 0 rfl (dk_at dk_M_init_15 25 rfl) ?_
  refine r_bipush C.1 7 (dk_at dk_M_init_15 26 rfl) ?_
  refine r_icmp_ge C.1 1006 rfl (dk_at dk_M_init_15 27 rfl) (fun _ => ?_) (fun z => absurd (by decide) z)
  refine r_aload_n C.1 1 rfl (dk_at dk_M_init_15 37 rfl) ?_
  refine r_getS C fw_M_20 ha rfl (dk_at dk_M_init_15 38 rfl) ?_
  refine r_sipush C.1 396 (dk_at dk_M_init_15 39 rfl) ?_
  refine r_iconst C.1 3 (dk_at dk_M_init_16 0 rfl) ?_
  refine r_iastA (n := 6012) C 4 rfl rfl (k := 396) rfl (vp_lit rfl) (dk_at dk_M_init_16 1 rfl) ?_
  replace hN := hN.si 4 396 3
  refine r_aload_n C.1 1 rfl (dk_at dk_M_init_16 2 rfl) ?_
  refine r_getS C fw_M_20 ha rfl (dk_at dk_M_init_16 3 rfl) ?_
  refine r_sipush C.1 397 (dk_at dk_M_init_16 4 rfl) ?_
  refine r_bipush C.1 20 (dk_at dk_M_init_16 5 rfl) ?_
  refine r_iastA (n := 6012) C 4 rfl rfl (k := 397) rfl (vp_lit rfl) (dk_at dk_M_init_16 6 rfl) ?_
  replace hN := hN.si 4 397 20
  refine r_aload_n C.1 1 rfl (dk_at dk_M_init_16 7 rfl) ?_
  refine r_getS C fw_M_20 ha rfl (dk_at dk_M_init_16 8 rfl) ?_
  refine r_sipush C.1 404 (dk_at dk_M_init_16 9 rfl) ?_
  refine r_iconst C.1 (-1) (dk_at dk_M_init_16 10 rfl) ?_
  refine r_iastA (n := 6012) C 4 rfl rfl (k := 404) rfl (vp_lit rfl) (dk_at dk_M_init_16 11 rfl) ?_
  replace hN := hN.si 4 404 (-1)
  exact r_mvret C rfl hsz ⟨Nat.le_of_ble_eq_true rfl, Nat.le_of_ble_eq_true rfl⟩ ⟨q1, q2, q3, q4, q5, q6, q7, q8, q9, q10, q11, q12, q13, q14, q15, q16, q17, q18, q19, q20, q21, q22, q23, q24, rfl, hN⟩ (dk_at dk_M_init_16 12 rfl)
