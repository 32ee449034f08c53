def K12_goesNearer : List (Nat × am_O) := [(0, o_iload 1 1),
  (1, o_istore 2 2),
  (2, o_push (aI 3) 3),
  (3, o_istore 3 4),
  (4, o_iload 3 5),
  (5, o_if (fun a => a < 0) 51 8),
  (8, o_aload 0 9),
  (9, o_iload 1 10),
  (10, o_iload 3 11),
  (11, o_callv S12_beside 12 2 false 14),
  (14, o_istore 4 16),
  (16, o_iload 4 18),
  (18, o_push (aI (-1)) 19),
  (19, o_ic (fun a b => a = b) 43 22),
  (22, o_aload 0 23),
  (23, o_getf 12 19 26),
  (26, o_iload 4 28),
  (28, o_iald 29),
  (29, o_aload 0 30),
  (30, o_getf 12 19 33),
  (33, o_iload 1 34),
  (34, o_iald 35),
  (35, o_ic (fun a b => b ≤ a) 43 38),
  (38, o_iload 4 40),
  (40, o_goto 44),
  (43, o_iload 2 44),
  (44, o_istore 2 45),
  (45, o_iinc 3 (-1) 48),
  (48, o_goto 4),
  (51, o_aload 0 52),
  (52, o_getf 12 27 55),
  (55, o_iload 2 56),
  (56, o_dup2 57),
  (57, o_lald 58),
  (58, o_aload 0 59),
  (59, o_getf 12 26 62),
  (62, o_iload 1 63),
  (63, o_lald 64),
  (64, o_push (aL 60) 67),
  (67, o_binL (fun a b => w64 (a * b)) 68),
  (68, o_binL (fun a b => w64 (a + b)) 69),
  (69, o_last 70),
  (70, o_vret)]
def S12_goesNearer : am_E := am_S K12_goesNearer 5
theorem hdd_12_goesNearer : yX12_goesNearer.cls ≠ "java/lang/invoke/MethodHandle" ∧ yX12_goesNearer.cls ≠ "java/lang/invoke/VarHandle" ∧ (parseMethodDescriptor yX12_goesNearer.desc).map (fun d => d.parameters.length) = some 1 := by decide +kernel
set_option maxRecDepth 100000 in
theorem snd_12_goesNearer : am_Sound yX12_goesNearer cX12_goesNearer 5 none 2 49 S12_goesNearer :=
  am_sound_of (own := RX12) (by decide) rfl <|
    fm_c (si_iloadn dX12_goesNearer_0 rfl) <|
    fm_c (si_istoren dX12_goesNearer_1 rfl rfl) <|
    fm_c (si_iconst dX12_goesNearer_2 rfl) <|
    fm_c (si_istoren dX12_goesNearer_3 rfl rfl) <|
    fm_c (si_iloadn dX12_goesNearer_4 rfl) <|
    fm_c (si_if_lt dX12_goesNearer_5 rfl) <|
    fm_c (si_aloadn dX12_goesNearer_8 rfl) <|
    fm_c (si_iloadn dX12_goesNearer_9 rfl) <|
    fm_c (si_iloadn dX12_goesNearer_10 rfl) <|
    fm_c (si_callv (C := RX12) (T := TX12) (N := 34) snd_12_beside rfl dX12_goesNearer_11 tw_1194 tw_1196 tw_38 tw_78 tw_1197 hdd_12_beside ⟨rfl, rfl⟩) <|
    fm_c (si_istore dX12_goesNearer_14 rfl) <|
    fm_c (si_iload dX12_goesNearer_16) <|
    fm_c (si_iconst dX12_goesNearer_18 rfl) <|
    fm_c (si_ic_eq dX12_goesNearer_19 rfl) <|
    fm_c (si_aloadn dX12_goesNearer_22 rfl) <|
    fm_c (si_getf (C := RX12) (T := TX12) (N := 34) dX12_goesNearer_23 rfl inC_12 rfl tw_976) <|
    fm_c (si_iload dX12_goesNearer_26) <|
    fm_c (si_iald dX12_goesNearer_28) <|
    fm_c (si_aloadn dX12_goesNearer_29 rfl) <|
    fm_c (si_getf (C := RX12) (T := TX12) (N := 34) dX12_goesNearer_30 rfl inC_12 rfl tw_976) <|
    fm_c (si_iloadn dX12_goesNearer_33 rfl) <|
    fm_c (si_iald dX12_goesNearer_34) <|
    fm_c (si_ic_ge dX12_goesNearer_35 rfl) <|
    fm_c (si_iload dX12_goesNearer_38) <|
    fm_c (si_goto dX12_goesNearer_40 rfl) <|
    fm_c (si_iloadn dX12_goesNearer_43 rfl) <|
    fm_c (si_istoren dX12_goesNearer_44 rfl rfl) <|
    fm_c (si_iinc dX12_goesNearer_45 rfl rfl) <|
    fm_c (si_goto dX12_goesNearer_48 rfl) <|
    fm_c (si_aloadn dX12_goesNearer_51 rfl) <|
    fm_c (si_getf (C := RX12) (T := TX12) (N := 34) dX12_goesNearer_52 rfl inC_12 rfl tw_984) <|
    fm_c (si_iloadn dX12_goesNearer_55 rfl) <|
    fm_c (si_dup2 dX12_goesNearer_56) <|
    fm_c (si_lald dX12_goesNearer_57) <|
    fm_c (si_aloadn dX12_goesNearer_58 rfl) <|
    fm_c (si_getf (C := RX12) (T := TX12) (N := 34) dX12_goesNearer_59 rfl inC_12 rfl tw_983) <|
    fm_c (si_iloadn dX12_goesNearer_62 rfl) <|
    fm_c (si_lald dX12_goesNearer_63) <|
    fm_c (si_ldc2 dX12_goesNearer_64 tw_1315 rfl) <|
    fm_c (si_lmul dX12_goesNearer_67) <|
    fm_c (si_ladd dX12_goesNearer_68) <|
    fm_c (si_last dX12_goesNearer_69) <|
    fm_c (si_vret rfl dX12_goesNearer_70) <|
    fun _ h => absurd h List.not_mem_nil
def K12_findChances : List (Nat × am_O) := [(0, o_aload 0 1),
  (1, o_getf 12 13 4),
  (4, o_push (aI 2) 5),
  (5, o_iald 6),
  (6, o_istore 3 7),
  (7, o_aload 0 8),
  (8, o_aload 0 9),
  (9, o_getf 12 13 12),
  (12, o_push (aI 1) 13),
  (13, o_iald 14),
  (14, o_callv S12_isPlace 12 1 false 17),
  (17, o_if (fun a => a = 0) 34 20),
  (20, o_aload 0 21),
  (21, o_aload 0 22),
  (22, o_getf 12 13 25),
  (25, o_push (aI 1) 26),
  (26, o_iald 27),
  (27, o_push (aI 0) 28),
  (28, o_callv S12_findFar 12 2 true 31),
  (31, o_goto 59),
  (34, o_push (aI 0) 35),
  (35, o_istore 4 37),
  (37, o_iload 4 39),
  (39, o_push (aI 64) 41),
  (41, o_ic (fun a b => b ≤ a) 59 44),
  (44, o_aload 0 45),
  (45, o_getf 12 19 48),
  (48, o_iload 4 50),
  (50, o_push (aI 1000000) 52),
  (52, o_iast 53),
  (53, o_iinc 4 1 56),
  (56, o_goto 37),
  (59, o_push (aI 0) 60),
  (60, o_istore 4 62),
  (62, o_iload 4 64),
  (64, o_push (aI 64) 66),
  (66, o_ic (fun a b => b ≤ a) 93 69),
  (69, o_aload 0 70),
  (70, o_getf 12 26 73),
  (73, o_iload 4 75),
  (75, o_iload 4 77),
  (77, o_iload 1 78),
  (78, o_ic (fun a b => ¬ a = b) 85 81),
  (81, o_push (aL 1) 82),
  (82, o_goto 86),
  (85, o_push (aL 0) 86),
  (86, o_last 87),
  (87, o_iinc 4 1 90),
  (90, o_goto 62),
  (93, o_push (aL 1) 94),
  (94, o_lstore 4 96),
  (96, o_push (aI 0) 97),
  (97, o_istore 6 99),
  (99, o_iload 6 101),
  (101, o_iload 2 102),
  (102, o_ic (fun a b => b ≤ a) 273 105),
  (105, o_push (aI 0) 106),
  (106, o_istore 7 108),
  (108, o_iload 7 110),
  (110, o_push (aI 64) 112),
  (112, o_ic (fun a b => b ≤ a) 129 115),
  (115, o_aload 0 116),
  (116, o_getf 12 27 119),
  (119, o_iload 7 121),
  (121, o_push (aL 0) 122),
  (122, o_last 123),
  (123, o_iinc 7 1 126),
  (126, o_goto 108),
  (129, o_push (aI 0) 130),
  (130, o_istore 7 132),
  (132, o_iload 7 134),
  (134, o_push (aI 64) 136),
  (136, o_ic (fun a b => b ≤ a) 229 139),
  (139, o_aload 0 140),
  (140, o_getf 12 26 143),
  (143, o_iload 7 145),
  (145, o_lald 146),
  (146, o_push (aL 0) 147),
  (147, o_lcmp 148),
  (148, o_if (fun a => a ≤ 0) 179 151),
  (151, o_iload 3 152),
  (152, o_if (fun a => ¬ a = 0) 179 155),
  (155, o_aload 0 156),
  (156, o_getf 12 27 159),
  (159, o_iload 7 161),
  (161, o_dup2 162),
  (162, o_lald 163),
  (163, o_aload 0 164),
  (164, o_getf 12 26 167),
  (167, o_iload 7 169),
  (169, o_lald 170),
  (170, o_push (aL 60) 173),
  (173, o_binL (fun a b => w64 (a * b)) 174),
  (174, o_binL (fun a b => w64 (a + b)) 175),
  (175, o_last 176),
  (176, o_goto 223),
  (179, o_aload 0 180),
  (180, o_getf 12 26 183),
  (183, o_iload 7 185),
  (185, o_lald 186),
  (186, o_push (aL 0) 187),
  (187, o_lcmp 188),
  (188, o_if (fun a => a ≤ 0) 205 191),
  (191, o_iload 3 192),
  (192, o_push (aI 1) 193),
  (193, o_ic (fun a b => ¬ a = b) 205 196),
  (196, o_aload 0 197),
  (197, o_iload 7 199),
  (199, o_callv S12_roams 12 1 true 202),
  (202, o_goto 223),
  (205, o_aload 0 206),
  (206, o_getf 12 26 209),
  (209, o_iload 7 211),
  (211, o_lald 212),
  (212, o_push (aL 0) 213),
  (213, o_lcmp 214),
  (214, o_if (fun a => a ≤ 0) 223 217),
  (217, o_aload 0 218),
  (218, o_iload 7 220),
  (220, o_callv S12_goesNearer 12 1 true 223),
  (223, o_iinc 7 1 226),
  (226, o_goto 132),
  (229, o_push (aI 0) 230),
  (230, o_istore 7 232),
  (232, o_iload 7 234),
  (234, o_push (aI 64) 236),
  (236, o_ic (fun a b => b ≤ a) 259 239),
  (239, o_aload 0 240),
  (240, o_getf 12 26 243),
  (243, o_iload 7 245),
  (245, o_aload 0 246),
  (246, o_getf 12 27 249),
  (249, o_iload 7 251),
  (251, o_lald 252),
  (252, o_last 253),
  (253, o_iinc 7 1 256),
  (256, o_goto 232),
  (259, o_lload 4 261),
  (261, o_push (aL 60) 264),
  (264, o_binL (fun a b => w64 (a * b)) 265),
  (265, o_lstore 4 267),
  (267, o_iinc 6 1 270),
  (270, o_goto 99),
  (273, o_lload 4 275),
  (275, o_lret)]
def S12_findChances : am_E := am_S K12_findChances 8
theorem hdd_12_findChances : yX12_findChances.cls ≠ "java/lang/invoke/MethodHandle" ∧ yX12_findChances.cls ≠ "java/lang/invoke/VarHandle" ∧ (parseMethodDescriptor yX12_findChances.desc).map (fun d => d.parameters.length) = some 2 := by decide +kernel
set_option maxRecDepth 100000 in
theorem snd_12_findChances : am_Sound yX12_findChances cX12_findChances 8 (some .long) 3 76 S12_findChances :=
  am_sound_of (own := RX12) (by decide) rfl <|
    fm_c (si_aloadn dX12_findChances_0 rfl) <|
    fm_c (si_getf (C := RX12) (T := TX12) (N := 34) dX12_findChances_1 rfl inC_12 rfl tw_970) <|
    fm_c (si_iconst dX12_findChances_4 rfl) <|
    fm_c (si_iald dX12_findChances_5) <|
    fm_c (si_istoren dX12_findChances_6 rfl rfl) <|
    fm_c (si_aloadn dX12_findChances_7 rfl) <|
    fm_c (si_aloadn dX12_findChances_8 rfl) <|
    fm_c (si_getf (C := RX12) (T := TX12) (N := 34) dX12_findChances_9 rfl inC_12 rfl tw_970) <|
    fm_c (si_iconst dX12_findChances_12 rfl) <|
    fm_c (si_iald dX12_findChances_13) <|
    fm_c (si_callv (C := RX12) (T := TX12) (N := 34) snd_12_isPlace rfl dX12_findChances_14 tw_1190 tw_1192 tw_37 tw_78 tw_1193 hdd_12_isPlace ⟨rfl, rfl⟩) <|
    fm_c (si_if_eq dX12_findChances_17 rfl) <|
    fm_c (si_aloadn dX12_findChances_20 rfl) <|
    fm_c (si_aloadn dX12_findChances_21 rfl) <|
    fm_c (si_getf (C := RX12) (T := TX12) (N := 34) dX12_findChances_22 rfl inC_12 rfl tw_970) <|
    fm_c (si_iconst dX12_findChances_25 rfl) <|
    fm_c (si_iald dX12_findChances_26) <|
    fm_c (si_iconst dX12_findChances_27 rfl) <|
    fm_c (si_callv (C := RX12) (T := TX12) (N := 34) snd_12_findFar rfl dX12_findChances_28 tw_1215 tw_1217 tw_40 tw_78 tw_1218 hdd_12_findFar ⟨rfl, rfl⟩) <|
    fm_c (si_goto dX12_findChances_31 rfl) <|
    fm_c (si_iconst dX12_findChances_34 rfl) <|
    fm_c (si_istore dX12_findChances_35 rfl) <|
    fm_c (si_iload dX12_findChances_37) <|
    fm_c (si_bipush dX12_findChances_39 rfl) <|
    fm_c (si_ic_ge dX12_findChances_41 rfl) <|
    fm_c (si_aloadn dX12_findChances_44 rfl) <|
    fm_c (si_getf (C := RX12) (T := TX12) (N := 34) dX12_findChances_45 rfl inC_12 rfl tw_976) <|
    fm_c (si_iload dX12_findChances_48) <|
    fm_c (si_ldc dX12_findChances_50 tw_1219 rfl) <|
    fm_c (si_iast dX12_findChances_52) <|
    fm_c (si_iinc dX12_findChances_53 rfl rfl) <|
    fm_c (si_goto dX12_findChances_56 rfl) <|
    fm_c (si_iconst dX12_findChances_59 rfl) <|
    fm_c (si_istore dX12_findChances_60 rfl) <|
    fm_c (si_iload dX12_findChances_62) <|
    fm_c (si_bipush dX12_findChances_64 rfl) <|
    fm_c (si_ic_ge dX12_findChances_66 rfl) <|
    fm_c (si_aloadn dX12_findChances_69 rfl) <|
    fm_c (si_getf (C := RX12) (T := TX12) (N := 34) dX12_findChances_70 rfl inC_12 rfl tw_983) <|
    fm_c (si_iload dX12_findChances_73) <|
    fm_c (si_iload dX12_findChances_75) <|
    fm_c (si_iloadn dX12_findChances_77 rfl) <|
    fm_c (si_ic_ne dX12_findChances_78 rfl) <|
    fm_c (si_lconst1 dX12_findChances_81) <|
    fm_c (si_goto dX12_findChances_82 rfl) <|
    fm_c (si_lconst0 dX12_findChances_85) <|
    fm_c (si_last dX12_findChances_86) <|
    fm_c (si_iinc dX12_findChances_87 rfl rfl) <|
    fm_c (si_goto dX12_findChances_90 rfl) <|
    fm_c (si_lconst1 dX12_findChances_93) <|
    fm_c (si_lstore dX12_findChances_94 rfl) <|
    fm_c (si_iconst dX12_findChances_96 rfl) <|
    fm_c (si_istore dX12_findChances_97 rfl) <|
    fm_c (si_iload dX12_findChances_99) <|
    fm_c (si_iloadn dX12_findChances_101 rfl) <|
    fm_c (si_ic_ge dX12_findChances_102 rfl) <|
    fm_c (si_iconst dX12_findChances_105 rfl) <|
    fm_c (si_istore dX12_findChances_106 rfl) <|
    fm_c (si_iload dX12_findChances_108) <|
    fm_c (si_bipush dX12_findChances_110 rfl) <|
    fm_c (si_ic_ge dX12_findChances_112 rfl) <|
    fm_c (si_aloadn dX12_findChances_115 rfl) <|
    fm_c (si_getf (C := RX12) (T := TX12) (N := 34) dX12_findChances_116 rfl inC_12 rfl tw_984) <|
    fm_c (si_iload dX12_findChances_119) <|
    fm_c (si_lconst0 dX12_findChances_121) <|
    fm_c (si_last dX12_findChances_122) <|
    fm_c (si_iinc dX12_findChances_123 rfl rfl) <|
    fm_c (si_goto dX12_findChances_126 rfl) <|
    fm_c (si_iconst dX12_findChances_129 rfl) <|
    fm_c (si_istore dX12_findChances_130 rfl) <|
    fm_c (si_iload dX12_findChances_132) <|
    fm_c (si_bipush dX12_findChances_134 rfl) <|
    fm_c (si_ic_ge dX12_findChances_136 rfl) <|
    fm_c (si_aloadn dX12_findChances_139 rfl) <|
    fm_c (si_getf (C := RX12) (T := TX12) (N := 34) dX12_findChances_140 rfl inC_12 rfl tw_983) <|
    fm_c (si_iload dX12_findChances_143) <|
    fm_c (si_lald dX12_findChances_145) <|
    fm_c (si_lconst0 dX12_findChances_146) <|
    fm_c (si_lcmp dX12_findChances_147) <|
    fm_c (si_if_le dX12_findChances_148 rfl) <|
    fm_c (si_iloadn dX12_findChances_151 rfl) <|
    fm_c (si_if_ne dX12_findChances_152 rfl) <|
    fm_c (si_aloadn dX12_findChances_155 rfl) <|
    fm_c (si_getf (C := RX12) (T := TX12) (N := 34) dX12_findChances_156 rfl inC_12 rfl tw_984) <|
    fm_c (si_iload dX12_findChances_159) <|
    fm_c (si_dup2 dX12_findChances_161) <|
    fm_c (si_lald dX12_findChances_162) <|
    fm_c (si_aloadn dX12_findChances_163 rfl) <|
    fm_c (si_getf (C := RX12) (T := TX12) (N := 34) dX12_findChances_164 rfl inC_12 rfl tw_983) <|
    fm_c (si_iload dX12_findChances_167) <|
    fm_c (si_lald dX12_findChances_169) <|
    fm_c (si_ldc2 dX12_findChances_170 tw_1315 rfl) <|
    fm_c (si_lmul dX12_findChances_173) <|
    fm_c (si_ladd dX12_findChances_174) <|
    fm_c (si_last dX12_findChances_175) <|
    fm_c (si_goto dX12_findChances_176 rfl) <|
    fm_c (si_aloadn dX12_findChances_179 rfl) <|
    fm_c (si_getf (C := RX12) (T := TX12) (N := 34) dX12_findChances_180 rfl inC_12 rfl tw_983) <|
    fm_c (si_iload dX12_findChances_183) <|
    fm_c (si_lald dX12_findChances_185) <|
    fm_c (si_lconst0 dX12_findChances_186) <|
    fm_c (si_lcmp dX12_findChances_187) <|
    fm_c (si_if_le dX12_findChances_188 rfl) <|
    fm_c (si_iloadn dX12_findChances_191 rfl) <|
    fm_c (si_iconst dX12_findChances_192 rfl) <|
    fm_c (si_ic_ne dX12_findChances_193 rfl) <|
    fm_c (si_aloadn dX12_findChances_196 rfl) <|
    fm_c (si_iload dX12_findChances_197) <|
    fm_c (si_callv (C := RX12) (T := TX12) (N := 34) snd_12_roams rfl dX12_findChances_199 tw_1333 tw_1335 tw_55 tw_78 tw_1336 hdd_12_roams ⟨rfl, rfl⟩) <|
    fm_c (si_goto dX12_findChances_202 rfl) <|
    fm_c (si_aloadn dX12_findChances_205 rfl) <|
    fm_c (si_getf (C := RX12) (T := TX12) (N := 34) dX12_findChances_206 rfl inC_12 rfl tw_983) <|
    fm_c (si_iload dX12_findChances_209) <|
    fm_c (si_lald dX12_findChances_211) <|
    fm_c (si_lconst0 dX12_findChances_212) <|
    fm_c (si_lcmp dX12_findChances_213) <|
    fm_c (si_if_le dX12_findChances_214 rfl) <|
    fm_c (si_aloadn dX12_findChances_217 rfl) <|
    fm_c (si_iload dX12_findChances_218) <|
    fm_c (si_callv (C := RX12) (T := TX12) (N := 34) snd_12_goesNearer rfl dX12_findChances_220 tw_1337 tw_1339 tw_56 tw_78 tw_1340 hdd_12_goesNearer ⟨rfl, rfl⟩) <|
    fm_c (si_iinc dX12_findChances_223 rfl rfl) <|
    fm_c (si_goto dX12_findChances_226 rfl) <|
    fm_c (si_iconst dX12_findChances_229 rfl) <|
    fm_c (si_istore dX12_findChances_230 rfl) <|
    fm_c (si_iload dX12_findChances_232) <|
    fm_c (si_bipush dX12_findChances_234 rfl) <|
    fm_c (si_ic_ge dX12_findChances_236 rfl) <|
    fm_c (si_aloadn dX12_findChances_239 rfl) <|
    fm_c (si_getf (C := RX12) (T := TX12) (N := 34) dX12_findChances_240 rfl inC_12 rfl tw_983) <|
    fm_c (si_iload dX12_findChances_243) <|
    fm_c (si_aloadn dX12_findChances_245 rfl) <|
    fm_c (si_getf (C := RX12) (T := TX12) (N := 34) dX12_findChances_246 rfl inC_12 rfl tw_984) <|
    fm_c (si_iload dX12_findChances_249) <|
    fm_c (si_lald dX12_findChances_251) <|
    fm_c (si_last dX12_findChances_252) <|
    fm_c (si_iinc dX12_findChances_253 rfl rfl) <|
    fm_c (si_goto dX12_findChances_256 rfl) <|
    fm_c (si_lload dX12_findChances_259) <|
    fm_c (si_ldc2 dX12_findChances_261 tw_1315 rfl) <|
    fm_c (si_lmul dX12_findChances_264) <|
    fm_c (si_lstore dX12_findChances_265 rfl) <|
    fm_c (si_iinc dX12_findChances_267 rfl rfl) <|
    fm_c (si_goto dX12_findChances_270 rfl) <|
    fm_c (si_lload dX12_findChances_273) <|
    fm_c (si_lret rfl dX12_findChances_275) <|
    fun _ h => absurd h List.not_mem_nil
def K12_isOf : List (Nat × am_O) := [(0, o_aload 0 1),
  (1, o_iload 1 2),
  (2, o_iload 2 3),
  (3, o_callv S12_findChances 12 2 false 6),
  (6, o_lstore 5 8),
  (8, o_aload 0 9),
  (9, o_getf 12 26 12),
  (12, o_iload 3 13),
  (13, o_lald 14),
  (14, o_lload 5 16),
  (16, o_iload 4 18),
  (18, o_call S12_part 3 false 21),
  (21, o_lret)]
def S12_isOf : am_E := am_S K12_isOf 7
theorem hdd_12_isOf : yX12_isOf.cls ≠ "java/lang/invoke/MethodHandle" ∧ yX12_isOf.cls ≠ "java/lang/invoke/VarHandle" ∧ (parseMethodDescriptor yX12_isOf.desc).map (fun d => d.parameters.length) = some 4 := by decide +kernel
set_option maxRecDepth 100000 in
theorem snd_12_isOf : am_Sound yX12_isOf cX12_isOf 7 (some .long) 4 103 S12_isOf :=
  am_sound_of (own := RX12) (by decide) rfl <|
    fm_c (si_aloadn dX12_isOf_0 rfl) <|
    fm_c (si_iloadn dX12_isOf_1 rfl) <|
    fm_c (si_iloadn dX12_isOf_2 rfl) <|
    fm_c (si_callv (C := RX12) (T := TX12) (N := 34) snd_12_findChances rfl dX12_isOf_3 tw_1329 tw_1331 tw_54 tw_78 tw_1332 hdd_12_findChances ⟨rfl, rfl⟩) <|
    fm_c (si_lstore dX12_isOf_6 rfl) <|
    fm_c (si_aloadn dX12_isOf_8 rfl) <|
    fm_c (si_getf (C := RX12) (T := TX12) (N := 34) dX12_isOf_9 rfl inC_12 rfl tw_983) <|
    fm_c (si_iloadn dX12_isOf_12 rfl) <|
    fm_c (si_lald dX12_isOf_13) <|
    fm_c (si_lload dX12_isOf_14) <|
    fm_c (si_iload dX12_isOf_16) <|
    fm_c (si_call snd_12_part dX12_isOf_18 tw_1279 tw_1280 tw_78 tw_1281 hdd_12_part ⟨rfl, rfl⟩) <|
    fm_c (si_lret rfl dX12_isOf_21) <|
    fun _ h => absurd h List.not_mem_nil
def K12_is : List (Nat × am_O) := [(0, o_aload 0 1),
  (1, o_callv S12_reads 12 0 true 4),
  (4, o_aload 0 5),
  (5, o_iload 1 6),
  (6, o_callv S12_isPlace 12 1 false 9),
  (9, o_if (fun a => a = 0) 52 12),
  (12, o_iload 2 13),
  (13, o_i2l 14),
  (14, o_push (aL 0) 15),
  (15, o_push (aL 5) 18),
  (18, o_call S12_in 3 false 21),
  (21, o_if (fun a => a = 0) 52 24),
  (24, o_aload 0 25),
  (25, o_iload 3 26),
  (26, o_callv S12_isPlace 12 1 false 29),
  (29, o_if (fun a => a = 0) 52 32),
  (32, o_iload 4 34),
  (34, o_call S12_isTwo 1 false 37),
  (37, o_if (fun a => a = 0) 52 40),
  (40, o_aload 0 41),
  (41, o_iload 1 42),
  (42, o_iload 2 43),
  (43, o_iload 3 44),
  (44, o_iload 4 46),
  (46, o_callv S12_isOf 12 4 false 49),
  (49, o_goto 57),
  (52, o_push (aI (-2)) 54),
  (54, o_call S12_no 1 false 57),
  (57, o_lret)]
def S12_is : am_E := am_S K12_is 5
theorem hdd_12_is : yX12_is.cls ≠ "java/lang/invoke/MethodHandle" ∧ yX12_is.cls ≠ "java/lang/invoke/VarHandle" ∧ (parseMethodDescriptor yX12_is.desc).map (fun d => d.parameters.length) = some 4 := by decide +kernel
set_option maxRecDepth 100000 in
theorem snd_12_is : am_Sound yX12_is cX12_is 5 (some .long) 5 129 S12_is :=
  am_sound_of (own := RX12) (by decide) rfl <|
    fm_c (si_aloadn dX12_is_0 rfl) <|
    fm_c (si_callv (C := RX12) (T := TX12) (N := 34) snd_12_reads rfl dX12_is_1 tw_1182 tw_1184 tw_35 tw_78 tw_1185 hdd_12_reads ⟨rfl, rfl⟩) <|
    fm_c (si_aloadn dX12_is_4 rfl) <|
    fm_c (si_iloadn dX12_is_5 rfl) <|
    fm_c (si_callv (C := RX12) (T := TX12) (N := 34) snd_12_isPlace rfl dX12_is_6 tw_1190 tw_1192 tw_37 tw_78 tw_1193 hdd_12_isPlace ⟨rfl, rfl⟩) <|
    fm_c (si_if_eq dX12_is_9 rfl) <|
    fm_c (si_iloadn dX12_is_12 rfl) <|
    fm_c (si_i2l dX12_is_13) <|
    fm_c (si_lconst0 dX12_is_14) <|
    fm_c (si_ldc2 dX12_is_15 tw_1324 rfl) <|
    fm_c (si_call snd_12_in dX12_is_18 tw_1068 tw_1069 tw_78 tw_1070 hdd_12_in ⟨rfl, rfl⟩) <|
    fm_c (si_if_eq dX12_is_21 rfl) <|
    fm_c (si_aloadn dX12_is_24 rfl) <|
    fm_c (si_iloadn dX12_is_25 rfl) <|
    fm_c (si_callv (C := RX12) (T := TX12) (N := 34) snd_12_isPlace rfl dX12_is_26 tw_1190 tw_1192 tw_37 tw_78 tw_1193 hdd_12_isPlace ⟨rfl, rfl⟩) <|
    fm_c (si_if_eq dX12_is_29 rfl) <|
    fm_c (si_iload dX12_is_32) <|
    fm_c (si_call snd_12_isTwo dX12_is_34 tw_1170 tw_1171 tw_78 tw_1172 hdd_12_isTwo ⟨rfl, rfl⟩) <|
    fm_c (si_if_eq dX12_is_37 rfl) <|
    fm_c (si_aloadn dX12_is_40 rfl) <|
    fm_c (si_iloadn dX12_is_41 rfl) <|
    fm_c (si_iloadn dX12_is_42 rfl) <|
    fm_c (si_iloadn dX12_is_43 rfl) <|
    fm_c (si_iload dX12_is_44) <|
    fm_c (si_callv (C := RX12) (T := TX12) (N := 34) snd_12_isOf rfl dX12_is_46 tw_1325 tw_1327 tw_53 tw_78 tw_1328 hdd_12_isOf ⟨rfl, rfl⟩) <|
    fm_c (si_goto dX12_is_49 rfl) <|
    fm_c (si_bipush dX12_is_52 rfl) <|
    fm_c (si_call snd_12_no dX12_is_54 tw_1282 tw_1283 tw_78 tw_1284 hdd_12_no ⟨rfl, rfl⟩) <|
    fm_c (si_lret rfl dX12_is_57) <|
    fun _ h => absurd h List.not_mem_nil
def K12_likeliestOf : List (Nat × am_O) := [(0, o_aload 0 1),
  (1, o_iload 1 2),
  (2, o_iload 2 3),
  (3, o_callv S12_findChances 12 2 false 6),
  (6, o_pop2 7),
  (7, o_push (aI 0) 8),
  (8, o_istore 3 9),
  (9, o_push (aI 1) 10),
  (10, o_istore 4 12),
  (12, o_iload 4 14),
  (14, o_push (aI 64) 16),
  (16, o_ic (fun a b => b ≤ a) 49 19),
  (19, o_aload 0 20),
  (20, o_getf 12 26 23),
  (23, o_iload 4 25),
  (25, o_lald 26),
  (26, o_aload 0 27),
  (27, o_getf 12 26 30),
  (30, o_iload 3 31),
  (31, o_lald 32),
  (32, o_lcmp 33),
  (33, o_if (fun a => a ≤ 0) 41 36),
  (36, o_iload 4 38),
  (38, o_goto 42),
  (41, o_iload 3 42),
  (42, o_istore 3 43),
  (43, o_iinc 4 1 46),
  (46, o_goto 12),
  (49, o_iload 3 50),
  (50, o_iret)]
def S12_likeliestOf : am_E := am_S K12_likeliestOf 5
theorem hdd_12_likeliestOf : yX12_likeliestOf.cls ≠ "java/lang/invoke/MethodHandle" ∧ yX12_likeliestOf.cls ≠ "java/lang/invoke/VarHandle" ∧ (parseMethodDescriptor yX12_likeliestOf.desc).map (fun d => d.parameters.length) = some 2 := by decide +kernel
set_option maxRecDepth 100000 in
theorem snd_12_likeliestOf : am_Sound yX12_likeliestOf cX12_likeliestOf 5 (some .int) 4 103 S12_likeliestOf :=
  am_sound_of (own := RX12) (by decide) rfl <|
    fm_c (si_aloadn dX12_likeliestOf_0 rfl) <|
    fm_c (si_iloadn dX12_likeliestOf_1 rfl) <|
    fm_c (si_iloadn dX12_likeliestOf_2 rfl) <|
    fm_c (si_callv (C := RX12) (T := TX12) (N := 34) snd_12_findChances rfl dX12_likeliestOf_3 tw_1329 tw_1331 tw_54 tw_78 tw_1332 hdd_12_findChances ⟨rfl, rfl⟩) <|
    fm_c (si_pop2 dX12_likeliestOf_6) <|
    fm_c (si_iconst dX12_likeliestOf_7 rfl) <|
    fm_c (si_istoren dX12_likeliestOf_8 rfl rfl) <|
    fm_c (si_iconst dX12_likeliestOf_9 rfl) <|
    fm_c (si_istore dX12_likeliestOf_10 rfl) <|
    fm_c (si_iload dX12_likeliestOf_12) <|
    fm_c (si_bipush dX12_likeliestOf_14 rfl) <|
    fm_c (si_ic_ge dX12_likeliestOf_16 rfl) <|
    fm_c (si_aloadn dX12_likeliestOf_19 rfl) <|
    fm_c (si_getf (C := RX12) (T := TX12) (N := 34) dX12_likeliestOf_20 rfl inC_12 rfl tw_983) <|
    fm_c (si_iload dX12_likeliestOf_23) <|
    fm_c (si_lald dX12_likeliestOf_25) <|
    fm_c (si_aloadn dX12_likeliestOf_26 rfl) <|
    fm_c (si_getf (C := RX12) (T := TX12) (N := 34) dX12_likeliestOf_27 rfl inC_12 rfl tw_983) <|
    fm_c (si_iloadn dX12_likeliestOf_30 rfl) <|
    fm_c (si_lald dX12_likeliestOf_31) <|
    fm_c (si_lcmp dX12_likeliestOf_32) <|
    fm_c (si_if_le dX12_likeliestOf_33 rfl) <|
    fm_c (si_iload dX12_likeliestOf_36) <|
    fm_c (si_goto dX12_likeliestOf_38 rfl) <|
    fm_c (si_iloadn dX12_likeliestOf_41 rfl) <|
    fm_c (si_istoren dX12_likeliestOf_42 rfl rfl) <|
    fm_c (si_iinc dX12_likeliestOf_43 rfl rfl) <|
    fm_c (si_goto dX12_likeliestOf_46 rfl) <|
    fm_c (si_iloadn dX12_likeliestOf_49 rfl) <|
    fm_c (si_iret rfl dX12_likeliestOf_50) <|
    fun _ h => absurd h List.not_mem_nil
def K12_likeliest : List (Nat × am_O) := [(0, o_aload 0 1),
  (1, o_callv S12_reads 12 0 true 4),
  (4, o_aload 0 5),
  (5, o_iload 1 6),
  (6, o_callv S12_isPlace 12 1 false 9),
  (9, o_if (fun a => a = 0) 33 12),
  (12, o_iload 2 13),
  (13, o_i2l 14),
  (14, o_push (aL 0) 15),
  (15, o_push (aL 5) 18),
  (18, o_call S12_in 3 false 21),
  (21, o_if (fun a => a = 0) 33 24),
  (24, o_aload 0 25),
  (25, o_iload 1 26),
  (26, o_iload 2 27),
  (27, o_callv S12_likeliestOf 12 2 false 30),
  (30, o_goto 35),
  (33, o_push (aI (-2)) 35),
  (35, o_iret)]
def S12_likeliest : am_E := am_S K12_likeliest 3
theorem hdd_12_likeliest : yX12_likeliest.cls ≠ "java/lang/invoke/MethodHandle" ∧ yX12_likeliest.cls ≠ "java/lang/invoke/VarHandle" ∧ (parseMethodDescriptor yX12_likeliest.desc).map (fun d => d.parameters.length) = some 2 := by decide +kernel
set_option maxRecDepth 100000 in
theorem snd_12_likeliest : am_Sound yX12_likeliest cX12_likeliest 3 (some .int) 5 127 S12_likeliest :=
  am_sound_of (own := RX12) (by decide) rfl <|
    fm_c (si_aloadn dX12_likeliest_0 rfl) <|
    fm_c (si_callv (C := RX12) (T := TX12) (N := 34) snd_12_reads rfl dX12_likeliest_1 tw_1182 tw_1184 tw_35 tw_78 tw_1185 hdd_12_reads ⟨rfl, rfl⟩) <|
    fm_c (si_aloadn dX12_likeliest_4 rfl) <|
    fm_c (si_iloadn dX12_likeliest_5 rfl) <|
    fm_c (si_callv (C := RX12) (T := TX12) (N := 34) snd_12_isPlace rfl dX12_likeliest_6 tw_1190 tw_1192 tw_37 tw_78 tw_1193 hdd_12_isPlace ⟨rfl, rfl⟩) <|
    fm_c (si_if_eq dX12_likeliest_9 rfl) <|
    fm_c (si_iloadn dX12_likeliest_12 rfl) <|
    fm_c (si_i2l dX12_likeliest_13) <|
    fm_c (si_lconst0 dX12_likeliest_14) <|
    fm_c (si_ldc2 dX12_likeliest_15 tw_1324 rfl) <|
    fm_c (si_call snd_12_in dX12_likeliest_18 tw_1068 tw_1069 tw_78 tw_1070 hdd_12_in ⟨rfl, rfl⟩) <|
    fm_c (si_if_eq dX12_likeliest_21 rfl) <|
    fm_c (si_aloadn dX12_likeliest_24 rfl) <|
    fm_c (si_iloadn dX12_likeliest_25 rfl) <|
    fm_c (si_iloadn dX12_likeliest_26 rfl) <|
    fm_c (si_callv (C := RX12) (T := TX12) (N := 34) snd_12_likeliestOf rfl dX12_likeliest_27 tw_1345 tw_1347 tw_57 tw_78 tw_1348 hdd_12_likeliestOf ⟨rfl, rfl⟩) <|
    fm_c (si_goto dX12_likeliest_30 rfl) <|
    fm_c (si_bipush dX12_likeliest_33 rfl) <|
    fm_c (si_iret rfl dX12_likeliest_35) <|
    fun _ h => absurd h List.not_mem_nil
def K12_partedOf : List (Nat × am_O) := [(0, o_aload 0 1),
  (1, o_iload 2 2),
  (2, o_callv S12_findWays 12 1 false 5),
  (5, o_if (fun a => a = 0) 16 8),
  (8, o_aload 0 9),
  (9, o_iload 1 10),
  (10, o_callv S12_findWays 12 1 false 13),
  (13, o_if (fun a => ¬ a = 0) 22 16),
  (16, o_push (aI (-3)) 18),
  (18, o_call S12_no 1 false 21),
  (21, o_lret),
  (22, o_push (aI 1) 23),
  (23, o_aload 0 24),
  (24, o_getf 12 28 27),
  (27, o_sh am_shl 28),
  (28, o_push (aI 1) 29),
  (29, o_bin (fun a b => w32 (a - b)) 30),
  (30, o_istore 4 32),
  (32, o_push (aI 0) 33),
  (33, o_istore 5 35),
  (35, o_iload 5 37),
  (37, o_iload 4 39),
  (39, o_ic (fun a b => b < a) 61 42),
  (42, o_aload 0 43),
  (43, o_getf 12 33 46),
  (46, o_iload 5 48),
  (48, o_aload 0 49),
  (49, o_iload 5 51),
  (51, o_callv S12_findBest 12 1 false 54),
  (54, o_iast 55),
  (55, o_iinc 5 1 58),
  (58, o_goto 35),
  (61, o_aload 0 62),
  (62, o_iload 2 63),
  (63, o_callv S12_findWays 12 1 false 66),
  (66, o_pop 67),
  (67, o_push (aI (-1)) 68),
  (68, o_istore 5 70),
  (70, o_push (aI 0) 71),
  (71, o_istore 6 73),
  (73, o_push (aI 0) 74),
  (74, o_istore 7 76),
  (76, o_iload 7 78),
  (78, o_iload 4 80),
  (80, o_ic (fun a b => b < a) 131 83),
  (83, o_aload 0 84),
  (84, o_getf 12 33 87),
  (87, o_iload 7 89),
  (89, o_iald 90),
  (90, o_aload 0 91),
  (91, o_iload 4 93),
  (93, o_iload 7 95),
  (95, o_push (aI (-1)) 96),
  (96, o_bin am_xor 97),
  (97, o_bin am_and 98),
  (98, o_callv S12_findBest 12 1 false 101),
  (101, o_bin (fun a b => w32 (a + b)) 102),
  (102, o_istore 8 104),
  (104, o_iload 5 106),
  (106, o_push (aI (-1)) 107),
  (107, o_ic (fun a b => a = b) 117 110),
  (110, o_iload 8 112),
  (112, o_iload 6 114),
  (114, o_ic (fun a b => b ≤ a) 125 117),
  (117, o_iload 7 119),
  (119, o_istore 5 121),
  (121, o_iload 8 123),
  (123, o_istore 6 125),
  (125, o_iinc 7 1 128),
  (128, o_goto 76),
  (131, o_iload 3 132),
  (132, o_push (aI 2) 133),
  (133, o_ic (fun a b => ¬ a = b) 142 136),
  (136, o_iload 5 138),
  (138, o_i2l 139),
  (139, o_goto 154),
  (142, o_iload 6 144),
  (144, o_i2l 145),
  (145, o_aload 0 146),
  (146, o_callv S12_weights 12 0 false 149),
  (149, o_i2l 150),
  (150, o_iload 3 151),
  (151, o_call S12_part 3 false 154),
  (154, o_lret)]
def S12_partedOf : am_E := am_S K12_partedOf 9
theorem hdd_12_partedOf : yX12_partedOf.cls ≠ "java/lang/invoke/MethodHandle" ∧ yX12_partedOf.cls ≠ "java/lang/invoke/VarHandle" ∧ (parseMethodDescriptor yX12_partedOf.desc).map (fun d => d.parameters.length) = some 3 := by decide +kernel
set_option maxRecDepth 100000 in
theorem snd_12_partedOf : am_Sound yX12_partedOf cX12_partedOf 9 (some .long) 4 100 S12_partedOf :=
  am_sound_of (own := RX12) (by decide) rfl <|
    fm_c (si_aloadn dX12_partedOf_0 rfl) <|
    fm_c (si_iloadn dX12_partedOf_1 rfl) <|
    fm_c (si_callv (C := RX12) (T := TX12) (N := 34) snd_12_findWays rfl dX12_partedOf_2 tw_1367 tw_1369 tw_59 tw_78 tw_1370 hdd_12_findWays ⟨rfl, rfl⟩) <|
    fm_c (si_if_eq dX12_partedOf_5 rfl) <|
    fm_c (si_aloadn dX12_partedOf_8 rfl) <|
    fm_c (si_iloadn dX12_partedOf_9 rfl) <|
    fm_c (si_callv (C := RX12) (T := TX12) (N := 34) snd_12_findWays rfl dX12_partedOf_10 tw_1367 tw_1369 tw_59 tw_78 tw_1370 hdd_12_findWays ⟨rfl, rfl⟩) <|
    fm_c (si_if_ne dX12_partedOf_13 rfl) <|
    fm_c (si_bipush dX12_partedOf_16 rfl) <|
    fm_c (si_call snd_12_no dX12_partedOf_18 tw_1282 tw_1283 tw_78 tw_1284 hdd_12_no ⟨rfl, rfl⟩) <|
    fm_c (si_lret rfl dX12_partedOf_21) <|
    fm_c (si_iconst dX12_partedOf_22 rfl) <|
    fm_c (si_aloadn dX12_partedOf_23 rfl) <|
    fm_c (si_getf (C := RX12) (T := TX12) (N := 34) dX12_partedOf_24 rfl inC_12 rfl tw_985) <|
    fm_c (si_ishl dX12_partedOf_27) <|
    fm_c (si_iconst dX12_partedOf_28 rfl) <|
    fm_c (si_isub dX12_partedOf_29) <|
    fm_c (si_istore dX12_partedOf_30 rfl) <|
    fm_c (si_iconst dX12_partedOf_32 rfl) <|
    fm_c (si_istore dX12_partedOf_33 rfl) <|
    fm_c (si_iload dX12_partedOf_35) <|
    fm_c (si_iload dX12_partedOf_37) <|
    fm_c (si_ic_gt dX12_partedOf_39 rfl) <|
    fm_c (si_aloadn dX12_partedOf_42 rfl) <|
    fm_c (si_getf (C := RX12) (T := TX12) (N := 34) dX12_partedOf_43 rfl inC_12 rfl tw_990) <|
    fm_c (si_iload dX12_partedOf_46) <|
    fm_c (si_aloadn dX12_partedOf_48 rfl) <|
    fm_c (si_iload dX12_partedOf_49) <|
    fm_c (si_callv (C := RX12) (T := TX12) (N := 34) snd_12_findBest rfl dX12_partedOf_51 tw_1371 tw_1373 tw_60 tw_78 tw_1374 hdd_12_findBest ⟨rfl, rfl⟩) <|
    fm_c (si_iast dX12_partedOf_54) <|
    fm_c (si_iinc dX12_partedOf_55 rfl rfl) <|
    fm_c (si_goto dX12_partedOf_58 rfl) <|
    fm_c (si_aloadn dX12_partedOf_61 rfl) <|
    fm_c (si_iloadn dX12_partedOf_62 rfl) <|
    fm_c (si_callv (C := RX12) (T := TX12) (N := 34) snd_12_findWays rfl dX12_partedOf_63 tw_1367 tw_1369 tw_59 tw_78 tw_1370 hdd_12_findWays ⟨rfl, rfl⟩) <|
    fm_c (si_pop dX12_partedOf_66) <|
    fm_c (si_iconst dX12_partedOf_67 rfl) <|
    fm_c (si_istore dX12_partedOf_68 rfl) <|
    fm_c (si_iconst dX12_partedOf_70 rfl) <|
    fm_c (si_istore dX12_partedOf_71 rfl) <|
    fm_c (si_iconst dX12_partedOf_73 rfl) <|
    fm_c (si_istore dX12_partedOf_74 rfl) <|
    fm_c (si_iload dX12_partedOf_76) <|
    fm_c (si_iload dX12_partedOf_78) <|
    fm_c (si_ic_gt dX12_partedOf_80 rfl) <|
    fm_c (si_aloadn dX12_partedOf_83 rfl) <|
    fm_c (si_getf (C := RX12) (T := TX12) (N := 34) dX12_partedOf_84 rfl inC_12 rfl tw_990) <|
    fm_c (si_iload dX12_partedOf_87) <|
    fm_c (si_iald dX12_partedOf_89) <|
    fm_c (si_aloadn dX12_partedOf_90 rfl) <|
    fm_c (si_iload dX12_partedOf_91) <|
    fm_c (si_iload dX12_partedOf_93) <|
    fm_c (si_iconst dX12_partedOf_95 rfl) <|
    fm_c (si_ixor dX12_partedOf_96) <|
    fm_c (si_iand dX12_partedOf_97) <|
    fm_c (si_callv (C := RX12) (T := TX12) (N := 34) snd_12_findBest rfl dX12_partedOf_98 tw_1371 tw_1373 tw_60 tw_78 tw_1374 hdd_12_findBest ⟨rfl, rfl⟩) <|
    fm_c (si_iadd dX12_partedOf_101) <|
    fm_c (si_istore dX12_partedOf_102 rfl) <|
    fm_c (si_iload dX12_partedOf_104) <|
    fm_c (si_iconst dX12_partedOf_106 rfl) <|
    fm_c (si_ic_eq dX12_partedOf_107 rfl) <|
    fm_c (si_iload dX12_partedOf_110) <|
    fm_c (si_iload dX12_partedOf_112) <|
    fm_c (si_ic_ge dX12_partedOf_114 rfl) <|
    fm_c (si_iload dX12_partedOf_117) <|
    fm_c (si_istore dX12_partedOf_119 rfl) <|
    fm_c (si_iload dX12_partedOf_121) <|
    fm_c (si_istore dX12_partedOf_123 rfl) <|
    fm_c (si_iinc dX12_partedOf_125 rfl rfl) <|
    fm_c (si_goto dX12_partedOf_128 rfl) <|
    fm_c (si_iloadn dX12_partedOf_131 rfl) <|
    fm_c (si_iconst dX12_partedOf_132 rfl) <|
    fm_c (si_ic_ne dX12_partedOf_133 rfl) <|
    fm_c (si_iload dX12_partedOf_136) <|
    fm_c (si_i2l dX12_partedOf_138) <|
    fm_c (si_goto dX12_partedOf_139 rfl) <|
    fm_c (si_iload dX12_partedOf_142) <|
    fm_c (si_i2l dX12_partedOf_144) <|
    fm_c (si_aloadn dX12_partedOf_145 rfl) <|
    fm_c (si_callv (C := RX12) (T := TX12) (N := 34) snd_12_weights rfl dX12_partedOf_146 tw_1375 tw_1377 tw_61 tw_78 tw_1378 hdd_12_weights ⟨rfl, rfl⟩) <|
    fm_c (si_i2l dX12_partedOf_149) <|
    fm_c (si_iloadn dX12_partedOf_150 rfl) <|
    fm_c (si_call snd_12_part dX12_partedOf_151 tw_1279 tw_1280 tw_78 tw_1281 hdd_12_part ⟨rfl, rfl⟩) <|
    fm_c (si_lret rfl dX12_partedOf_154) <|
    fun _ h => absurd h List.not_mem_nil
def K12_meetOf : List (Nat × am_O) := [(0, o_push (aI (-1)) 1),
  (1, o_istore 3 2),
  (2, o_push (aI 1000000) 4),
  (4, o_istore 4 6),
  (6, o_push (aI 0) 7),
  (7, o_istore 5 9),
  (9, o_iload 5 11),
  (11, o_push (aI 64) 13),
  (13, o_ic (fun a b => b ≤ a) 151 16),
  (16, o_aload 0 17),
  (17, o_getf 12 8 20),
  (20, o_iload 5 22),
  (22, o_iald 23),
  (23, o_push (aI 99) 25),
  (25, o_ic (fun a b => a = b) 145 28),
  (28, o_aload 0 29),
  (29, o_iload 5 31),
  (31, o_push (aI 0) 32),
  (32, o_callv S12_findFar 12 2 true 35),
  (35, o_push (aI 0) 36),
  (36, o_istore 6 38),
  (38, o_push (aI 0) 39),
  (39, o_istore 7 41),
  (41, o_iload 7 43),
  (43, o_push (aI 5) 44),
  (44, o_ic (fun a b => b ≤ a) 115 47),
  (47, o_iload 1 48),
  (48, o_iload 7 50),
  (50, o_call S12_isIn 2 false 53),
  (53, o_if (fun a => ¬ a = 0) 60 56),
  (56, o_push (aI 0) 57),
  (57, o_goto 91),
  (60, o_aload 0 61),
  (61, o_aload 0 62),
  (62, o_getf 12 16 65),
  (65, o_iload 7 67),
  (67, o_iald 68),
  (68, o_callv S12_isPlace 12 1 false 71),
  (71, o_if (fun a => a = 0) 89 74),
  (74, o_aload 0 75),
  (75, o_getf 12 19 78),
  (78, o_aload 0 79),
  (79, o_getf 12 16 82),
  (82, o_iload 7 84),
  (84, o_iald 85),
  (85, o_iald 86),
  (86, o_goto 91),
  (89, o_push (aI 1000000) 91),
  (91, o_istore 8 93),
  (93, o_iload 8 95),
  (95, o_iload 6 97),
  (97, o_ic (fun a b => a ≤ b) 105 100),
  (100, o_iload 8 102),
  (102, o_goto 107),
  (105, o_iload 6 107),
  (107, o_istore 6 109),
  (109, o_iinc 7 1 112),
  (112, o_goto 41),
  (115, o_iload 6 117),
  (117, o_iload 4 119),
  (119, o_ic (fun a b => b ≤ a) 127 122),
  (122, o_iload 5 124),
  (124, o_goto 128),
  (127, o_iload 3 128),
  (128, o_istore 3 129),
  (129, o_iload 6 131),
  (131, o_iload 4 133),
  (133, o_ic (fun a b => b ≤ a) 141 136),
  (136, o_iload 6 138),
  (138, o_goto 143),
  (141, o_iload 4 143),
  (143, o_istore 4 145),
  (145, o_iinc 5 1 148),
  (148, o_goto 9),
  (151, o_iload 2 152),
  (152, o_if (fun a => a = 0) 160 155),
  (155, o_iload 3 156),
  (156, o_push (aI (-1)) 157),
  (157, o_ic (fun a b => ¬ a = b) 164 160),
  (160, o_iload 3 161),
  (161, o_goto 166),
  (164, o_iload 4 166),
  (166, o_iret)]
def S12_meetOf : am_E := am_S K12_meetOf 9
theorem hdd_12_meetOf : yX12_meetOf.cls ≠ "java/lang/invoke/MethodHandle" ∧ yX12_meetOf.cls ≠ "java/lang/invoke/VarHandle" ∧ (parseMethodDescriptor yX12_meetOf.desc).map (fun d => d.parameters.length) = some 2 := by decide +kernel
set_option maxRecDepth 100000 in
theorem snd_12_meetOf : am_Sound yX12_meetOf cX12_meetOf 9 (some .int) 3 76 S12_meetOf :=
  am_sound_of (own := RX12) (by decide) rfl <|
    fm_c (si_iconst dX12_meetOf_0 rfl) <|
    fm_c (si_istoren dX12_meetOf_1 rfl rfl) <|
    fm_c (si_ldc dX12_meetOf_2 tw_1219 rfl) <|
    fm_c (si_istore dX12_meetOf_4 rfl) <|
    fm_c (si_iconst dX12_meetOf_6 rfl) <|
    fm_c (si_istore dX12_meetOf_7 rfl) <|
    fm_c (si_iload dX12_meetOf_9) <|
    fm_c (si_bipush dX12_meetOf_11 rfl) <|
    fm_c (si_ic_ge dX12_meetOf_13 rfl) <|
    fm_c (si_aloadn dX12_meetOf_16 rfl) <|
    fm_c (si_getf (C := RX12) (T := TX12) (N := 34) dX12_meetOf_17 rfl inC_12 rfl tw_965) <|
    fm_c (si_iload dX12_meetOf_20) <|
    fm_c (si_iald dX12_meetOf_22) <|
    fm_c (si_bipush dX12_meetOf_23 rfl) <|
    fm_c (si_ic_eq dX12_meetOf_25 rfl) <|
    fm_c (si_aloadn dX12_meetOf_28 rfl) <|
    fm_c (si_iload dX12_meetOf_29) <|
    fm_c (si_iconst dX12_meetOf_31 rfl) <|
    fm_c (si_callv (C := RX12) (T := TX12) (N := 34) snd_12_findFar rfl dX12_meetOf_32 tw_1215 tw_1217 tw_40 tw_78 tw_1218 hdd_12_findFar ⟨rfl, rfl⟩) <|
    fm_c (si_iconst dX12_meetOf_35 rfl) <|
    fm_c (si_istore dX12_meetOf_36 rfl) <|
    fm_c (si_iconst dX12_meetOf_38 rfl) <|
    fm_c (si_istore dX12_meetOf_39 rfl) <|
    fm_c (si_iload dX12_meetOf_41) <|
    fm_c (si_iconst dX12_meetOf_43 rfl) <|
    fm_c (si_ic_ge dX12_meetOf_44 rfl) <|
    fm_c (si_iloadn dX12_meetOf_47 rfl) <|
    fm_c (si_iload dX12_meetOf_48) <|
    fm_c (si_call snd_12_isIn dX12_meetOf_50 tw_1143 tw_1144 tw_78 tw_1145 hdd_12_isIn ⟨rfl, rfl⟩) <|
    fm_c (si_if_ne dX12_meetOf_53 rfl) <|
    fm_c (si_iconst dX12_meetOf_56 rfl) <|
    fm_c (si_goto dX12_meetOf_57 rfl) <|
    fm_c (si_aloadn dX12_meetOf_60 rfl) <|
    fm_c (si_aloadn dX12_meetOf_61 rfl) <|
    fm_c (si_getf (C := RX12) (T := TX12) (N := 34) dX12_meetOf_62 rfl inC_12 rfl tw_973) <|
    fm_c (si_iload dX12_meetOf_65) <|
    fm_c (si_iald dX12_meetOf_67) <|
    fm_c (si_callv (C := RX12) (T := TX12) (N := 34) snd_12_isPlace rfl dX12_meetOf_68 tw_1190 tw_1192 tw_37 tw_78 tw_1193 hdd_12_isPlace ⟨rfl, rfl⟩) <|
    fm_c (si_if_eq dX12_meetOf_71 rfl) <|
    fm_c (si_aloadn dX12_meetOf_74 rfl) <|
    fm_c (si_getf (C := RX12) (T := TX12) (N := 34) dX12_meetOf_75 rfl inC_12 rfl tw_976) <|
    fm_c (si_aloadn dX12_meetOf_78 rfl) <|
    fm_c (si_getf (C := RX12) (T := TX12) (N := 34) dX12_meetOf_79 rfl inC_12 rfl tw_973) <|
    fm_c (si_iload dX12_meetOf_82) <|
    fm_c (si_iald dX12_meetOf_84) <|
    fm_c (si_iald dX12_meetOf_85) <|
    fm_c (si_goto dX12_meetOf_86 rfl) <|
    fm_c (si_ldc dX12_meetOf_89 tw_1219 rfl) <|
    fm_c (si_istore dX12_meetOf_91 rfl) <|
    fm_c (si_iload dX12_meetOf_93) <|
    fm_c (si_iload dX12_meetOf_95) <|
    fm_c (si_ic_le dX12_meetOf_97 rfl) <|
    fm_c (si_iload dX12_meetOf_100) <|
    fm_c (si_goto dX12_meetOf_102 rfl) <|
    fm_c (si_iload dX12_meetOf_105) <|
    fm_c (si_istore dX12_meetOf_107 rfl) <|
    fm_c (si_iinc dX12_meetOf_109 rfl rfl) <|
    fm_c (si_goto dX12_meetOf_112 rfl) <|
    fm_c (si_iload dX12_meetOf_115) <|
    fm_c (si_iload dX12_meetOf_117) <|
    fm_c (si_ic_ge dX12_meetOf_119 rfl) <|
    fm_c (si_iload dX12_meetOf_122) <|
    fm_c (si_goto dX12_meetOf_124 rfl) <|
    fm_c (si_iloadn dX12_meetOf_127 rfl) <|
    fm_c (si_istoren dX12_meetOf_128 rfl rfl) <|
    fm_c (si_iload dX12_meetOf_129) <|
    fm_c (si_iload dX12_meetOf_131) <|
    fm_c (si_ic_ge dX12_meetOf_133 rfl) <|
    fm_c (si_iload dX12_meetOf_136) <|
    fm_c (si_goto dX12_meetOf_138 rfl) <|
    fm_c (si_iload dX12_meetOf_141) <|
    fm_c (si_istore dX12_meetOf_143 rfl) <|
    fm_c (si_iinc dX12_meetOf_145 rfl rfl) <|
    fm_c (si_goto dX12_meetOf_148 rfl) <|
    fm_c (si_iloadn dX12_meetOf_151 rfl) <|
    fm_c (si_if_eq dX12_meetOf_152 rfl) <|
    fm_c (si_iloadn dX12_meetOf_155 rfl) <|
    fm_c (si_iconst dX12_meetOf_156 rfl) <|
    fm_c (si_ic_ne dX12_meetOf_157 rfl) <|
    fm_c (si_iloadn dX12_meetOf_160 rfl) <|
    fm_c (si_goto dX12_meetOf_161 rfl) <|
    fm_c (si_iload dX12_meetOf_164) <|
    fm_c (si_iret rfl dX12_meetOf_166) <|
    fun _ h => absurd h List.not_mem_nil
def K12_digest : List (Nat × am_O) := [(0, o_push (aL 17) 3),
  (3, o_lstore 1 4),
  (4, o_push (aI 0) 5),
  (5, o_istore 3 6),
  (6, o_iload 3 7),
  (7, o_push (aI 8) 9),
  (9, o_ic (fun a b => b ≤ a) 31 12),
  (12, o_push (aL 31) 15),
  (15, o_lload 1 16),
  (16, o_binL (fun a b => w64 (a * b)) 17),
  (17, o_aload 0 18),
  (18, o_iload 3 19),
  (19, o_callv S12_count 12 1 false 22),
  (22, o_i2l 23),
  (23, o_binL (fun a b => w64 (a + b)) 24),
  (24, o_lstore 1 25),
  (25, o_iinc 3 1 28),
  (28, o_goto 6),
  (31, o_push (aI 0) 32),
  (32, o_istore 3 33),
  (33, o_iload 3 34),
  (34, o_push (aI 3) 35),
  (35, o_ic (fun a b => b ≤ a) 57 38),
  (38, o_push (aL 31) 41),
  (41, o_lload 1 42),
  (42, o_binL (fun a b => w64 (a * b)) 43),
  (43, o_aload 0 44),
  (44, o_iload 3 45),
  (45, o_callv S12_fault 12 1 false 48),
  (48, o_i2l 49),
  (49, o_binL (fun a b => w64 (a + b)) 50),
  (50, o_lstore 1 51),
  (51, o_iinc 3 1 54),
  (54, o_goto 33),
  (57, o_push (aL 31) 60),
  (60, o_lload 1 61),
  (61, o_binL (fun a b => w64 (a * b)) 62),
  (62, o_aload 0 63),
  (63, o_callv S12_judged 12 0 false 66),
  (66, o_i2l 67),
  (67, o_binL (fun a b => w64 (a + b)) 68),
  (68, o_lstore 1 69),
  (69, o_push (aL 31) 72),
  (72, o_lload 1 73),
  (73, o_binL (fun a b => w64 (a * b)) 74),
  (74, o_aload 0 75),
  (75, o_aload 0 76),
  (76, o_getf 12 17 79),
  (79, o_callv S12_at 12 1 false 82),
  (82, o_i2l 83),
  (83, o_binL (fun a b => w64 (a + b)) 84),
  (84, o_lstore 1 85),
  (85, o_push (aL 31) 88),
  (88, o_lload 1 89),
  (89, o_binL (fun a b => w64 (a * b)) 90),
  (90, o_aload 0 91),
  (91, o_callv S12_looseNow 12 0 false 94),
  (94, o_i2l 95),
  (95, o_binL (fun a b => w64 (a + b)) 96),
  (96, o_lstore 1 97),
  (97, o_push (aL 31) 100),
  (100, o_lload 1 101),
  (101, o_binL (fun a b => w64 (a * b)) 102),
  (102, o_aload 0 103),
  (103, o_callv S12_riskNow 12 0 false 106),
  (106, o_i2l 107),
  (107, o_binL (fun a b => w64 (a + b)) 108),
  (108, o_lstore 1 109),
  (109, o_push (aI 0) 110),
  (110, o_istore 3 111),
  (111, o_iload 3 112),
  (112, o_push (aI 2) 113),
  (113, o_ic (fun a b => b ≤ a) 134 116),
  (116, o_push (aL 31) 119),
  (119, o_lload 1 120),
  (120, o_binL (fun a b => w64 (a * b)) 121),
  (121, o_aload 0 122),
  (122, o_iload 3 123),
  (123, o_callv S12_alikeOf 12 1 false 126),
  (126, o_binL (fun a b => w64 (a + b)) 127),
  (127, o_lstore 1 128),
  (128, o_iinc 3 1 131),
  (131, o_goto 111),
  (134, o_push (aI 0) 135),
  (135, o_istore 3 136),
  (136, o_iload 3 137),
  (137, o_push (aI 5) 138),
  (138, o_ic (fun a b => b ≤ a) 200 141),
  (141, o_push (aL 31) 144),
  (144, o_lload 1 145),
  (145, o_binL (fun a b => w64 (a * b)) 146),
  (146, o_aload 0 147),
  (147, o_iload 3 148),
  (148, o_callv S12_orderOf 12 1 false 151),
  (151, o_i2l 152),
  (152, o_binL (fun a b => w64 (a + b)) 153),
  (153, o_lstore 1 154),
  (154, o_push (aL 31) 157),
  (157, o_lload 1 158),
  (158, o_binL (fun a b => w64 (a * b)) 159),
  (159, o_aload 0 160),
  (160, o_iload 3 161),
  (161, o_push (aI (-2)) 163),
  (163, o_callv S12_seekOf 12 2 false 166),
  (166, o_binL (fun a b => w64 (a + b)) 167),
  (167, o_lstore 1 168),
  (168, o_push (aL 31) 171),
  (171, o_lload 1 172),
  (172, o_binL (fun a b => w64 (a * b)) 173),
  (173, o_aload 0 174),
  (174, o_iload 3 175),
  (175, o_push (aI (-1)) 176),
  (176, o_callv S12_seekOf 12 2 false 179),
  (179, o_binL (fun a b => w64 (a + b)) 180),
  (180, o_lstore 1 181),
  (181, o_push (aL 31) 184),
  (184, o_lload 1 185),
  (185, o_binL (fun a b => w64 (a * b)) 186),
  (186, o_aload 0 187),
  (187, o_iload 3 188),
  (188, o_push (aI 0) 189),
  (189, o_callv S12_seekOf 12 2 false 192),
  (192, o_binL (fun a b => w64 (a + b)) 193),
  (193, o_lstore 1 194),
  (194, o_iinc 3 1 197),
  (197, o_goto 136),
  (200, o_push (aL 31) 203),
  (203, o_lload 1 204),
  (204, o_binL (fun a b => w64 (a * b)) 205),
  (205, o_aload 0 206),
  (206, o_push (aI 0) 207),
  (207, o_push (aI 9) 209),
  (209, o_callv S12_near 12 2 false 212),
  (212, o_i2l 213),
  (213, o_binL (fun a b => w64 (a + b)) 214),
  (214, o_lstore 1 215),
  (215, o_push (aI (-2)) 217),
  (217, o_istore 3 218),
  (218, o_iload 3 219),
  (219, o_push (aI 2) 220),
  (220, o_ic (fun a b => b ≤ a) 245 223),
  (223, o_push (aL 31) 226),
  (226, o_lload 1 227),
  (227, o_binL (fun a b => w64 (a * b)) 228),
  (228, o_aload 0 229),
  (229, o_push (aI 0) 230),
  (230, o_push (aI 9) 232),
  (232, o_iload 3 233),
  (233, o_callv S12_easiest 12 3 false 236),
  (236, o_i2l 237),
  (237, o_binL (fun a b => w64 (a + b)) 238),
  (238, o_lstore 1 239),
  (239, o_iinc 3 1 242),
  (242, o_goto 218),
  (245, o_push (aI (-1)) 246),
  (246, o_istore 3 247),
  (247, o_iload 3 248),
  (248, o_push (aI 5) 249),
  (249, o_ic (fun a b => b ≤ a) 273 252),
  (252, o_push (aL 31) 255),
  (255, o_lload 1 256),
  (256, o_binL (fun a b => w64 (a * b)) 257),
  (257, o_aload 0 258),
  (258, o_push (aI 31) 260),
  (260, o_iload 3 261),
  (261, o_callv S12_bestOf 12 2 false 264),
  (264, o_i2l 265),
  (265, o_binL (fun a b => w64 (a + b)) 266),
  (266, o_lstore 1 267),
  (267, o_iinc 3 1 270),
  (270, o_goto 247),
  (273, o_push (aL 31) 276),
  (276, o_lload 1 277),
  (277, o_binL (fun a b => w64 (a * b)) 278),
  (278, o_aload 0 279),
  (279, o_push (aI 0) 280),
  (280, o_push (aI 0) 281),
  (281, o_push (aI 2) 282),
  (282, o_push (aI 0) 283),
  (283, o_callv S12_holds 12 4 false 286),
  (286, o_binL (fun a b => w64 (a + b)) 287),
  (287, o_lstore 1 288),
  (288, o_push (aI 0) 289),
  (289, o_istore 3 290),
  (290, o_iload 3 291),
  (291, o_push (aI 4) 292),
  (292, o_ic (fun a b => b ≤ a) 316 295),
  (295, o_push (aL 31) 298),
  (298, o_lload 1 299),
  (299, o_binL (fun a b => w64 (a * b)) 300),
  (300, o_aload 0 301),
  (301, o_push (aI 7) 303),
  (303, o_iload 3 304),
  (304, o_callv S12_tornOf 12 2 false 307),
  (307, o_i2l 308),
  (308, o_binL (fun a b => w64 (a + b)) 309),
  (309, o_lstore 1 310),
  (310, o_iinc 3 1 313),
  (313, o_goto 290),
  (316, o_push (aL 31) 319),
  (319, o_lload 1 320),
  (320, o_binL (fun a b => w64 (a * b)) 321),
  (321, o_aload 0 322),
  (322, o_push (aI 7) 324),
  (324, o_push (aI 9) 326),
  (326, o_callv S12_fairsOf 12 2 false 329),
  (329, o_i2l 330),
  (330, o_binL (fun a b => w64 (a + b)) 331),
  (331, o_lstore 1 332),
  (332, o_push (aI 0) 333),
  (333, o_istore 3 334),
  (334, o_iload 3 335),
  (335, o_push (aI 2) 336),
  (336, o_ic (fun a b => b ≤ a) 360 339),
  (339, o_push (aL 31) 342),
  (342, o_lload 1 343),
  (343, o_binL (fun a b => w64 (a * b)) 344),
  (344, o_aload 0 345),
  (345, o_push (aI 0) 346),
  (346, o_push (aI 3) 347),
  (347, o_push (aI 1) 348),
  (348, o_iload 3 349),
  (349, o_callv S12_is 12 4 false 352),
  (352, o_binL (fun a b => w64 (a + b)) 353),
  (353, o_lstore 1 354),
  (354, o_iinc 3 1 357),
  (357, o_goto 334),
  (360, o_push (aL 31) 363),
  (363, o_lload 1 364),
  (364, o_binL (fun a b => w64 (a * b)) 365),
  (365, o_aload 0 366),
  (366, o_push (aI 0) 367),
  (367, o_push (aI 4) 368),
  (368, o_callv S12_likeliest 12 2 false 371),
  (371, o_i2l 372),
  (372, o_binL (fun a b => w64 (a + b)) 373),
  (373, o_lstore 1 374),
  (374, o_push (aI 0) 375),
  (375, o_istore 3 376),
  (376, o_iload 3 377),
  (377, o_push (aI 3) 378),
  (378, o_ic (fun a b => b ≤ a) 401 381),
  (381, o_push (aL 31) 384),
  (384, o_lload 1 385),
  (385, o_binL (fun a b => w64 (a * b)) 386),
  (386, o_aload 0 387),
  (387, o_push (aI 0) 388),
  (388, o_push (aI 1) 389),
  (389, o_iload 3 390),
  (390, o_callv S12_partedOf 12 3 false 393),
  (393, o_binL (fun a b => w64 (a + b)) 394),
  (394, o_lstore 1 395),
  (395, o_iinc 3 1 398),
  (398, o_goto 376),
  (401, o_push (aI 0) 402),
  (402, o_istore 3 403),
  (403, o_iload 3 404),
  (404, o_push (aI 2) 405),
  (405, o_ic (fun a b => b ≤ a) 429 408),
  (408, o_push (aL 31) 411),
  (411, o_lload 1 412),
  (412, o_binL (fun a b => w64 (a * b)) 413),
  (413, o_aload 0 414),
  (414, o_push (aI 7) 416),
  (416, o_iload 3 417),
  (417, o_callv S12_meetOf 12 2 false 420),
  (420, o_i2l 421),
  (421, o_binL (fun a b => w64 (a + b)) 422),
  (422, o_lstore 1 423),
  (423, o_iinc 3 1 426),
  (426, o_goto 403),
  (429, o_push (aL 31) 432),
  (432, o_lload 1 433),
  (433, o_binL (fun a b => w64 (a * b)) 434),
  (434, o_push (aI 60) 436),
  (436, o_push (aI 3) 437),
  (437, o_push (aI 2) 438),
  (438, o_call S12_countsOf 3 false 441),
  (441, o_i2l 442),
  (442, o_binL (fun a b => w64 (a + b)) 443),
  (443, o_lret)]
def S12_digest : am_E := am_S K12_digest 4
theorem hdd_12_digest : yX12_digest.cls ≠ "java/lang/invoke/MethodHandle" ∧ yX12_digest.cls ≠ "java/lang/invoke/VarHandle" ∧ (parseMethodDescriptor yX12_digest.desc).map (fun d => d.parameters.length) = some 0 := by decide +kernel
set_option maxRecDepth 100000 in
theorem snd_12_digest : am_Sound yX12_digest cX12_digest 4 (some .long) 6 153 S12_digest :=
  am_sound_of (own := RX12) (by decide) rfl <|
    fm_c (si_ldc2 dX12_digest_0 tw_1415 rfl) <|
    fm_c (si_lstoren dX12_digest_3 rfl rfl) <|
    fm_c (si_iconst dX12_digest_4 rfl) <|
    fm_c (si_istoren dX12_digest_5 rfl rfl) <|
    fm_c (si_iloadn dX12_digest_6 rfl) <|
    fm_c (si_bipush dX12_digest_7 rfl) <|
    fm_c (si_ic_ge dX12_digest_9 rfl) <|
    fm_c (si_ldc2 dX12_digest_12 tw_1260 rfl) <|
    fm_c (si_lloadn dX12_digest_15 rfl) <|
    fm_c (si_lmul dX12_digest_16) <|
    fm_c (si_aloadn dX12_digest_17 rfl) <|
    fm_c (si_iloadn dX12_digest_18 rfl) <|
    fm_c (si_callv (C := RX12) (T := TX12) (N := 34) snd_12_count rfl dX12_digest_19 tw_1416 tw_1408 tw_1409 tw_78 tw_1410 hdd_12_count ⟨rfl, rfl⟩) <|
    fm_c (si_i2l dX12_digest_22) <|
    fm_c (si_ladd dX12_digest_23) <|
    fm_c (si_lstoren dX12_digest_24 rfl rfl) <|
    fm_c (si_iinc dX12_digest_25 rfl rfl) <|
    fm_c (si_goto dX12_digest_28 rfl) <|
    fm_c (si_iconst dX12_digest_31 rfl) <|
    fm_c (si_istoren dX12_digest_32 rfl rfl) <|
    fm_c (si_iloadn dX12_digest_33 rfl) <|
    fm_c (si_iconst dX12_digest_34 rfl) <|
    fm_c (si_ic_ge dX12_digest_35 rfl) <|
    fm_c (si_ldc2 dX12_digest_38 tw_1260 rfl) <|
    fm_c (si_lloadn dX12_digest_41 rfl) <|
    fm_c (si_lmul dX12_digest_42) <|
    fm_c (si_aloadn dX12_digest_43 rfl) <|
    fm_c (si_iloadn dX12_digest_44 rfl) <|
    fm_c (si_callv (C := RX12) (T := TX12) (N := 34) snd_12_fault rfl dX12_digest_45 tw_1417 tw_1117 tw_1118 tw_78 tw_1119 hdd_12_fault ⟨rfl, rfl⟩) <|
    fm_c (si_i2l dX12_digest_48) <|
    fm_c (si_ladd dX12_digest_49) <|
    fm_c (si_lstoren dX12_digest_50 rfl rfl) <|
    fm_c (si_iinc dX12_digest_51 rfl rfl) <|
    fm_c (si_goto dX12_digest_54 rfl) <|
    fm_c (si_ldc2 dX12_digest_57 tw_1260 rfl) <|
    fm_c (si_lloadn dX12_digest_60 rfl) <|
    fm_c (si_lmul dX12_digest_61) <|
    fm_c (si_aloadn dX12_digest_62 rfl) <|
    fm_c (si_callv (C := RX12) (T := TX12) (N := 34) snd_12_judged rfl dX12_digest_63 tw_1418 tw_1200 tw_1201 tw_78 tw_1202 hdd_12_judged ⟨rfl, rfl⟩) <|
    fm_c (si_i2l dX12_digest_66) <|
    fm_c (si_ladd dX12_digest_67) <|
    fm_c (si_lstoren dX12_digest_68 rfl rfl) <|
    fm_c (si_ldc2 dX12_digest_69 tw_1260 rfl) <|
    fm_c (si_lloadn dX12_digest_72 rfl) <|
    fm_c (si_lmul dX12_digest_73) <|
    fm_c (si_aloadn dX12_digest_74 rfl) <|
    fm_c (si_aloadn dX12_digest_75 rfl) <|
    fm_c (si_getf (C := RX12) (T := TX12) (N := 34) dX12_digest_76 rfl inC_12 rfl tw_974) <|
    fm_c (si_callv (C := RX12) (T := TX12) (N := 34) snd_12_at rfl dX12_digest_79 tw_1419 tw_1204 tw_1205 tw_78 tw_1206 hdd_12_at ⟨rfl, rfl⟩) <|
    fm_c (si_i2l dX12_digest_82) <|
    fm_c (si_ladd dX12_digest_83) <|
    fm_c (si_lstoren dX12_digest_84 rfl rfl) <|
    fm_c (si_ldc2 dX12_digest_85 tw_1260 rfl) <|
    fm_c (si_lloadn dX12_digest_88 rfl) <|
    fm_c (si_lmul dX12_digest_89) <|
    fm_c (si_aloadn dX12_digest_90 rfl) <|
    fm_c (si_callv (C := RX12) (T := TX12) (N := 34) snd_12_looseNow rfl dX12_digest_91 tw_1240 tw_1242 tw_43 tw_78 tw_1243 hdd_12_looseNow ⟨rfl, rfl⟩) <|
    fm_c (si_i2l dX12_digest_94) <|
    fm_c (si_ladd dX12_digest_95) <|
    fm_c (si_lstoren dX12_digest_96 rfl rfl) <|
    fm_c (si_ldc2 dX12_digest_97 tw_1260 rfl) <|
    fm_c (si_lloadn dX12_digest_100 rfl) <|
    fm_c (si_lmul dX12_digest_101) <|
    fm_c (si_aloadn dX12_digest_102 rfl) <|
    fm_c (si_callv (C := RX12) (T := TX12) (N := 34) snd_12_riskNow rfl dX12_digest_103 tw_1252 tw_1254 tw_45 tw_78 tw_1255 hdd_12_riskNow ⟨rfl, rfl⟩) <|
    fm_c (si_i2l dX12_digest_106) <|
    fm_c (si_ladd dX12_digest_107) <|
    fm_c (si_lstoren dX12_digest_108 rfl rfl) <|
    fm_c (si_iconst dX12_digest_109 rfl) <|
    fm_c (si_istoren dX12_digest_110 rfl rfl) <|
    fm_c (si_iloadn dX12_digest_111 rfl) <|
    fm_c (si_iconst dX12_digest_112 rfl) <|
    fm_c (si_ic_ge dX12_digest_113 rfl) <|
    fm_c (si_ldc2 dX12_digest_116 tw_1260 rfl) <|
    fm_c (si_lloadn dX12_digest_119 rfl) <|
    fm_c (si_lmul dX12_digest_120) <|
    fm_c (si_aloadn dX12_digest_121 rfl) <|
    fm_c (si_iloadn dX12_digest_122 rfl) <|
    fm_c (si_callv (C := RX12) (T := TX12) (N := 34) snd_12_alikeOf rfl dX12_digest_123 tw_1290 tw_1292 tw_48 tw_78 tw_1293 hdd_12_alikeOf ⟨rfl, rfl⟩) <|
    fm_c (si_ladd dX12_digest_126) <|
    fm_c (si_lstoren dX12_digest_127 rfl rfl) <|
    fm_c (si_iinc dX12_digest_128 rfl rfl) <|
    fm_c (si_goto dX12_digest_131 rfl) <|
    fm_c (si_iconst dX12_digest_134 rfl) <|
    fm_c (si_istoren dX12_digest_135 rfl rfl) <|
    fm_c (si_iloadn dX12_digest_136 rfl) <|
    fm_c (si_iconst dX12_digest_137 rfl) <|
    fm_c (si_ic_ge dX12_digest_138 rfl) <|
    fm_c (si_ldc2 dX12_digest_141 tw_1260 rfl) <|
    fm_c (si_lloadn dX12_digest_144 rfl) <|
    fm_c (si_lmul dX12_digest_145) <|
    fm_c (si_aloadn dX12_digest_146 rfl) <|
    fm_c (si_iloadn dX12_digest_147 rfl) <|
    fm_c (si_callv (C := RX12) (T := TX12) (N := 34) snd_12_orderOf rfl dX12_digest_148 tw_1232 tw_1234 tw_42 tw_78 tw_1235 hdd_12_orderOf ⟨rfl, rfl⟩) <|
    fm_c (si_i2l dX12_digest_151) <|
    fm_c (si_ladd dX12_digest_152) <|
    fm_c (si_lstoren dX12_digest_153 rfl rfl) <|
    fm_c (si_ldc2 dX12_digest_154 tw_1260 rfl) <|
    fm_c (si_lloadn dX12_digest_157 rfl) <|
    fm_c (si_lmul dX12_digest_158) <|
    fm_c (si_aloadn dX12_digest_159 rfl) <|
    fm_c (si_iloadn dX12_digest_160 rfl) <|
    fm_c (si_bipush dX12_digest_161 rfl) <|
    fm_c (si_callv (C := RX12) (T := TX12) (N := 34) snd_12_seekOf rfl dX12_digest_163 tw_1363 tw_1365 tw_58 tw_78 tw_1366 hdd_12_seekOf ⟨rfl, rfl⟩) <|
    fm_c (si_ladd dX12_digest_166) <|
    fm_c (si_lstoren dX12_digest_167 rfl rfl) <|
    fm_c (si_ldc2 dX12_digest_168 tw_1260 rfl) <|
    fm_c (si_lloadn dX12_digest_171 rfl) <|
    fm_c (si_lmul dX12_digest_172) <|
    fm_c (si_aloadn dX12_digest_173 rfl) <|
    fm_c (si_iloadn dX12_digest_174 rfl) <|
    fm_c (si_iconst dX12_digest_175 rfl) <|
    fm_c (si_callv (C := RX12) (T := TX12) (N := 34) snd_12_seekOf rfl dX12_digest_176 tw_1363 tw_1365 tw_58 tw_78 tw_1366 hdd_12_seekOf ⟨rfl, rfl⟩) <|
    fm_c (si_ladd dX12_digest_179) <|
    fm_c (si_lstoren dX12_digest_180 rfl rfl) <|
    fm_c (si_ldc2 dX12_digest_181 tw_1260 rfl) <|
    fm_c (si_lloadn dX12_digest_184 rfl) <|
    fm_c (si_lmul dX12_digest_185) <|
    fm_c (si_aloadn dX12_digest_186 rfl) <|
    fm_c (si_iloadn dX12_digest_187 rfl) <|
    fm_c (si_iconst dX12_digest_188 rfl) <|
    fm_c (si_callv (C := RX12) (T := TX12) (N := 34) snd_12_seekOf rfl dX12_digest_189 tw_1363 tw_1365 tw_58 tw_78 tw_1366 hdd_12_seekOf ⟨rfl, rfl⟩) <|
    fm_c (si_ladd dX12_digest_192) <|
    fm_c (si_lstoren dX12_digest_193 rfl rfl) <|
    fm_c (si_iinc dX12_digest_194 rfl rfl) <|
    fm_c (si_goto dX12_digest_197 rfl) <|
    fm_c (si_ldc2 dX12_digest_200 tw_1260 rfl) <|
    fm_c (si_lloadn dX12_digest_203 rfl) <|
    fm_c (si_lmul dX12_digest_204) <|
    fm_c (si_aloadn dX12_digest_205 rfl) <|
    fm_c (si_iconst dX12_digest_206 rfl) <|
    fm_c (si_bipush dX12_digest_207 rfl) <|
    fm_c (si_callv (C := RX12) (T := TX12) (N := 34) snd_12_near rfl dX12_digest_209 tw_1420 tw_1208 tw_1209 tw_78 tw_1210 hdd_12_near ⟨rfl, rfl⟩) <|
    fm_c (si_i2l dX12_digest_212) <|
    fm_c (si_ladd dX12_digest_213) <|
    fm_c (si_lstoren dX12_digest_214 rfl rfl) <|
    fm_c (si_bipush dX12_digest_215 rfl) <|
    fm_c (si_istoren dX12_digest_217 rfl rfl) <|
    fm_c (si_iloadn dX12_digest_218 rfl) <|
    fm_c (si_iconst dX12_digest_219 rfl) <|
    fm_c (si_ic_ge dX12_digest_220 rfl) <|
    fm_c (si_ldc2 dX12_digest_223 tw_1260 rfl) <|
    fm_c (si_lloadn dX12_digest_226 rfl) <|
    fm_c (si_lmul dX12_digest_227) <|
    fm_c (si_aloadn dX12_digest_228 rfl) <|
    fm_c (si_iconst dX12_digest_229 rfl) <|
    fm_c (si_bipush dX12_digest_230 rfl) <|
    fm_c (si_iloadn dX12_digest_232 rfl) <|
    fm_c (si_callv (C := RX12) (T := TX12) (N := 34) snd_12_easiest rfl dX12_digest_233 tw_1421 tw_1221 tw_1222 tw_78 tw_1223 hdd_12_easiest ⟨rfl, rfl⟩) <|
    fm_c (si_i2l dX12_digest_236) <|
    fm_c (si_ladd dX12_digest_237) <|
    fm_c (si_lstoren dX12_digest_238 rfl rfl) <|
    fm_c (si_iinc dX12_digest_239 rfl rfl) <|
    fm_c (si_goto dX12_digest_242 rfl) <|
    fm_c (si_iconst dX12_digest_245 rfl) <|
    fm_c (si_istoren dX12_digest_246 rfl rfl) <|
    fm_c (si_iloadn dX12_digest_247 rfl) <|
    fm_c (si_iconst dX12_digest_248 rfl) <|
    fm_c (si_ic_ge dX12_digest_249 rfl) <|
    fm_c (si_ldc2 dX12_digest_252 tw_1260 rfl) <|
    fm_c (si_lloadn dX12_digest_255 rfl) <|
    fm_c (si_lmul dX12_digest_256) <|
    fm_c (si_aloadn dX12_digest_257 rfl) <|
    fm_c (si_bipush dX12_digest_258 rfl) <|
    fm_c (si_iloadn dX12_digest_260 rfl) <|
    fm_c (si_callv (C := RX12) (T := TX12) (N := 34) snd_12_bestOf rfl dX12_digest_261 tw_1265 tw_1267 tw_46 tw_78 tw_1268 hdd_12_bestOf ⟨rfl, rfl⟩) <|
    fm_c (si_i2l dX12_digest_264) <|
    fm_c (si_ladd dX12_digest_265) <|
    fm_c (si_lstoren dX12_digest_266 rfl rfl) <|
    fm_c (si_iinc dX12_digest_267 rfl rfl) <|
    fm_c (si_goto dX12_digest_270 rfl) <|
    fm_c (si_ldc2 dX12_digest_273 tw_1260 rfl) <|
    fm_c (si_lloadn dX12_digest_276 rfl) <|
    fm_c (si_lmul dX12_digest_277) <|
    fm_c (si_aloadn dX12_digest_278 rfl) <|
    fm_c (si_iconst dX12_digest_279 rfl) <|
    fm_c (si_iconst dX12_digest_280 rfl) <|
    fm_c (si_iconst dX12_digest_281 rfl) <|
    fm_c (si_iconst dX12_digest_282 rfl) <|
    fm_c (si_callv (C := RX12) (T := TX12) (N := 34) snd_12_holds rfl dX12_digest_283 tw_1422 tw_1270 tw_1271 tw_78 tw_1272 hdd_12_holds ⟨rfl, rfl⟩) <|
    fm_c (si_ladd dX12_digest_286) <|
    fm_c (si_lstoren dX12_digest_287 rfl rfl) <|
    fm_c (si_iconst dX12_digest_288 rfl) <|
    fm_c (si_istoren dX12_digest_289 rfl rfl) <|
    fm_c (si_iloadn dX12_digest_290 rfl) <|
    fm_c (si_iconst dX12_digest_291 rfl) <|
    fm_c (si_ic_ge dX12_digest_292 rfl) <|
    fm_c (si_ldc2 dX12_digest_295 tw_1260 rfl) <|
    fm_c (si_lloadn dX12_digest_298 rfl) <|
    fm_c (si_lmul dX12_digest_299) <|
    fm_c (si_aloadn dX12_digest_300 rfl) <|
    fm_c (si_bipush dX12_digest_301 rfl) <|
    fm_c (si_iloadn dX12_digest_303 rfl) <|
    fm_c (si_callv (C := RX12) (T := TX12) (N := 34) snd_12_tornOf rfl dX12_digest_304 tw_1298 tw_1300 tw_49 tw_78 tw_1301 hdd_12_tornOf ⟨rfl, rfl⟩) <|
    fm_c (si_i2l dX12_digest_307) <|
    fm_c (si_ladd dX12_digest_308) <|
    fm_c (si_lstoren dX12_digest_309 rfl rfl) <|
    fm_c (si_iinc dX12_digest_310 rfl rfl) <|
    fm_c (si_goto dX12_digest_313 rfl) <|
    fm_c (si_ldc2 dX12_digest_316 tw_1260 rfl) <|
    fm_c (si_lloadn dX12_digest_319 rfl) <|
    fm_c (si_lmul dX12_digest_320) <|
    fm_c (si_aloadn dX12_digest_321 rfl) <|
    fm_c (si_bipush dX12_digest_322 rfl) <|
    fm_c (si_bipush dX12_digest_324 rfl) <|
    fm_c (si_callv (C := RX12) (T := TX12) (N := 34) snd_12_fairsOf rfl dX12_digest_326 tw_1316 tw_1318 tw_52 tw_78 tw_1319 hdd_12_fairsOf ⟨rfl, rfl⟩) <|
    fm_c (si_i2l dX12_digest_329) <|
    fm_c (si_ladd dX12_digest_330) <|
    fm_c (si_lstoren dX12_digest_331 rfl rfl) <|
    fm_c (si_iconst dX12_digest_332 rfl) <|
    fm_c (si_istoren dX12_digest_333 rfl rfl) <|
    fm_c (si_iloadn dX12_digest_334 rfl) <|
    fm_c (si_iconst dX12_digest_335 rfl) <|
    fm_c (si_ic_ge dX12_digest_336 rfl) <|
    fm_c (si_ldc2 dX12_digest_339 tw_1260 rfl) <|
    fm_c (si_lloadn dX12_digest_342 rfl) <|
    fm_c (si_lmul dX12_digest_343) <|
    fm_c (si_aloadn dX12_digest_344 rfl) <|
    fm_c (si_iconst dX12_digest_345 rfl) <|
    fm_c (si_iconst dX12_digest_346 rfl) <|
    fm_c (si_iconst dX12_digest_347 rfl) <|
    fm_c (si_iloadn dX12_digest_348 rfl) <|
    fm_c (si_callv (C := RX12) (T := TX12) (N := 34) snd_12_is rfl dX12_digest_349 tw_1423 tw_1321 tw_1322 tw_78 tw_1323 hdd_12_is ⟨rfl, rfl⟩) <|
    fm_c (si_ladd dX12_digest_352) <|
    fm_c (si_lstoren dX12_digest_353 rfl rfl) <|
    fm_c (si_iinc dX12_digest_354 rfl rfl) <|
    fm_c (si_goto dX12_digest_357 rfl) <|
    fm_c (si_ldc2 dX12_digest_360 tw_1260 rfl) <|
    fm_c (si_lloadn dX12_digest_363 rfl) <|
    fm_c (si_lmul dX12_digest_364) <|
    fm_c (si_aloadn dX12_digest_365 rfl) <|
    fm_c (si_iconst dX12_digest_366 rfl) <|
    fm_c (si_iconst dX12_digest_367 rfl) <|
    fm_c (si_callv (C := RX12) (T := TX12) (N := 34) snd_12_likeliest rfl dX12_digest_368 tw_1424 tw_1342 tw_1343 tw_78 tw_1344 hdd_12_likeliest ⟨rfl, rfl⟩) <|
    fm_c (si_i2l dX12_digest_371) <|
    fm_c (si_ladd dX12_digest_372) <|
    fm_c (si_lstoren dX12_digest_373 rfl rfl) <|
    fm_c (si_iconst dX12_digest_374 rfl) <|
    fm_c (si_istoren dX12_digest_375 rfl rfl) <|
    fm_c (si_iloadn dX12_digest_376 rfl) <|
    fm_c (si_iconst dX12_digest_377 rfl) <|
    fm_c (si_ic_ge dX12_digest_378 rfl) <|
    fm_c (si_ldc2 dX12_digest_381 tw_1260 rfl) <|
    fm_c (si_lloadn dX12_digest_384 rfl) <|
    fm_c (si_lmul dX12_digest_385) <|
    fm_c (si_aloadn dX12_digest_386 rfl) <|
    fm_c (si_iconst dX12_digest_387 rfl) <|
    fm_c (si_iconst dX12_digest_388 rfl) <|
    fm_c (si_iloadn dX12_digest_389 rfl) <|
    fm_c (si_callv (C := RX12) (T := TX12) (N := 34) snd_12_partedOf rfl dX12_digest_390 tw_1383 tw_1385 tw_62 tw_78 tw_1386 hdd_12_partedOf ⟨rfl, rfl⟩) <|
    fm_c (si_ladd dX12_digest_393) <|
    fm_c (si_lstoren dX12_digest_394 rfl rfl) <|
    fm_c (si_iinc dX12_digest_395 rfl rfl) <|
    fm_c (si_goto dX12_digest_398 rfl) <|
    fm_c (si_iconst dX12_digest_401 rfl) <|
    fm_c (si_istoren dX12_digest_402 rfl rfl) <|
    fm_c (si_iloadn dX12_digest_403 rfl) <|
    fm_c (si_iconst dX12_digest_404 rfl) <|
    fm_c (si_ic_ge dX12_digest_405 rfl) <|
    fm_c (si_ldc2 dX12_digest_408 tw_1260 rfl) <|
    fm_c (si_lloadn dX12_digest_411 rfl) <|
    fm_c (si_lmul dX12_digest_412) <|
    fm_c (si_aloadn dX12_digest_413 rfl) <|
    fm_c (si_bipush dX12_digest_414 rfl) <|
    fm_c (si_iloadn dX12_digest_416 rfl) <|
    fm_c (si_callv (C := RX12) (T := TX12) (N := 34) snd_12_meetOf rfl dX12_digest_417 tw_1391 tw_1393 tw_63 tw_78 tw_1394 hdd_12_meetOf ⟨rfl, rfl⟩) <|
    fm_c (si_i2l dX12_digest_420) <|
    fm_c (si_ladd dX12_digest_421) <|
    fm_c (si_lstoren dX12_digest_422 rfl rfl) <|
    fm_c (si_iinc dX12_digest_423 rfl rfl) <|
    fm_c (si_goto dX12_digest_426 rfl) <|
    fm_c (si_ldc2 dX12_digest_429 tw_1260 rfl) <|
    fm_c (si_lloadn dX12_digest_432 rfl) <|
    fm_c (si_lmul dX12_digest_433) <|
    fm_c (si_bipush dX12_digest_434 rfl) <|
    fm_c (si_iconst dX12_digest_436 rfl) <|
    fm_c (si_iconst dX12_digest_437 rfl) <|
    fm_c (si_call snd_12_countsOf dX12_digest_438 tw_1400 tw_1401 tw_78 tw_1402 hdd_12_countsOf ⟨rfl, rfl⟩) <|
    fm_c (si_i2l dX12_digest_441) <|
    fm_c (si_ladd dX12_digest_442) <|
    fm_c (si_lret rfl dX12_digest_443) <|
    fun _ h => absurd h List.not_mem_nil
def K12_fairs : List (Nat × am_O) := [(0, o_aload 0 1),
  (1, o_callv S12_reads 12 0 true 4),
  (4, o_iload 2 5),
  (5, o_i2l 6),
  (6, o_push (aL 1) 7),
  (7, o_push (aL 60) 10),
  (10, o_call S12_in 3 false 13),
  (13, o_if (fun a => a = 0) 25 16),
  (16, o_aload 0 17),
  (17, o_iload 1 18),
  (18, o_iload 2 19),
  (19, o_callv S12_fairsOf 12 2 false 22),
  (22, o_goto 27),
  (25, o_push (aI (-2)) 27),
  (27, o_iret)]
def S12_fairs : am_E := am_S K12_fairs 3
theorem hdd_12_fairs : yX12_fairs.cls ≠ "java/lang/invoke/MethodHandle" ∧ yX12_fairs.cls ≠ "java/lang/invoke/VarHandle" ∧ (parseMethodDescriptor yX12_fairs.desc).map (fun d => d.parameters.length) = some 2 := by decide +kernel
set_option maxRecDepth 100000 in
theorem snd_12_fairs : am_Sound yX12_fairs cX12_fairs 3 (some .int) 4 94 S12_fairs :=
  am_sound_of (own := RX12) (by decide) rfl <|
    fm_c (si_aloadn dX12_fairs_0 rfl) <|
    fm_c (si_callv (C := RX12) (T := TX12) (N := 34) snd_12_reads rfl dX12_fairs_1 tw_1182 tw_1184 tw_35 tw_78 tw_1185 hdd_12_reads ⟨rfl, rfl⟩) <|
    fm_c (si_iloadn dX12_fairs_4 rfl) <|
    fm_c (si_i2l dX12_fairs_5) <|
    fm_c (si_lconst1 dX12_fairs_6) <|
    fm_c (si_ldc2 dX12_fairs_7 tw_1315 rfl) <|
    fm_c (si_call snd_12_in dX12_fairs_10 tw_1068 tw_1069 tw_78 tw_1070 hdd_12_in ⟨rfl, rfl⟩) <|
    fm_c (si_if_eq dX12_fairs_13 rfl) <|
    fm_c (si_aloadn dX12_fairs_16 rfl) <|
    fm_c (si_iloadn dX12_fairs_17 rfl) <|
    fm_c (si_iloadn dX12_fairs_18 rfl) <|
    fm_c (si_callv (C := RX12) (T := TX12) (N := 34) snd_12_fairsOf rfl dX12_fairs_19 tw_1316 tw_1318 tw_52 tw_78 tw_1319 hdd_12_fairsOf ⟨rfl, rfl⟩) <|
    fm_c (si_goto dX12_fairs_22 rfl) <|
    fm_c (si_bipush dX12_fairs_25 rfl) <|
    fm_c (si_iret rfl dX12_fairs_27) <|
    fun _ h => absurd h List.not_mem_nil
def K12_forget : List (Nat × am_O) := [(0, o_aload 0 1),
  (1, o_getf 12 28 4),
  (4, o_istore 1 5),
  (5, o_aload 0 6),
  (6, o_push (aI 0) 7),
  (7, o_putI 12 28 10),
  (10, o_iload 1 11),
  (11, o_iret)]
def S12_forget : am_E := am_S K12_forget 2
theorem hdd_12_forget : yX12_forget.cls ≠ "java/lang/invoke/MethodHandle" ∧ yX12_forget.cls ≠ "java/lang/invoke/VarHandle" ∧ (parseMethodDescriptor yX12_forget.desc).map (fun d => d.parameters.length) = some 0 := by decide +kernel
set_option maxRecDepth 100000 in
theorem snd_12_forget : am_Sound yX12_forget cX12_forget 2 (some .int) 0 0 S12_forget :=
  am_sound_of (own := RX12) (by decide) rfl <|
    fm_c (si_aloadn dX12_forget_0 rfl) <|
    fm_c (si_getf (C := RX12) (T := TX12) (N := 34) dX12_forget_1 rfl inC_12 rfl tw_985) <|
    fm_c (si_istoren dX12_forget_4 rfl rfl) <|
    fm_c (si_aloadn dX12_forget_5 rfl) <|
    fm_c (si_iconst dX12_forget_6 rfl) <|
    fm_c (si_putI (C := RX12) (T := TX12) (N := 34) dX12_forget_7 rfl inC_12 tyX12 tyX12_ok nmX12 rfl tw_985 rfl (tyX12_ok 28 (by decide))) <|
    fm_c (si_iloadn dX12_forget_10 rfl) <|
    fm_c (si_iret rfl dX12_forget_11) <|
    fun _ h => absurd h List.not_mem_nil
def K12_lacks : List (Nat × am_O) := [(0, o_aload 0 1),
  (1, o_getf 12 0 4),
  (4, o_iload 1 5),
  (5, o_iald 6),
  (6, o_if (fun a => 0 ≤ a) 15 9),
  (9, o_aload 0 10),
  (10, o_push (aI 1) 11),
  (11, o_callv S12_met 12 1 false 14),
  (14, o_iret),
  (15, o_aload 0 16),
  (16, o_getf 12 0 19),
  (19, o_iload 1 20),
  (20, o_iald 21),
  (21, o_iload 2 22),
  (22, o_ic (fun a b => a = b) 31 25),
  (25, o_aload 0 26),
  (26, o_push (aI 3) 27),
  (27, o_callv S12_met 12 1 false 30),
  (30, o_iret),
  (31, o_iload 3 32),
  (32, o_i2l 33),
  (33, o_push (aL 0) 34),
  (34, o_aload 0 35),
  (35, o_getf 12 1 38),
  (38, o_iload 1 39),
  (39, o_iald 40),
  (40, o_push (aI 1) 41),
  (41, o_bin (fun a b => w32 (a - b)) 42),
  (42, o_i2l 43),
  (43, o_call S12_in 3 false 46),
  (46, o_if (fun a => a = 0) 53 49),
  (49, o_push (aI 0) 50),
  (50, o_goto 58),
  (53, o_aload 0 54),
  (54, o_push (aI 2) 55),
  (55, o_callv S12_met 12 1 false 58),
  (58, o_iret)]
def S12_lacks : am_E := am_S K12_lacks 4
theorem hdd_12_lacks : yX12_lacks.cls ≠ "java/lang/invoke/MethodHandle" ∧ yX12_lacks.cls ≠ "java/lang/invoke/VarHandle" ∧ (parseMethodDescriptor yX12_lacks.desc).map (fun d => d.parameters.length) = some 3 := by decide +kernel
set_option maxRecDepth 100000 in
theorem snd_12_lacks : am_Sound yX12_lacks cX12_lacks 4 (some .int) 1 25 S12_lacks :=
  am_sound_of (own := RX12) (by decide) rfl <|
    fm_c (si_aloadn dX12_lacks_0 rfl) <|
    fm_c (si_getf (C := RX12) (T := TX12) (N := 34) dX12_lacks_1 rfl inC_12 rfl tw_957) <|
    fm_c (si_iloadn dX12_lacks_4 rfl) <|
    fm_c (si_iald dX12_lacks_5) <|
    fm_c (si_if_ge dX12_lacks_6 rfl) <|
    fm_c (si_aloadn dX12_lacks_9 rfl) <|
    fm_c (si_iconst dX12_lacks_10 rfl) <|
    fm_c (si_callv (C := RX12) (T := TX12) (N := 34) snd_12_met rfl dX12_lacks_11 tw_1072 tw_1074 tw_27 tw_78 tw_1075 hdd_12_met ⟨rfl, rfl⟩) <|
    fm_c (si_iret rfl dX12_lacks_14) <|
    fm_c (si_aloadn dX12_lacks_15 rfl) <|
    fm_c (si_getf (C := RX12) (T := TX12) (N := 34) dX12_lacks_16 rfl inC_12 rfl tw_957) <|
    fm_c (si_iloadn dX12_lacks_19 rfl) <|
    fm_c (si_iald dX12_lacks_20) <|
    fm_c (si_iloadn dX12_lacks_21 rfl) <|
    fm_c (si_ic_eq dX12_lacks_22 rfl) <|
    fm_c (si_aloadn dX12_lacks_25 rfl) <|
    fm_c (si_iconst dX12_lacks_26 rfl) <|
    fm_c (si_callv (C := RX12) (T := TX12) (N := 34) snd_12_met rfl dX12_lacks_27 tw_1072 tw_1074 tw_27 tw_78 tw_1075 hdd_12_met ⟨rfl, rfl⟩) <|
    fm_c (si_iret rfl dX12_lacks_30) <|
    fm_c (si_iloadn dX12_lacks_31 rfl) <|
    fm_c (si_i2l dX12_lacks_32) <|
    fm_c (si_lconst0 dX12_lacks_33) <|
    fm_c (si_aloadn dX12_lacks_34 rfl) <|
    fm_c (si_getf (C := RX12) (T := TX12) (N := 34) dX12_lacks_35 rfl inC_12 rfl tw_958) <|
    fm_c (si_iloadn dX12_lacks_38 rfl) <|
    fm_c (si_iald dX12_lacks_39) <|
    fm_c (si_iconst dX12_lacks_40 rfl) <|
    fm_c (si_isub dX12_lacks_41) <|
    fm_c (si_i2l dX12_lacks_42) <|
    fm_c (si_call snd_12_in dX12_lacks_43 tw_1068 tw_1069 tw_78 tw_1070 hdd_12_in ⟨rfl, rfl⟩) <|
    fm_c (si_if_eq dX12_lacks_46 rfl) <|
    fm_c (si_iconst dX12_lacks_49 rfl) <|
    fm_c (si_goto dX12_lacks_50 rfl) <|
    fm_c (si_aloadn dX12_lacks_53 rfl) <|
    fm_c (si_iconst dX12_lacks_54 rfl) <|
    fm_c (si_callv (C := RX12) (T := TX12) (N := 34) snd_12_met rfl dX12_lacks_55 tw_1072 tw_1074 tw_27 tw_78 tw_1075 hdd_12_met ⟨rfl, rfl⟩) <|
    fm_c (si_iret rfl dX12_lacks_58) <|
    fun _ h => absurd h List.not_mem_nil
def K12_get : List (Nat × am_O) := [(0, o_iload 1 1),
  (1, o_call S12_isSheet 1 false 4),
  (4, o_if (fun a => a = 0) 29 7),
  (7, o_iload 2 8),
  (8, o_i2l 9),
  (9, o_push (aL 0) 10),
  (10, o_push (aL 2) 13),
  (13, o_call S12_in 3 false 16),
  (16, o_if (fun a => a = 0) 29 19),
  (19, o_aload 0 20),
  (20, o_iload 1 21),
  (21, o_iload 2 22),
  (22, o_iload 3 23),
  (23, o_callv S12_lacks 12 3 false 26),
  (26, o_if (fun a => a = 0) 32 29),
  (29, o_push (aI (-2147483648)) 31),
  (31, o_iret),
  (32, o_aload 0 33),
  (33, o_getf 12 2 36),
  (36, o_push (aI 64) 38),
  (38, o_iload 1 39),
  (39, o_bin (fun a b => w32 (a * b)) 40),
  (40, o_iload 3 41),
  (41, o_bin (fun a b => w32 (a + b)) 42),
  (42, o_iald 43),
  (43, o_iret)]
def S12_get : am_E := am_S K12_get 4
theorem hdd_12_get : yX12_get.cls ≠ "java/lang/invoke/MethodHandle" ∧ yX12_get.cls ≠ "java/lang/invoke/VarHandle" ∧ (parseMethodDescriptor yX12_get.desc).map (fun d => d.parameters.length) = some 3 := by decide +kernel
set_option maxRecDepth 100000 in
theorem snd_12_get : am_Sound yX12_get cX12_get 4 (some .int) 2 48 S12_get :=
  am_sound_of (own := RX12) (by decide) rfl <|
    fm_c (si_iloadn dX12_get_0 rfl) <|
    fm_c (si_call snd_12_isSheet dX12_get_1 tw_1064 tw_1065 tw_78 tw_1066 hdd_12_isSheet ⟨rfl, rfl⟩) <|
    fm_c (si_if_eq dX12_get_4 rfl) <|
    fm_c (si_iloadn dX12_get_7 rfl) <|
    fm_c (si_i2l dX12_get_8) <|
    fm_c (si_lconst0 dX12_get_9) <|
    fm_c (si_ldc2 dX12_get_10 tw_1071 rfl) <|
    fm_c (si_call snd_12_in dX12_get_13 tw_1068 tw_1069 tw_78 tw_1070 hdd_12_in ⟨rfl, rfl⟩) <|
    fm_c (si_if_eq dX12_get_16 rfl) <|
    fm_c (si_aloadn dX12_get_19 rfl) <|
    fm_c (si_iloadn dX12_get_20 rfl) <|
    fm_c (si_iloadn dX12_get_21 rfl) <|
    fm_c (si_iloadn dX12_get_22 rfl) <|
    fm_c (si_callv (C := RX12) (T := TX12) (N := 34) snd_12_lacks rfl dX12_get_23 tw_1084 tw_1086 tw_28 tw_78 tw_1087 hdd_12_lacks ⟨rfl, rfl⟩) <|
    fm_c (si_if_eq dX12_get_26 rfl) <|
    fm_c (si_ldc dX12_get_29 tw_1095 rfl) <|
    fm_c (si_iret rfl dX12_get_31) <|
    fm_c (si_aloadn dX12_get_32 rfl) <|
    fm_c (si_getf (C := RX12) (T := TX12) (N := 34) dX12_get_33 rfl inC_12 rfl tw_959) <|
    fm_c (si_bipush dX12_get_36 rfl) <|
    fm_c (si_iloadn dX12_get_38 rfl) <|
    fm_c (si_imul dX12_get_39) <|
    fm_c (si_iloadn dX12_get_40 rfl) <|
    fm_c (si_iadd dX12_get_41) <|
    fm_c (si_iald dX12_get_42) <|
    fm_c (si_iret rfl dX12_get_43) <|
    fun _ h => absurd h List.not_mem_nil
def K12_isPerson : List (Nat × am_O) := [(0, o_iload 0 1),
  (1, o_i2l 2),
  (2, o_push (aL 0) 3),
  (3, o_push (aL 4) 6),
  (6, o_call S12_in 3 false 9),
  (9, o_zret)]
def S12_isPerson : am_E := am_S K12_isPerson 1
theorem hdd_12_isPerson : yX12_isPerson.cls ≠ "java/lang/invoke/MethodHandle" ∧ yX12_isPerson.cls ≠ "java/lang/invoke/VarHandle" ∧ (parseMethodDescriptor yX12_isPerson.desc).map (fun d => d.parameters.length) = some 1 := by decide +kernel
set_option maxRecDepth 100000 in
theorem snd_12_isPerson : am_Sound yX12_isPerson cX12_isPerson 1 (some .boolean) 1 25 S12_isPerson :=
  am_sound_of (own := RX12) (by decide) rfl <|
    fm_c (si_iloadn dX12_isPerson_0 rfl) <|
    fm_c (si_i2l dX12_isPerson_1) <|
    fm_c (si_lconst0 dX12_isPerson_2) <|
    fm_c (si_ldc2 dX12_isPerson_3 tw_1142 rfl) <|
    fm_c (si_call snd_12_in dX12_isPerson_6 tw_1068 tw_1069 tw_78 tw_1070 hdd_12_in ⟨rfl, rfl⟩) <|
    fm_c (si_zret rfl dX12_isPerson_9) <|
    fun _ h => absurd h List.not_mem_nil
def K12_grip : List (Nat × am_O) := [(0, o_iload 1 1),
  (1, o_call S12_isPerson 1 false 4),
  (4, o_if (fun a => a = 0) 31 7),
  (7, o_iload 2 8),
  (8, o_call S12_isPerson 1 false 11),
  (11, o_if (fun a => a = 0) 31 14),
  (14, o_iload 1 15),
  (15, o_iload 2 16),
  (16, o_ic (fun a b => a = b) 31 19),
  (19, o_iload 3 20),
  (20, o_i2l 21),
  (21, o_push (aL 0) 22),
  (22, o_push (aL 16) 25),
  (25, o_call S12_in 3 false 28),
  (28, o_if (fun a => ¬ a = 0) 34 31),
  (31, o_push (aI (-2)) 33),
  (33, o_iret),
  (34, o_aload 0 35),
  (35, o_getf 12 14 38),
  (38, o_push (aI 5) 39),
  (39, o_iload 1 40),
  (40, o_bin (fun a b => w32 (a * b)) 41),
  (41, o_iload 2 42),
  (42, o_bin (fun a b => w32 (a + b)) 43),
  (43, o_iald 44),
  (44, o_istore 4 46),
  (46, o_aload 0 47),
  (47, o_getf 12 14 50),
  (50, o_push (aI 5) 51),
  (51, o_iload 1 52),
  (52, o_bin (fun a b => w32 (a * b)) 53),
  (53, o_iload 2 54),
  (54, o_bin (fun a b => w32 (a + b)) 55),
  (55, o_iload 3 56),
  (56, o_iast 57),
  (57, o_aload 0 58),
  (58, o_getf 12 14 61),
  (61, o_push (aI 5) 62),
  (62, o_iload 2 63),
  (63, o_bin (fun a b => w32 (a * b)) 64),
  (64, o_iload 1 65),
  (65, o_bin (fun a b => w32 (a + b)) 66),
  (66, o_iload 3 67),
  (67, o_iast 68),
  (68, o_iload 4 70),
  (70, o_iret)]
def S12_grip : am_E := am_S K12_grip 5
theorem hdd_12_grip : yX12_grip.cls ≠ "java/lang/invoke/MethodHandle" ∧ yX12_grip.cls ≠ "java/lang/invoke/VarHandle" ∧ (parseMethodDescriptor yX12_grip.desc).map (fun d => d.parameters.length) = some 3 := by decide +kernel
set_option maxRecDepth 100000 in
theorem snd_12_grip : am_Sound yX12_grip cX12_grip 5 (some .int) 2 45 S12_grip :=
  am_sound_of (own := RX12) (by decide) rfl <|
    fm_c (si_iloadn dX12_grip_0 rfl) <|
    fm_c (si_call snd_12_isPerson dX12_grip_1 tw_1162 tw_1163 tw_78 tw_1164 hdd_12_isPerson ⟨rfl, rfl⟩) <|
    fm_c (si_if_eq dX12_grip_4 rfl) <|
    fm_c (si_iloadn dX12_grip_7 rfl) <|
    fm_c (si_call snd_12_isPerson dX12_grip_8 tw_1162 tw_1163 tw_78 tw_1164 hdd_12_isPerson ⟨rfl, rfl⟩) <|
    fm_c (si_if_eq dX12_grip_11 rfl) <|
    fm_c (si_iloadn dX12_grip_14 rfl) <|
    fm_c (si_iloadn dX12_grip_15 rfl) <|
    fm_c (si_ic_eq dX12_grip_16 rfl) <|
    fm_c (si_iloadn dX12_grip_19 rfl) <|
    fm_c (si_i2l dX12_grip_20) <|
    fm_c (si_lconst0 dX12_grip_21) <|
    fm_c (si_ldc2 dX12_grip_22 tw_1165 rfl) <|
    fm_c (si_call snd_12_in dX12_grip_25 tw_1068 tw_1069 tw_78 tw_1070 hdd_12_in ⟨rfl, rfl⟩) <|
    fm_c (si_if_ne dX12_grip_28 rfl) <|
    fm_c (si_bipush dX12_grip_31 rfl) <|
    fm_c (si_iret rfl dX12_grip_33) <|
    fm_c (si_aloadn dX12_grip_34 rfl) <|
    fm_c (si_getf (C := RX12) (T := TX12) (N := 34) dX12_grip_35 rfl inC_12 rfl tw_971) <|
    fm_c (si_iconst dX12_grip_38 rfl) <|
    fm_c (si_iloadn dX12_grip_39 rfl) <|
    fm_c (si_imul dX12_grip_40) <|
    fm_c (si_iloadn dX12_grip_41 rfl) <|
    fm_c (si_iadd dX12_grip_42) <|
    fm_c (si_iald dX12_grip_43) <|
    fm_c (si_istore dX12_grip_44 rfl) <|
    fm_c (si_aloadn dX12_grip_46 rfl) <|
    fm_c (si_getf (C := RX12) (T := TX12) (N := 34) dX12_grip_47 rfl inC_12 rfl tw_971) <|
    fm_c (si_iconst dX12_grip_50 rfl) <|
    fm_c (si_iloadn dX12_grip_51 rfl) <|
    fm_c (si_imul dX12_grip_52) <|
    fm_c (si_iloadn dX12_grip_53 rfl) <|
    fm_c (si_iadd dX12_grip_54) <|
    fm_c (si_iloadn dX12_grip_55 rfl) <|
    fm_c (si_iast dX12_grip_56) <|
    fm_c (si_aloadn dX12_grip_57 rfl) <|
    fm_c (si_getf (C := RX12) (T := TX12) (N := 34) dX12_grip_58 rfl inC_12 rfl tw_971) <|
    fm_c (si_iconst dX12_grip_61 rfl) <|
    fm_c (si_iloadn dX12_grip_62 rfl) <|
    fm_c (si_imul dX12_grip_63) <|
    fm_c (si_iloadn dX12_grip_64 rfl) <|
    fm_c (si_iadd dX12_grip_65) <|
    fm_c (si_iloadn dX12_grip_66 rfl) <|
    fm_c (si_iast dX12_grip_67) <|
    fm_c (si_iload dX12_grip_68) <|
    fm_c (si_iret rfl dX12_grip_70) <|
    fun _ h => absurd h List.not_mem_nil
def K12_lay : List (Nat × am_O) := [(0, o_iload 1 1),
  (1, o_call S12_isSheet 1 false 4),
  (4, o_if (fun a => a = 0) 19 7),
  (7, o_iload 2 8),
  (8, o_i2l 9),
  (9, o_push (aL 0) 10),
  (10, o_push (aL 2) 13),
  (13, o_call S12_in 3 false 16),
  (16, o_if (fun a => ¬ a = 0) 22 19),
  (19, o_push (aI (-2)) 21),
  (21, o_iret),
  (22, o_aload 0 23),
  (23, o_iload 1 24),
  (24, o_iload 2 25),
  (25, o_iload 3 26),
  (26, o_callv S12_lacks 12 3 false 29),
  (29, o_istore 5 31),
  (31, o_iload 5 33),
  (33, o_if (fun a => a = 0) 39 36),
  (36, o_iload 5 38),
  (38, o_iret),
  (39, o_aload 0 40),
  (40, o_getf 12 2 43),
  (43, o_push (aI 64) 45),
  (45, o_iload 1 46),
  (46, o_bin (fun a b => w32 (a * b)) 47),
  (47, o_iload 3 48),
  (48, o_bin (fun a b => w32 (a + b)) 49),
  (49, o_iload 2 50),
  (50, o_iload 4 52),
  (52, o_call S12_cut 2 false 55),
  (55, o_iast 56),
  (56, o_push (aI 1) 57),
  (57, o_iret)]
def S12_lay : am_E := am_S K12_lay 6
theorem hdd_12_lay : yX12_lay.cls ≠ "java/lang/invoke/MethodHandle" ∧ yX12_lay.cls ≠ "java/lang/invoke/VarHandle" ∧ (parseMethodDescriptor yX12_lay.desc).map (fun d => d.parameters.length) = some 4 := by decide +kernel
set_option maxRecDepth 100000 in
theorem snd_12_lay : am_Sound yX12_lay cX12_lay 6 (some .int) 2 48 S12_lay :=
  am_sound_of (own := RX12) (by decide) rfl <|
    fm_c (si_iloadn dX12_lay_0 rfl) <|
    fm_c (si_call snd_12_isSheet dX12_lay_1 tw_1064 tw_1065 tw_78 tw_1066 hdd_12_isSheet ⟨rfl, rfl⟩) <|
    fm_c (si_if_eq dX12_lay_4 rfl) <|
    fm_c (si_iloadn dX12_lay_7 rfl) <|
    fm_c (si_i2l dX12_lay_8) <|
    fm_c (si_lconst0 dX12_lay_9) <|
    fm_c (si_ldc2 dX12_lay_10 tw_1071 rfl) <|
    fm_c (si_call snd_12_in dX12_lay_13 tw_1068 tw_1069 tw_78 tw_1070 hdd_12_in ⟨rfl, rfl⟩) <|
    fm_c (si_if_ne dX12_lay_16 rfl) <|
    fm_c (si_bipush dX12_lay_19 rfl) <|
    fm_c (si_iret rfl dX12_lay_21) <|
    fm_c (si_aloadn dX12_lay_22 rfl) <|
    fm_c (si_iloadn dX12_lay_23 rfl) <|
    fm_c (si_iloadn dX12_lay_24 rfl) <|
    fm_c (si_iloadn dX12_lay_25 rfl) <|
    fm_c (si_callv (C := RX12) (T := TX12) (N := 34) snd_12_lacks rfl dX12_lay_26 tw_1084 tw_1086 tw_28 tw_78 tw_1087 hdd_12_lacks ⟨rfl, rfl⟩) <|
    fm_c (si_istore dX12_lay_29 rfl) <|
    fm_c (si_iload dX12_lay_31) <|
    fm_c (si_if_eq dX12_lay_33 rfl) <|
    fm_c (si_iload dX12_lay_36) <|
    fm_c (si_iret rfl dX12_lay_38) <|
    fm_c (si_aloadn dX12_lay_39 rfl) <|
    fm_c (si_getf (C := RX12) (T := TX12) (N := 34) dX12_lay_40 rfl inC_12 rfl tw_959) <|
    fm_c (si_bipush dX12_lay_43 rfl) <|
    fm_c (si_iloadn dX12_lay_45 rfl) <|
    fm_c (si_imul dX12_lay_46) <|
    fm_c (si_iloadn dX12_lay_47 rfl) <|
    fm_c (si_iadd dX12_lay_48) <|
    fm_c (si_iloadn dX12_lay_49 rfl) <|
    fm_c (si_iload dX12_lay_50) <|
    fm_c (si_call snd_12_cut dX12_lay_52 tw_1088 tw_1089 tw_78 tw_1090 hdd_12_cut ⟨rfl, rfl⟩) <|
    fm_c (si_iast dX12_lay_55) <|
    fm_c (si_iconst dX12_lay_56 rfl) <|
    fm_c (si_iret rfl dX12_lay_57) <|
    fun _ h => absurd h List.not_mem_nil
def K12_look : List (Nat × am_O) := [(0, o_iload 1 1),
  (1, o_i2l 2),
  (2, o_push (aL 0) 3),
  (3, o_push (aL 63) 6),
  (6, o_call S12_in 3 false 9),
  (9, o_if (fun a => a = 0) 24 12),
  (12, o_iload 2 13),
  (13, o_i2l 14),
  (14, o_push (aL 1) 15),
  (15, o_push (aL 9) 18),
  (18, o_call S12_in 3 false 21),
  (21, o_if (fun a => ¬ a = 0) 27 24),
  (24, o_push (aI (-2)) 26),
  (26, o_iret),
  (27, o_aload 0 28),
  (28, o_getf 12 28 31),
  (31, o_push (aI 5) 32),
  (32, o_ic (fun a b => ¬ a = b) 38 35),
  (35, o_push (aI (-4)) 37),
  (37, o_iret),
  (38, o_aload 0 39),
  (39, o_getf 12 29 42),
  (42, o_push (aI 2) 43),
  (43, o_aload 0 44),
  (44, o_getf 12 28 47),
  (47, o_bin (fun a b => w32 (a * b)) 48),
  (48, o_iload 1 49),
  (49, o_iast 50),
  (50, o_aload 0 51),
  (51, o_getf 12 29 54),
  (54, o_push (aI 2) 55),
  (55, o_aload 0 56),
  (56, o_getf 12 28 59),
  (59, o_bin (fun a b => w32 (a * b)) 60),
  (60, o_push (aI 1) 61),
  (61, o_bin (fun a b => w32 (a + b)) 62),
  (62, o_iload 2 63),
  (63, o_iast 64),
  (64, o_aload 0 65),
  (65, o_dup 66),
  (66, o_getf 12 28 69),
  (69, o_push (aI 1) 70),
  (70, o_bin (fun a b => w32 (a + b)) 71),
  (71, o_putI 12 28 74),
  (74, o_aload 0 75),
  (75, o_getf 12 28 78),
  (78, o_iret)]
def S12_look : am_E := am_S K12_look 3
theorem hdd_12_look : yX12_look.cls ≠ "java/lang/invoke/MethodHandle" ∧ yX12_look.cls ≠ "java/lang/invoke/VarHandle" ∧ (parseMethodDescriptor yX12_look.desc).map (fun d => d.parameters.length) = some 2 := by decide +kernel
set_option maxRecDepth 100000 in
theorem snd_12_look : am_Sound yX12_look cX12_look 3 (some .int) 1 25 S12_look :=
  am_sound_of (own := RX12) (by decide) rfl <|
    fm_c (si_iloadn dX12_look_0 rfl) <|
    fm_c (si_i2l dX12_look_1) <|
    fm_c (si_lconst0 dX12_look_2) <|
    fm_c (si_ldc2 dX12_look_3 tw_1157 rfl) <|
    fm_c (si_call snd_12_in dX12_look_6 tw_1068 tw_1069 tw_78 tw_1070 hdd_12_in ⟨rfl, rfl⟩) <|
    fm_c (si_if_eq dX12_look_9 rfl) <|
    fm_c (si_iloadn dX12_look_12 rfl) <|
    fm_c (si_i2l dX12_look_13) <|
    fm_c (si_lconst1 dX12_look_14) <|
    fm_c (si_ldc2 dX12_look_15 tw_1353 rfl) <|
    fm_c (si_call snd_12_in dX12_look_18 tw_1068 tw_1069 tw_78 tw_1070 hdd_12_in ⟨rfl, rfl⟩) <|
    fm_c (si_if_ne dX12_look_21 rfl) <|
    fm_c (si_bipush dX12_look_24 rfl) <|
    fm_c (si_iret rfl dX12_look_26) <|
    fm_c (si_aloadn dX12_look_27 rfl) <|
    fm_c (si_getf (C := RX12) (T := TX12) (N := 34) dX12_look_28 rfl inC_12 rfl tw_985) <|
    fm_c (si_iconst dX12_look_31 rfl) <|
    fm_c (si_ic_ne dX12_look_32 rfl) <|
    fm_c (si_bipush dX12_look_35 rfl) <|
    fm_c (si_iret rfl dX12_look_37) <|
    fm_c (si_aloadn dX12_look_38 rfl) <|
    fm_c (si_getf (C := RX12) (T := TX12) (N := 34) dX12_look_39 rfl inC_12 rfl tw_986) <|
    fm_c (si_iconst dX12_look_42 rfl) <|
    fm_c (si_aloadn dX12_look_43 rfl) <|
    fm_c (si_getf (C := RX12) (T := TX12) (N := 34) dX12_look_44 rfl inC_12 rfl tw_985) <|
    fm_c (si_imul dX12_look_47) <|
    fm_c (si_iloadn dX12_look_48 rfl) <|
    fm_c (si_iast dX12_look_49) <|
    fm_c (si_aloadn dX12_look_50 rfl) <|
    fm_c (si_getf (C := RX12) (T := TX12) (N := 34) dX12_look_51 rfl inC_12 rfl tw_986) <|
    fm_c (si_iconst dX12_look_54 rfl) <|
    fm_c (si_aloadn dX12_look_55 rfl) <|
    fm_c (si_getf (C := RX12) (T := TX12) (N := 34) dX12_look_56 rfl inC_12 rfl tw_985) <|
    fm_c (si_imul dX12_look_59) <|
    fm_c (si_iconst dX12_look_60 rfl) <|
    fm_c (si_iadd dX12_look_61) <|
    fm_c (si_iloadn dX12_look_62 rfl) <|
    fm_c (si_iast dX12_look_63) <|
    fm_c (si_aloadn dX12_look_64 rfl) <|
    fm_c (si_dup dX12_look_65) <|
    fm_c (si_getf (C := RX12) (T := TX12) (N := 34) dX12_look_66 rfl inC_12 rfl tw_985) <|
    fm_c (si_iconst dX12_look_69 rfl) <|
    fm_c (si_iadd dX12_look_70) <|
    fm_c (si_putI (C := RX12) (T := TX12) (N := 34) dX12_look_71 rfl inC_12 tyX12 tyX12_ok nmX12 rfl tw_985 rfl (tyX12_ok 28 (by decide))) <|
    fm_c (si_aloadn dX12_look_74 rfl) <|
    fm_c (si_getf (C := RX12) (T := TX12) (N := 34) dX12_look_75 rfl inC_12 rfl tw_985) <|
    fm_c (si_iret rfl dX12_look_78) <|
    fun _ h => absurd h List.not_mem_nil
def K12_loose : List (Nat × am_O) := [(0, o_aload 0 1),
  (1, o_callv S12_reads 12 0 true 4),
  (4, o_aload 0 5),
  (5, o_callv S12_looseNow 12 0 false 8),
  (8, o_iret)]
def S12_loose : am_E := am_S K12_loose 1
theorem hdd_12_loose : yX12_loose.cls ≠ "java/lang/invoke/MethodHandle" ∧ yX12_loose.cls ≠ "java/lang/invoke/VarHandle" ∧ (parseMethodDescriptor yX12_loose.desc).map (fun d => d.parameters.length) = some 0 := by decide +kernel
set_option maxRecDepth 100000 in
theorem snd_12_loose : am_Sound yX12_loose cX12_loose 1 (some .int) 4 94 S12_loose :=
  am_sound_of (own := RX12) (by decide) rfl <|
    fm_c (si_aloadn dX12_loose_0 rfl) <|
    fm_c (si_callv (C := RX12) (T := TX12) (N := 34) snd_12_reads rfl dX12_loose_1 tw_1182 tw_1184 tw_35 tw_78 tw_1185 hdd_12_reads ⟨rfl, rfl⟩) <|
    fm_c (si_aloadn dX12_loose_4 rfl) <|
    fm_c (si_callv (C := RX12) (T := TX12) (N := 34) snd_12_looseNow rfl dX12_loose_5 tw_1240 tw_1242 tw_43 tw_78 tw_1243 hdd_12_looseNow ⟨rfl, rfl⟩) <|
    fm_c (si_iret rfl dX12_loose_8) <|
    fun _ h => absurd h List.not_mem_nil
def K12_lose : List (Nat × am_O) := [(0, o_iload 1 1),
  (1, o_call S12_isSheet 1 false 4),
  (4, o_if (fun a => ¬ a = 0) 10 7),
  (7, o_push (aI (-2)) 9),
  (9, o_iret),
  (10, o_aload 0 11),
  (11, o_getf 12 0 14),
  (14, o_iload 1 15),
  (15, o_iald 16),
  (16, o_if (fun a => 0 ≤ a) 25 19),
  (19, o_aload 0 20),
  (20, o_push (aI 1) 21),
  (21, o_callv S12_met 12 1 false 24),
  (24, o_iret),
  (25, o_aload 0 26),
  (26, o_getf 12 0 29),
  (29, o_iload 1 30),
  (30, o_push (aI (-1)) 31),
  (31, o_iast 32),
  (32, o_aload 0 33),
  (33, o_getf 12 1 36),
  (36, o_iload 1 37),
  (37, o_iald 38),
  (38, o_iret)]
def S12_lose : am_E := am_S K12_lose 2
theorem hdd_12_lose : yX12_lose.cls ≠ "java/lang/invoke/MethodHandle" ∧ yX12_lose.cls ≠ "java/lang/invoke/VarHandle" ∧ (parseMethodDescriptor yX12_lose.desc).map (fun d => d.parameters.length) = some 1 := by decide +kernel
set_option maxRecDepth 100000 in
theorem snd_12_lose : am_Sound yX12_lose cX12_lose 2 (some .int) 2 45 S12_lose :=
  am_sound_of (own := RX12) (by decide) rfl <|
    fm_c (si_iloadn dX12_lose_0 rfl) <|
    fm_c (si_call snd_12_isSheet dX12_lose_1 tw_1064 tw_1065 tw_78 tw_1066 hdd_12_isSheet ⟨rfl, rfl⟩) <|
    fm_c (si_if_ne dX12_lose_4 rfl) <|
    fm_c (si_bipush dX12_lose_7 rfl) <|
    fm_c (si_iret rfl dX12_lose_9) <|
    fm_c (si_aloadn dX12_lose_10 rfl) <|
    fm_c (si_getf (C := RX12) (T := TX12) (N := 34) dX12_lose_11 rfl inC_12 rfl tw_957) <|
    fm_c (si_iloadn dX12_lose_14 rfl) <|
    fm_c (si_iald dX12_lose_15) <|
    fm_c (si_if_ge dX12_lose_16 rfl) <|
    fm_c (si_aloadn dX12_lose_19 rfl) <|
    fm_c (si_iconst dX12_lose_20 rfl) <|
    fm_c (si_callv (C := RX12) (T := TX12) (N := 34) snd_12_met rfl dX12_lose_21 tw_1072 tw_1074 tw_27 tw_78 tw_1075 hdd_12_met ⟨rfl, rfl⟩) <|
    fm_c (si_iret rfl dX12_lose_24) <|
    fm_c (si_aloadn dX12_lose_25 rfl) <|
    fm_c (si_getf (C := RX12) (T := TX12) (N := 34) dX12_lose_26 rfl inC_12 rfl tw_957) <|
    fm_c (si_iloadn dX12_lose_29 rfl) <|
    fm_c (si_iconst dX12_lose_30 rfl) <|
    fm_c (si_iast dX12_lose_31) <|
    fm_c (si_aloadn dX12_lose_32 rfl) <|
    fm_c (si_getf (C := RX12) (T := TX12) (N := 34) dX12_lose_33 rfl inC_12 rfl tw_958) <|
    fm_c (si_iloadn dX12_lose_36 rfl) <|
    fm_c (si_iald dX12_lose_37) <|
    fm_c (si_iret rfl dX12_lose_38) <|
    fun _ h => absurd h List.not_mem_nil
def K12_meet : List (Nat × am_O) := [(0, o_aload 0 1),
  (1, o_callv S12_reads 12 0 true 4),
  (4, o_iload 1 5),
  (5, o_i2l 6),
  (6, o_push (aL 1) 7),
  (7, o_push (aL 31) 10),
  (10, o_call S12_in 3 false 13),
  (13, o_if (fun a => a = 0) 32 16),
  (16, o_iload 2 17),
  (17, o_call S12_isTwo 1 false 20),
  (20, o_if (fun a => a = 0) 32 23),
  (23, o_aload 0 24),
  (24, o_iload 1 25),
  (25, o_iload 2 26),
  (26, o_callv S12_meetOf 12 2 false 29),
  (29, o_goto 34),
  (32, o_push (aI (-2)) 34),
  (34, o_iret)]
def S12_meet : am_E := am_S K12_meet 3
theorem hdd_12_meet : yX12_meet.cls ≠ "java/lang/invoke/MethodHandle" ∧ yX12_meet.cls ≠ "java/lang/invoke/VarHandle" ∧ (parseMethodDescriptor yX12_meet.desc).map (fun d => d.parameters.length) = some 2 := by decide +kernel
set_option maxRecDepth 100000 in
theorem snd_12_meet : am_Sound yX12_meet cX12_meet 3 (some .int) 4 104 S12_meet :=
  am_sound_of (own := RX12) (by decide) rfl <|
    fm_c (si_aloadn dX12_meet_0 rfl) <|
    fm_c (si_callv (C := RX12) (T := TX12) (N := 34) snd_12_reads rfl dX12_meet_1 tw_1182 tw_1184 tw_35 tw_78 tw_1185 hdd_12_reads ⟨rfl, rfl⟩) <|
    fm_c (si_iloadn dX12_meet_4 rfl) <|
    fm_c (si_i2l dX12_meet_5) <|
    fm_c (si_lconst1 dX12_meet_6) <|
    fm_c (si_ldc2 dX12_meet_7 tw_1260 rfl) <|
    fm_c (si_call snd_12_in dX12_meet_10 tw_1068 tw_1069 tw_78 tw_1070 hdd_12_in ⟨rfl, rfl⟩) <|
    fm_c (si_if_eq dX12_meet_13 rfl) <|
    fm_c (si_iloadn dX12_meet_16 rfl) <|
    fm_c (si_call snd_12_isTwo dX12_meet_17 tw_1170 tw_1171 tw_78 tw_1172 hdd_12_isTwo ⟨rfl, rfl⟩) <|
    fm_c (si_if_eq dX12_meet_20 rfl) <|
    fm_c (si_aloadn dX12_meet_23 rfl) <|
    fm_c (si_iloadn dX12_meet_24 rfl) <|
    fm_c (si_iloadn dX12_meet_25 rfl) <|
    fm_c (si_callv (C := RX12) (T := TX12) (N := 34) snd_12_meetOf rfl dX12_meet_26 tw_1391 tw_1393 tw_63 tw_78 tw_1394 hdd_12_meetOf ⟨rfl, rfl⟩) <|
    fm_c (si_goto dX12_meet_29 rfl) <|
    fm_c (si_bipush dX12_meet_32 rfl) <|
    fm_c (si_iret rfl dX12_meet_34) <|
    fun _ h => absurd h List.not_mem_nil
def K12_order : List (Nat × am_O) := [(0, o_aload 0 1),
  (1, o_callv S12_reads 12 0 true 4),
  (4, o_iload 1 5),
  (5, o_i2l 6),
  (6, o_push (aL 0) 7),
  (7, o_push (aL 4) 10),
  (10, o_call S12_in 3 false 13),
  (13, o_if (fun a => a = 0) 24 16),
  (16, o_aload 0 17),
  (17, o_iload 1 18),
  (18, o_callv S12_orderOf 12 1 false 21),
  (21, o_goto 26),
  (24, o_push (aI (-2)) 26),
  (26, o_iret)]
def S12_order : am_E := am_S K12_order 2
theorem hdd_12_order : yX12_order.cls ≠ "java/lang/invoke/MethodHandle" ∧ yX12_order.cls ≠ "java/lang/invoke/VarHandle" ∧ (parseMethodDescriptor yX12_order.desc).map (fun d => d.parameters.length) = some 1 := by decide +kernel
set_option maxRecDepth 100000 in
theorem snd_12_order : am_Sound yX12_order cX12_order 2 (some .int) 4 94 S12_order :=
  am_sound_of (own := RX12) (by decide) rfl <|
    fm_c (si_aloadn dX12_order_0 rfl) <|
    fm_c (si_callv (C := RX12) (T := TX12) (N := 34) snd_12_reads rfl dX12_order_1 tw_1182 tw_1184 tw_35 tw_78 tw_1185 hdd_12_reads ⟨rfl, rfl⟩) <|
    fm_c (si_iloadn dX12_order_4 rfl) <|
    fm_c (si_i2l dX12_order_5) <|
    fm_c (si_lconst0 dX12_order_6) <|
    fm_c (si_ldc2 dX12_order_7 tw_1142 rfl) <|
    fm_c (si_call snd_12_in dX12_order_10 tw_1068 tw_1069 tw_78 tw_1070 hdd_12_in ⟨rfl, rfl⟩) <|
    fm_c (si_if_eq dX12_order_13 rfl) <|
    fm_c (si_aloadn dX12_order_16 rfl) <|
    fm_c (si_iloadn dX12_order_17 rfl) <|
    fm_c (si_callv (C := RX12) (T := TX12) (N := 34) snd_12_orderOf rfl dX12_order_18 tw_1232 tw_1234 tw_42 tw_78 tw_1235 hdd_12_orderOf ⟨rfl, rfl⟩) <|
    fm_c (si_goto dX12_order_21 rfl) <|
    fm_c (si_bipush dX12_order_24 rfl) <|
    fm_c (si_iret rfl dX12_order_26) <|
    fun _ h => absurd h List.not_mem_nil
def K12_parted : List (Nat × am_O) := [(0, o_aload 0 1),
  (1, o_callv S12_reads 12 0 true 4),
  (4, o_iload 1 5),
  (5, o_call S12_isPerson 1 false 8),
  (8, o_if (fun a => a = 0) 45 11),
  (11, o_iload 2 12),
  (12, o_call S12_isPerson 1 false 15),
  (15, o_if (fun a => a = 0) 45 18),
  (18, o_iload 1 19),
  (19, o_iload 2 20),
  (20, o_ic (fun a b => a = b) 45 23),
  (23, o_iload 3 24),
  (24, o_i2l 25),
  (25, o_push (aL 0) 26),
  (26, o_push (aL 2) 29),
  (29, o_call S12_in 3 false 32),
  (32, o_if (fun a => a = 0) 45 35),
  (35, o_aload 0 36),
  (36, o_iload 1 37),
  (37, o_iload 2 38),
  (38, o_iload 3 39),
  (39, o_callv S12_partedOf 12 3 false 42),
  (42, o_goto 50),
  (45, o_push (aI (-2)) 47),
  (47, o_call S12_no 1 false 50),
  (50, o_lret)]
def S12_parted : am_E := am_S K12_parted 4
theorem hdd_12_parted : yX12_parted.cls ≠ "java/lang/invoke/MethodHandle" ∧ yX12_parted.cls ≠ "java/lang/invoke/VarHandle" ∧ (parseMethodDescriptor yX12_parted.desc).map (fun d => d.parameters.length) = some 3 := by decide +kernel
set_option maxRecDepth 100000 in
theorem snd_12_parted : am_Sound yX12_parted cX12_parted 4 (some .long) 5 128 S12_parted :=
  am_sound_of (own := RX12) (by decide) rfl <|
    fm_c (si_aloadn dX12_parted_0 rfl) <|
    fm_c (si_callv (C := RX12) (T := TX12) (N := 34) snd_12_reads rfl dX12_parted_1 tw_1182 tw_1184 tw_35 tw_78 tw_1185 hdd_12_reads ⟨rfl, rfl⟩) <|
    fm_c (si_iloadn dX12_parted_4 rfl) <|
    fm_c (si_call snd_12_isPerson dX12_parted_5 tw_1162 tw_1163 tw_78 tw_1164 hdd_12_isPerson ⟨rfl, rfl⟩) <|
    fm_c (si_if_eq dX12_parted_8 rfl) <|
    fm_c (si_iloadn dX12_parted_11 rfl) <|
    fm_c (si_call snd_12_isPerson dX12_parted_12 tw_1162 tw_1163 tw_78 tw_1164 hdd_12_isPerson ⟨rfl, rfl⟩) <|
    fm_c (si_if_eq dX12_parted_15 rfl) <|
    fm_c (si_iloadn dX12_parted_18 rfl) <|
    fm_c (si_iloadn dX12_parted_19 rfl) <|
    fm_c (si_ic_eq dX12_parted_20 rfl) <|
    fm_c (si_iloadn dX12_parted_23 rfl) <|
    fm_c (si_i2l dX12_parted_24) <|
    fm_c (si_lconst0 dX12_parted_25) <|
    fm_c (si_ldc2 dX12_parted_26 tw_1071 rfl) <|
    fm_c (si_call snd_12_in dX12_parted_29 tw_1068 tw_1069 tw_78 tw_1070 hdd_12_in ⟨rfl, rfl⟩) <|
    fm_c (si_if_eq dX12_parted_32 rfl) <|
    fm_c (si_aloadn dX12_parted_35 rfl) <|
    fm_c (si_iloadn dX12_parted_36 rfl) <|
    fm_c (si_iloadn dX12_parted_37 rfl) <|
    fm_c (si_iloadn dX12_parted_38 rfl) <|
    fm_c (si_callv (C := RX12) (T := TX12) (N := 34) snd_12_partedOf rfl dX12_parted_39 tw_1383 tw_1385 tw_62 tw_78 tw_1386 hdd_12_partedOf ⟨rfl, rfl⟩) <|
    fm_c (si_goto dX12_parted_42 rfl) <|
    fm_c (si_bipush dX12_parted_45 rfl) <|
    fm_c (si_call snd_12_no dX12_parted_47 tw_1282 tw_1283 tw_78 tw_1284 hdd_12_no ⟨rfl, rfl⟩) <|
    fm_c (si_lret rfl dX12_parted_50) <|
    fun _ h => absurd h List.not_mem_nil
def K12_person : List (Nat × am_O) := [(0, o_iload 1 1),
  (1, o_call S12_isPerson 1 false 4),
  (4, o_if (fun a => a = 0) 36 7),
  (7, o_iload 2 8),
  (8, o_call S12_isTwo 1 false 11),
  (11, o_if (fun a => a = 0) 36 14),
  (14, o_iload 3 15),
  (15, o_i2l 16),
  (16, o_push (aL 0) 17),
  (17, o_iload 2 18),
  (18, o_if (fun a => ¬ a = 0) 27 21),
  (21, o_push (aL 16) 24),
  (24, o_goto 30),
  (27, o_push (aL 63) 30),
  (30, o_call S12_in 3 false 33),
  (33, o_if (fun a => ¬ a = 0) 39 36),
  (36, o_push (aI (-2)) 38),
  (38, o_iret),
  (39, o_iload 2 40),
  (40, o_if (fun a => ¬ a = 0) 52 43),
  (43, o_aload 0 44),
  (44, o_getf 12 15 47),
  (47, o_iload 1 48),
  (48, o_iald 49),
  (49, o_goto 58),
  (52, o_aload 0 53),
  (53, o_getf 12 16 56),
  (56, o_iload 1 57),
  (57, o_iald 58),
  (58, o_istore 4 60),
  (60, o_aload 0 61),
  (61, o_getf 12 15 64),
  (64, o_iload 1 65),
  (65, o_iload 2 66),
  (66, o_if (fun a => ¬ a = 0) 73 69),
  (69, o_iload 3 70),
  (70, o_goto 79),
  (73, o_aload 0 74),
  (74, o_getf 12 15 77),
  (77, o_iload 1 78),
  (78, o_iald 79),
  (79, o_iast 80),
  (80, o_aload 0 81),
  (81, o_getf 12 16 84),
  (84, o_iload 1 85),
  (85, o_iload 2 86),
  (86, o_push (aI 1) 87),
  (87, o_ic (fun a b => ¬ a = b) 94 90),
  (90, o_iload 3 91),
  (91, o_goto 100),
  (94, o_aload 0 95),
  (95, o_getf 12 16 98),
  (98, o_iload 1 99),
  (99, o_iald 100),
  (100, o_iast 101),
  (101, o_iload 4 103),
  (103, o_iret)]
def S12_person : am_E := am_S K12_person 5
theorem hdd_12_person : yX12_person.cls ≠ "java/lang/invoke/MethodHandle" ∧ yX12_person.cls ≠ "java/lang/invoke/VarHandle" ∧ (parseMethodDescriptor yX12_person.desc).map (fun d => d.parameters.length) = some 3 := by decide +kernel
set_option maxRecDepth 100000 in
theorem snd_12_person : am_Sound yX12_person cX12_person 5 (some .int) 2 45 S12_person :=
  am_sound_of (own := RX12) (by decide) rfl <|
    fm_c (si_iloadn dX12_person_0 rfl) <|
    fm_c (si_call snd_12_isPerson dX12_person_1 tw_1162 tw_1163 tw_78 tw_1164 hdd_12_isPerson ⟨rfl, rfl⟩) <|
    fm_c (si_if_eq dX12_person_4 rfl) <|
    fm_c (si_iloadn dX12_person_7 rfl) <|
    fm_c (si_call snd_12_isTwo dX12_person_8 tw_1170 tw_1171 tw_78 tw_1172 hdd_12_isTwo ⟨rfl, rfl⟩) <|
    fm_c (si_if_eq dX12_person_11 rfl) <|
    fm_c (si_iloadn dX12_person_14 rfl) <|
    fm_c (si_i2l dX12_person_15) <|
    fm_c (si_lconst0 dX12_person_16) <|
    fm_c (si_iloadn dX12_person_17 rfl) <|
    fm_c (si_if_ne dX12_person_18 rfl) <|
    fm_c (si_ldc2 dX12_person_21 tw_1165 rfl) <|
    fm_c (si_goto dX12_person_24 rfl) <|
    fm_c (si_ldc2 dX12_person_27 tw_1157 rfl) <|
    fm_c (si_call snd_12_in dX12_person_30 tw_1068 tw_1069 tw_78 tw_1070 hdd_12_in ⟨rfl, rfl⟩) <|
    fm_c (si_if_ne dX12_person_33 rfl) <|
    fm_c (si_bipush dX12_person_36 rfl) <|
    fm_c (si_iret rfl dX12_person_38) <|
    fm_c (si_iloadn dX12_person_39 rfl) <|
    fm_c (si_if_ne dX12_person_40 rfl) <|
    fm_c (si_aloadn dX12_person_43 rfl) <|
    fm_c (si_getf (C := RX12) (T := TX12) (N := 34) dX12_person_44 rfl inC_12 rfl tw_972) <|
    fm_c (si_iloadn dX12_person_47 rfl) <|
    fm_c (si_iald dX12_person_48) <|
    fm_c (si_goto dX12_person_49 rfl) <|
    fm_c (si_aloadn dX12_person_52 rfl) <|
    fm_c (si_getf (C := RX12) (T := TX12) (N := 34) dX12_person_53 rfl inC_12 rfl tw_973) <|
    fm_c (si_iloadn dX12_person_56 rfl) <|
    fm_c (si_iald dX12_person_57) <|
    fm_c (si_istore dX12_person_58 rfl) <|
    fm_c (si_aloadn dX12_person_60 rfl) <|
    fm_c (si_getf (C := RX12) (T := TX12) (N := 34) dX12_person_61 rfl inC_12 rfl tw_972) <|
    fm_c (si_iloadn dX12_person_64 rfl) <|
    fm_c (si_iloadn dX12_person_65 rfl) <|
    fm_c (si_if_ne dX12_person_66 rfl) <|
    fm_c (si_iloadn dX12_person_69 rfl) <|
    fm_c (si_goto dX12_person_70 rfl) <|
    fm_c (si_aloadn dX12_person_73 rfl) <|
    fm_c (si_getf (C := RX12) (T := TX12) (N := 34) dX12_person_74 rfl inC_12 rfl tw_972) <|
    fm_c (si_iloadn dX12_person_77 rfl) <|
    fm_c (si_iald dX12_person_78) <|
    fm_c (si_iast dX12_person_79) <|
    fm_c (si_aloadn dX12_person_80 rfl) <|
    fm_c (si_getf (C := RX12) (T := TX12) (N := 34) dX12_person_81 rfl inC_12 rfl tw_973) <|
    fm_c (si_iloadn dX12_person_84 rfl) <|
    fm_c (si_iloadn dX12_person_85 rfl) <|
    fm_c (si_iconst dX12_person_86 rfl) <|
    fm_c (si_ic_ne dX12_person_87 rfl) <|
    fm_c (si_iloadn dX12_person_90 rfl) <|
    fm_c (si_goto dX12_person_91 rfl) <|
    fm_c (si_aloadn dX12_person_94 rfl) <|
    fm_c (si_getf (C := RX12) (T := TX12) (N := 34) dX12_person_95 rfl inC_12 rfl tw_973) <|
    fm_c (si_iloadn dX12_person_98 rfl) <|
    fm_c (si_iald dX12_person_99) <|
    fm_c (si_iast dX12_person_100) <|
    fm_c (si_iload dX12_person_101) <|
    fm_c (si_iret rfl dX12_person_103) <|
    fun _ h => absurd h List.not_mem_nil
def K12_read : List (Nat × am_O) := [(0, o_iload 1 1),
  (1, o_call S12_isSheet 1 false 4),
  (4, o_if (fun a => ¬ a = 0) 10 7),
  (7, o_push (aI (-2)) 9),
  (9, o_iret),
  (10, o_aload 0 11),
  (11, o_getf 12 0 14),
  (14, o_iload 1 15),
  (15, o_iald 16),
  (16, o_if (fun a => 0 ≤ a) 25 19),
  (19, o_aload 0 20),
  (20, o_push (aI 1) 21),
  (21, o_callv S12_met 12 1 false 24),
  (24, o_iret),
  (25, o_push (aI 0) 26),
  (26, o_istore 2 27),
  (27, o_iload 2 28),
  (28, o_aload 0 29),
  (29, o_getf 12 1 32),
  (32, o_iload 1 33),
  (33, o_iald 34),
  (34, o_ic (fun a b => b ≤ a) 63 37),
  (37, o_aload 0 38),
  (38, o_iload 2 39),
  (39, o_push (aI 0) 40),
  (40, o_aload 0 41),
  (41, o_getf 12 2 44),
  (44, o_push (aI 64) 46),
  (46, o_iload 1 47),
  (47, o_bin (fun a b => w32 (a * b)) 48),
  (48, o_iload 2 49),
  (49, o_bin (fun a b => w32 (a + b)) 50),
  (50, o_iald 51),
  (51, o_callv S12_person 12 3 false 54),
  (54, o_if (fun a => a < 0) 63 57),
  (57, o_iinc 2 1 60),
  (60, o_goto 27),
  (63, o_iload 2 64),
  (64, o_iret)]
def S12_read : am_E := am_S K12_read 3
theorem hdd_12_read : yX12_read.cls ≠ "java/lang/invoke/MethodHandle" ∧ yX12_read.cls ≠ "java/lang/invoke/VarHandle" ∧ (parseMethodDescriptor yX12_read.desc).map (fun d => d.parameters.length) = some 1 := by decide +kernel
set_option maxRecDepth 100000 in
theorem snd_12_read : am_Sound yX12_read cX12_read 3 (some .int) 3 69 S12_read :=
  am_sound_of (own := RX12) (by decide) rfl <|
    fm_c (si_iloadn dX12_read_0 rfl) <|
    fm_c (si_call snd_12_isSheet dX12_read_1 tw_1064 tw_1065 tw_78 tw_1066 hdd_12_isSheet ⟨rfl, rfl⟩) <|
    fm_c (si_if_ne dX12_read_4 rfl) <|
    fm_c (si_bipush dX12_read_7 rfl) <|
    fm_c (si_iret rfl dX12_read_9) <|
    fm_c (si_aloadn dX12_read_10 rfl) <|
    fm_c (si_getf (C := RX12) (T := TX12) (N := 34) dX12_read_11 rfl inC_12 rfl tw_957) <|
    fm_c (si_iloadn dX12_read_14 rfl) <|
    fm_c (si_iald dX12_read_15) <|
    fm_c (si_if_ge dX12_read_16 rfl) <|
    fm_c (si_aloadn dX12_read_19 rfl) <|
    fm_c (si_iconst dX12_read_20 rfl) <|
    fm_c (si_callv (C := RX12) (T := TX12) (N := 34) snd_12_met rfl dX12_read_21 tw_1072 tw_1074 tw_27 tw_78 tw_1075 hdd_12_met ⟨rfl, rfl⟩) <|
    fm_c (si_iret rfl dX12_read_24) <|
    fm_c (si_iconst dX12_read_25 rfl) <|
    fm_c (si_istoren dX12_read_26 rfl rfl) <|
    fm_c (si_iloadn dX12_read_27 rfl) <|
    fm_c (si_aloadn dX12_read_28 rfl) <|
    fm_c (si_getf (C := RX12) (T := TX12) (N := 34) dX12_read_29 rfl inC_12 rfl tw_958) <|
    fm_c (si_iloadn dX12_read_32 rfl) <|
    fm_c (si_iald dX12_read_33) <|
    fm_c (si_ic_ge dX12_read_34 rfl) <|
    fm_c (si_aloadn dX12_read_37 rfl) <|
    fm_c (si_iloadn dX12_read_38 rfl) <|
    fm_c (si_iconst dX12_read_39 rfl) <|
    fm_c (si_aloadn dX12_read_40 rfl) <|
    fm_c (si_getf (C := RX12) (T := TX12) (N := 34) dX12_read_41 rfl inC_12 rfl tw_959) <|
    fm_c (si_bipush dX12_read_44 rfl) <|
    fm_c (si_iloadn dX12_read_46 rfl) <|
    fm_c (si_imul dX12_read_47) <|
    fm_c (si_iloadn dX12_read_48 rfl) <|
    fm_c (si_iadd dX12_read_49) <|
    fm_c (si_iald dX12_read_50) <|
    fm_c (si_callv (C := RX12) (T := TX12) (N := 34) snd_12_person rfl dX12_read_51 tw_1177 tw_1167 tw_1168 tw_78 tw_1169 hdd_12_person ⟨rfl, rfl⟩) <|
    fm_c (si_if_lt dX12_read_54 rfl) <|
    fm_c (si_iinc dX12_read_57 rfl rfl) <|
    fm_c (si_goto dX12_read_60 rfl) <|
    fm_c (si_iloadn dX12_read_63 rfl) <|
    fm_c (si_iret rfl dX12_read_64) <|
    fun _ h => absurd h List.not_mem_nil
def K12_risk : List (Nat × am_O) := [(0, o_aload 0 1),
  (1, o_callv S12_reads 12 0 true 4),
  (4, o_aload 0 5),
  (5, o_callv S12_riskNow 12 0 false 8),
  (8, o_iret)]
def S12_risk : am_E := am_S K12_risk 1
theorem hdd_12_risk : yX12_risk.cls ≠ "java/lang/invoke/MethodHandle" ∧ yX12_risk.cls ≠ "java/lang/invoke/VarHandle" ∧ (parseMethodDescriptor yX12_risk.desc).map (fun d => d.parameters.length) = some 0 := by decide +kernel
set_option maxRecDepth 100000 in
theorem snd_12_risk : am_Sound yX12_risk cX12_risk 1 (some .int) 4 94 S12_risk :=
  am_sound_of (own := RX12) (by decide) rfl <|
    fm_c (si_aloadn dX12_risk_0 rfl) <|
    fm_c (si_callv (C := RX12) (T := TX12) (N := 34) snd_12_reads rfl dX12_risk_1 tw_1182 tw_1184 tw_35 tw_78 tw_1185 hdd_12_reads ⟨rfl, rfl⟩) <|
    fm_c (si_aloadn dX12_risk_4 rfl) <|
    fm_c (si_callv (C := RX12) (T := TX12) (N := 34) snd_12_riskNow rfl dX12_risk_5 tw_1252 tw_1254 tw_45 tw_78 tw_1255 hdd_12_riskNow ⟨rfl, rfl⟩) <|
    fm_c (si_iret rfl dX12_risk_8) <|
    fun _ h => absurd h List.not_mem_nil
def K12_room : List (Nat × am_O) := [(0, o_iload 0 1),
  (1, o_if (fun a => ¬ a = 0) 9 4),
  (4, o_push (aI 71) 6),
  (6, o_goto 20),
  (9, o_iload 0 10),
  (10, o_push (aI 1) 11),
  (11, o_ic (fun a b => ¬ a = b) 18 14),
  (14, o_push (aI 5) 15),
  (15, o_goto 20),
  (18, o_push (aI 40) 20),
  (20, o_iret)]
def S12_room : am_E := am_S K12_room 1
theorem hdd_12_room : yX12_room.cls ≠ "java/lang/invoke/MethodHandle" ∧ yX12_room.cls ≠ "java/lang/invoke/VarHandle" ∧ (parseMethodDescriptor yX12_room.desc).map (fun d => d.parameters.length) = some 1 := by decide +kernel
set_option maxRecDepth 100000 in
theorem snd_12_room : am_Sound yX12_room cX12_room 1 (some .int) 0 0 S12_room :=
  am_sound_of (own := RX12) (by decide) rfl <|
    fm_c (si_iloadn dX12_room_0 rfl) <|
    fm_c (si_if_ne dX12_room_1 rfl) <|
    fm_c (si_bipush dX12_room_4 rfl) <|
    fm_c (si_goto dX12_room_6 rfl) <|
    fm_c (si_iloadn dX12_room_9 rfl) <|
    fm_c (si_iconst dX12_room_10 rfl) <|
    fm_c (si_ic_ne dX12_room_11 rfl) <|
    fm_c (si_iconst dX12_room_14 rfl) <|
    fm_c (si_goto dX12_room_15 rfl) <|
    fm_c (si_bipush dX12_room_18 rfl) <|
    fm_c (si_iret rfl dX12_room_20) <|
    fun _ h => absurd h List.not_mem_nil
def K12_seek : List (Nat × am_O) := [(0, o_aload 0 1),
  (1, o_callv S12_reads 12 0 true 4),
  (4, o_iload 1 5),
  (5, o_call S12_isPerson 1 false 8),
  (8, o_if (fun a => a = 0) 34 11),
  (11, o_iload 2 12),
  (12, o_i2l 13),
  (13, o_push (aL (-2)) 16),
  (16, o_push (aL 4) 19),
  (19, o_call S12_in 3 false 22),
  (22, o_if (fun a => a = 0) 34 25),
  (25, o_aload 0 26),
  (26, o_iload 1 27),
  (27, o_iload 2 28),
  (28, o_callv S12_seekOf 12 2 false 31),
  (31, o_goto 39),
  (34, o_push (aI (-2)) 36),
  (36, o_call S12_no 1 false 39),
  (39, o_lret)]
def S12_seek : am_E := am_S K12_seek 3
theorem hdd_12_seek : yX12_seek.cls ≠ "java/lang/invoke/MethodHandle" ∧ yX12_seek.cls ≠ "java/lang/invoke/VarHandle" ∧ (parseMethodDescriptor yX12_seek.desc).map (fun d => d.parameters.length) = some 2 := by decide +kernel
set_option maxRecDepth 100000 in
theorem snd_12_seek : am_Sound yX12_seek cX12_seek 3 (some .long) 5 125 S12_seek :=
  am_sound_of (own := RX12) (by decide) rfl <|
    fm_c (si_aloadn dX12_seek_0 rfl) <|
    fm_c (si_callv (C := RX12) (T := TX12) (N := 34) snd_12_reads rfl dX12_seek_1 tw_1182 tw_1184 tw_35 tw_78 tw_1185 hdd_12_reads ⟨rfl, rfl⟩) <|
    fm_c (si_iloadn dX12_seek_4 rfl) <|
    fm_c (si_call snd_12_isPerson dX12_seek_5 tw_1162 tw_1163 tw_78 tw_1164 hdd_12_isPerson ⟨rfl, rfl⟩) <|
    fm_c (si_if_eq dX12_seek_8 rfl) <|
    fm_c (si_iloadn dX12_seek_11 rfl) <|
    fm_c (si_i2l dX12_seek_12) <|
    fm_c (si_ldc2 dX12_seek_13 tw_1362 rfl) <|
    fm_c (si_ldc2 dX12_seek_16 tw_1142 rfl) <|
    fm_c (si_call snd_12_in dX12_seek_19 tw_1068 tw_1069 tw_78 tw_1070 hdd_12_in ⟨rfl, rfl⟩) <|
    fm_c (si_if_eq dX12_seek_22 rfl) <|
    fm_c (si_aloadn dX12_seek_25 rfl) <|
    fm_c (si_iloadn dX12_seek_26 rfl) <|
    fm_c (si_iloadn dX12_seek_27 rfl) <|
    fm_c (si_callv (C := RX12) (T := TX12) (N := 34) snd_12_seekOf rfl dX12_seek_28 tw_1363 tw_1365 tw_58 tw_78 tw_1366 hdd_12_seekOf ⟨rfl, rfl⟩) <|
    fm_c (si_goto dX12_seek_31 rfl) <|
    fm_c (si_bipush dX12_seek_34 rfl) <|
    fm_c (si_call snd_12_no dX12_seek_36 tw_1282 tw_1283 tw_78 tw_1284 hdd_12_no ⟨rfl, rfl⟩) <|
    fm_c (si_lret rfl dX12_seek_39) <|
    fun _ h => absurd h List.not_mem_nil
def K12_set : List (Nat × am_O) := [(0, o_iload 1 1),
  (1, o_i2l 2),
  (2, o_push (aL 0) 3),
  (3, o_push (aL 2) 6),
  (6, o_call S12_in 3 false 9),
  (9, o_if (fun a => a = 0) 35 12),
  (12, o_iload 2 13),
  (13, o_i2l 14),
  (14, o_push (aL 0) 15),
  (15, o_iload 1 16),
  (16, o_push (aI 2) 17),
  (17, o_ic (fun a b => ¬ a = b) 26 20),
  (20, o_push (aL 2) 23),
  (23, o_goto 29),
  (26, o_push (aL 63) 29),
  (29, o_call S12_in 3 false 32),
  (32, o_if (fun a => ¬ a = 0) 38 35),
  (35, o_push (aI (-2)) 37),
  (37, o_iret),
  (38, o_aload 0 39),
  (39, o_getf 12 13 42),
  (42, o_iload 1 43),
  (43, o_iald 44),
  (44, o_istore 3 45),
  (45, o_aload 0 46),
  (46, o_getf 12 13 49),
  (49, o_iload 1 50),
  (50, o_iload 2 51),
  (51, o_iast 52),
  (52, o_iload 3 53),
  (53, o_iret)]
def S12_set : am_E := am_S K12_set 4
theorem hdd_12_set : yX12_set.cls ≠ "java/lang/invoke/MethodHandle" ∧ yX12_set.cls ≠ "java/lang/invoke/VarHandle" ∧ (parseMethodDescriptor yX12_set.desc).map (fun d => d.parameters.length) = some 2 := by decide +kernel
set_option maxRecDepth 100000 in
theorem snd_12_set : am_Sound yX12_set cX12_set 4 (some .int) 1 25 S12_set :=
  am_sound_of (own := RX12) (by decide) rfl <|
    fm_c (si_iloadn dX12_set_0 rfl) <|
    fm_c (si_i2l dX12_set_1) <|
    fm_c (si_lconst0 dX12_set_2) <|
    fm_c (si_ldc2 dX12_set_3 tw_1071 rfl) <|
    fm_c (si_call snd_12_in dX12_set_6 tw_1068 tw_1069 tw_78 tw_1070 hdd_12_in ⟨rfl, rfl⟩) <|
    fm_c (si_if_eq dX12_set_9 rfl) <|
    fm_c (si_iloadn dX12_set_12 rfl) <|
    fm_c (si_i2l dX12_set_13) <|
    fm_c (si_lconst0 dX12_set_14) <|
    fm_c (si_iloadn dX12_set_15 rfl) <|
    fm_c (si_iconst dX12_set_16 rfl) <|
    fm_c (si_ic_ne dX12_set_17 rfl) <|
    fm_c (si_ldc2 dX12_set_20 tw_1071 rfl) <|
    fm_c (si_goto dX12_set_23 rfl) <|
    fm_c (si_ldc2 dX12_set_26 tw_1157 rfl) <|
    fm_c (si_call snd_12_in dX12_set_29 tw_1068 tw_1069 tw_78 tw_1070 hdd_12_in ⟨rfl, rfl⟩) <|
    fm_c (si_if_ne dX12_set_32 rfl) <|
    fm_c (si_bipush dX12_set_35 rfl) <|
    fm_c (si_iret rfl dX12_set_37) <|
    fm_c (si_aloadn dX12_set_38 rfl) <|
    fm_c (si_getf (C := RX12) (T := TX12) (N := 34) dX12_set_39 rfl inC_12 rfl tw_970) <|
    fm_c (si_iloadn dX12_set_42 rfl) <|
    fm_c (si_iald dX12_set_43) <|
    fm_c (si_istoren dX12_set_44 rfl rfl) <|
    fm_c (si_aloadn dX12_set_45 rfl) <|
    fm_c (si_getf (C := RX12) (T := TX12) (N := 34) dX12_set_46 rfl inC_12 rfl tw_970) <|
    fm_c (si_iloadn dX12_set_49 rfl) <|
    fm_c (si_iloadn dX12_set_50 rfl) <|
    fm_c (si_iast dX12_set_51) <|
    fm_c (si_iloadn dX12_set_52 rfl) <|
    fm_c (si_iret rfl dX12_set_53) <|
    fun _ h => absurd h List.not_mem_nil
def K12_sheet : List (Nat × am_O) := [(0, o_iload 1 1),
  (1, o_call S12_isSheet 1 false 4),
  (4, o_if (fun a => a = 0) 25 7),
  (7, o_iload 2 8),
  (8, o_i2l 9),
  (9, o_push (aL 0) 10),
  (10, o_push (aL 2) 13),
  (13, o_call S12_in 3 false 16),
  (16, o_if (fun a => a = 0) 25 19),
  (19, o_iload 3 20),
  (20, o_push (aI 64) 22),
  (22, o_ic (fun a b => a ≤ b) 28 25),
  (25, o_push (aI (-2)) 27),
  (27, o_iret),
  (28, o_iload 3 29),
  (29, o_if (fun a => 0 ≤ a) 38 32),
  (32, o_aload 0 33),
  (33, o_push (aI 5) 34),
  (34, o_callv S12_met 12 1 false 37),
  (37, o_iret),
  (38, o_aload 0 39),
  (39, o_getf 12 0 42),
  (42, o_iload 1 43),
  (43, o_iload 2 44),
  (44, o_iast 45),
  (45, o_aload 0 46),
  (46, o_getf 12 1 49),
  (49, o_iload 1 50),
  (50, o_iload 3 51),
  (51, o_iast 52),
  (52, o_push (aI 0) 53),
  (53, o_istore 4 55),
  (55, o_iload 4 57),
  (57, o_iload 3 58),
  (58, o_ic (fun a b => b ≤ a) 80 61),
  (61, o_aload 0 62),
  (62, o_getf 12 2 65),
  (65, o_push (aI 64) 67),
  (67, o_iload 1 68),
  (68, o_bin (fun a b => w32 (a * b)) 69),
  (69, o_iload 4 71),
  (71, o_bin (fun a b => w32 (a + b)) 72),
  (72, o_push (aI 0) 73),
  (73, o_iast 74),
  (74, o_iinc 4 1 77),
  (77, o_goto 55),
  (80, o_iload 3 81),
  (81, o_iret)]
def S12_sheet : am_E := am_S K12_sheet 5
theorem hdd_12_sheet : yX12_sheet.cls ≠ "java/lang/invoke/MethodHandle" ∧ yX12_sheet.cls ≠ "java/lang/invoke/VarHandle" ∧ (parseMethodDescriptor yX12_sheet.desc).map (fun d => d.parameters.length) = some 3 := by decide +kernel
set_option maxRecDepth 100000 in
theorem snd_12_sheet : am_Sound yX12_sheet cX12_sheet 5 (some .int) 2 45 S12_sheet :=
  am_sound_of (own := RX12) (by decide) rfl <|
    fm_c (si_iloadn dX12_sheet_0 rfl) <|
    fm_c (si_call snd_12_isSheet dX12_sheet_1 tw_1064 tw_1065 tw_78 tw_1066 hdd_12_isSheet ⟨rfl, rfl⟩) <|
    fm_c (si_if_eq dX12_sheet_4 rfl) <|
    fm_c (si_iloadn dX12_sheet_7 rfl) <|
    fm_c (si_i2l dX12_sheet_8) <|
    fm_c (si_lconst0 dX12_sheet_9) <|
    fm_c (si_ldc2 dX12_sheet_10 tw_1071 rfl) <|
    fm_c (si_call snd_12_in dX12_sheet_13 tw_1068 tw_1069 tw_78 tw_1070 hdd_12_in ⟨rfl, rfl⟩) <|
    fm_c (si_if_eq dX12_sheet_16 rfl) <|
    fm_c (si_iloadn dX12_sheet_19 rfl) <|
    fm_c (si_bipush dX12_sheet_20 rfl) <|
    fm_c (si_ic_le dX12_sheet_22 rfl) <|
    fm_c (si_bipush dX12_sheet_25 rfl) <|
    fm_c (si_iret rfl dX12_sheet_27) <|
    fm_c (si_iloadn dX12_sheet_28 rfl) <|
    fm_c (si_if_ge dX12_sheet_29 rfl) <|
    fm_c (si_aloadn dX12_sheet_32 rfl) <|
    fm_c (si_iconst dX12_sheet_33 rfl) <|
    fm_c (si_callv (C := RX12) (T := TX12) (N := 34) snd_12_met rfl dX12_sheet_34 tw_1072 tw_1074 tw_27 tw_78 tw_1075 hdd_12_met ⟨rfl, rfl⟩) <|
    fm_c (si_iret rfl dX12_sheet_37) <|
    fm_c (si_aloadn dX12_sheet_38 rfl) <|
    fm_c (si_getf (C := RX12) (T := TX12) (N := 34) dX12_sheet_39 rfl inC_12 rfl tw_957) <|
    fm_c (si_iloadn dX12_sheet_42 rfl) <|
    fm_c (si_iloadn dX12_sheet_43 rfl) <|
    fm_c (si_iast dX12_sheet_44) <|
    fm_c (si_aloadn dX12_sheet_45 rfl) <|
    fm_c (si_getf (C := RX12) (T := TX12) (N := 34) dX12_sheet_46 rfl inC_12 rfl tw_958) <|
    fm_c (si_iloadn dX12_sheet_49 rfl) <|
    fm_c (si_iloadn dX12_sheet_50 rfl) <|
    fm_c (si_iast dX12_sheet_51) <|
    fm_c (si_iconst dX12_sheet_52 rfl) <|
    fm_c (si_istore dX12_sheet_53 rfl) <|
    fm_c (si_iload dX12_sheet_55) <|
    fm_c (si_iloadn dX12_sheet_57 rfl) <|
    fm_c (si_ic_ge dX12_sheet_58 rfl) <|
    fm_c (si_aloadn dX12_sheet_61 rfl) <|
    fm_c (si_getf (C := RX12) (T := TX12) (N := 34) dX12_sheet_62 rfl inC_12 rfl tw_959) <|
    fm_c (si_bipush dX12_sheet_65 rfl) <|
    fm_c (si_iloadn dX12_sheet_67 rfl) <|
    fm_c (si_imul dX12_sheet_68) <|
    fm_c (si_iload dX12_sheet_69) <|
    fm_c (si_iadd dX12_sheet_71) <|
    fm_c (si_iconst dX12_sheet_72 rfl) <|
    fm_c (si_iast dX12_sheet_73) <|
    fm_c (si_iinc dX12_sheet_74 rfl rfl) <|
    fm_c (si_goto dX12_sheet_77 rfl) <|
    fm_c (si_iloadn dX12_sheet_80 rfl) <|
    fm_c (si_iret rfl dX12_sheet_81) <|
    fun _ h => absurd h List.not_mem_nil
def K12_torn : List (Nat × am_O) := [(0, o_aload 0 1),
  (1, o_callv S12_reads 12 0 true 4),
  (4, o_iload 2 5),
  (5, o_i2l 6),
  (6, o_push (aL 0) 7),
  (7, o_push (aL 3) 10),
  (10, o_call S12_in 3 false 13),
  (13, o_if (fun a => a = 0) 25 16),
  (16, o_aload 0 17),
  (17, o_iload 1 18),
  (18, o_iload 2 19),
  (19, o_callv S12_tornOf 12 2 false 22),
  (22, o_goto 27),
  (25, o_push (aI (-2)) 27),
  (27, o_iret)]
def S12_torn : am_E := am_S K12_torn 3
theorem hdd_12_torn : yX12_torn.cls ≠ "java/lang/invoke/MethodHandle" ∧ yX12_torn.cls ≠ "java/lang/invoke/VarHandle" ∧ (parseMethodDescriptor yX12_torn.desc).map (fun d => d.parameters.length) = some 2 := by decide +kernel
set_option maxRecDepth 100000 in
theorem snd_12_torn : am_Sound yX12_torn cX12_torn 3 (some .int) 4 94 S12_torn :=
  am_sound_of (own := RX12) (by decide) rfl <|
    fm_c (si_aloadn dX12_torn_0 rfl) <|
    fm_c (si_callv (C := RX12) (T := TX12) (N := 34) snd_12_reads rfl dX12_torn_1 tw_1182 tw_1184 tw_35 tw_78 tw_1185 hdd_12_reads ⟨rfl, rfl⟩) <|
    fm_c (si_iloadn dX12_torn_4 rfl) <|
    fm_c (si_i2l dX12_torn_5) <|
    fm_c (si_lconst0 dX12_torn_6) <|
    fm_c (si_ldc2 dX12_torn_7 tw_1067 rfl) <|
    fm_c (si_call snd_12_in dX12_torn_10 tw_1068 tw_1069 tw_78 tw_1070 hdd_12_in ⟨rfl, rfl⟩) <|
    fm_c (si_if_eq dX12_torn_13 rfl) <|
    fm_c (si_aloadn dX12_torn_16 rfl) <|
    fm_c (si_iloadn dX12_torn_17 rfl) <|
    fm_c (si_iloadn dX12_torn_18 rfl) <|
    fm_c (si_callv (C := RX12) (T := TX12) (N := 34) snd_12_tornOf rfl dX12_torn_19 tw_1298 tw_1300 tw_49 tw_78 tw_1301 hdd_12_tornOf ⟨rfl, rfl⟩) <|
    fm_c (si_goto dX12_torn_22 rfl) <|
    fm_c (si_bipush dX12_torn_25 rfl) <|
    fm_c (si_iret rfl dX12_torn_27) <|
    fun _ h => absurd h List.not_mem_nil
def K12_type : List (Nat × am_O) := [(0, o_iload 1 1),
  (1, o_i2l 2),
  (2, o_push (aL 0) 3),
  (3, o_push (aL 2) 6),
  (6, o_call S12_in 3 false 9),
  (9, o_if (fun a => a = 0) 24 12),
  (12, o_iload 2 13),
  (13, o_i2l 14),
  (14, o_push (aL 0) 15),
  (15, o_push (aL 255) 18),
  (18, o_call S12_in 3 false 21),
  (21, o_if (fun a => ¬ a = 0) 27 24),
  (24, o_push (aI (-2)) 26),
  (26, o_iret),
  (27, o_aload 0 28),
  (28, o_getf 12 6 31),
  (31, o_iload 1 32),
  (32, o_iald 33),
  (33, o_iload 1 34),
  (34, o_call S12_room 1 false 37),
  (37, o_ic (fun a b => ¬ a = b) 43 40),
  (40, o_push (aI (-4)) 42),
  (42, o_iret),
  (43, o_aload 0 44),
  (44, o_getf 12 5 47),
  (47, o_push (aI 80) 49),
  (49, o_iload 1 50),
  (50, o_bin (fun a b => w32 (a * b)) 51),
  (51, o_aload 0 52),
  (52, o_getf 12 6 55),
  (55, o_iload 1 56),
  (56, o_iald 57),
  (57, o_bin (fun a b => w32 (a + b)) 58),
  (58, o_iload 2 59),
  (59, o_iast 60),
  (60, o_aload 0 61),
  (61, o_getf 12 6 64),
  (64, o_iload 1 65),
  (65, o_dup2 66),
  (66, o_iald 67),
  (67, o_push (aI 1) 68),
  (68, o_bin (fun a b => w32 (a + b)) 69),
  (69, o_iast 70),
  (70, o_aload 0 71),
  (71, o_getf 12 6 74),
  (74, o_iload 1 75),
  (75, o_iald 76),
  (76, o_iret)]
def S12_type : am_E := am_S K12_type 3
theorem hdd_12_type : yX12_type.cls ≠ "java/lang/invoke/MethodHandle" ∧ yX12_type.cls ≠ "java/lang/invoke/VarHandle" ∧ (parseMethodDescriptor yX12_type.desc).map (fun d => d.parameters.length) = some 2 := by decide +kernel
set_option maxRecDepth 100000 in
theorem snd_12_type : am_Sound yX12_type cX12_type 3 (some .int) 1 25 S12_type :=
  am_sound_of (own := RX12) (by decide) rfl <|
    fm_c (si_iloadn dX12_type_0 rfl) <|
    fm_c (si_i2l dX12_type_1) <|
    fm_c (si_lconst0 dX12_type_2) <|
    fm_c (si_ldc2 dX12_type_3 tw_1071 rfl) <|
    fm_c (si_call snd_12_in dX12_type_6 tw_1068 tw_1069 tw_78 tw_1070 hdd_12_in ⟨rfl, rfl⟩) <|
    fm_c (si_if_eq dX12_type_9 rfl) <|
    fm_c (si_iloadn dX12_type_12 rfl) <|
    fm_c (si_i2l dX12_type_13) <|
    fm_c (si_lconst0 dX12_type_14) <|
    fm_c (si_ldc2 dX12_type_15 tw_1104 rfl) <|
    fm_c (si_call snd_12_in dX12_type_18 tw_1068 tw_1069 tw_78 tw_1070 hdd_12_in ⟨rfl, rfl⟩) <|
    fm_c (si_if_ne dX12_type_21 rfl) <|
    fm_c (si_bipush dX12_type_24 rfl) <|
    fm_c (si_iret rfl dX12_type_26) <|
    fm_c (si_aloadn dX12_type_27 rfl) <|
    fm_c (si_getf (C := RX12) (T := TX12) (N := 34) dX12_type_28 rfl inC_12 rfl tw_963) <|
    fm_c (si_iloadn dX12_type_31 rfl) <|
    fm_c (si_iald dX12_type_32) <|
    fm_c (si_iloadn dX12_type_33 rfl) <|
    fm_c (si_call snd_12_room dX12_type_34 tw_1105 tw_1106 tw_78 tw_1107 hdd_12_room ⟨rfl, rfl⟩) <|
    fm_c (si_ic_ne dX12_type_37 rfl) <|
    fm_c (si_bipush dX12_type_40 rfl) <|
    fm_c (si_iret rfl dX12_type_42) <|
    fm_c (si_aloadn dX12_type_43 rfl) <|
    fm_c (si_getf (C := RX12) (T := TX12) (N := 34) dX12_type_44 rfl inC_12 rfl tw_962) <|
    fm_c (si_bipush dX12_type_47 rfl) <|
    fm_c (si_iloadn dX12_type_49 rfl) <|
    fm_c (si_imul dX12_type_50) <|
    fm_c (si_aloadn dX12_type_51 rfl) <|
    fm_c (si_getf (C := RX12) (T := TX12) (N := 34) dX12_type_52 rfl inC_12 rfl tw_963) <|
    fm_c (si_iloadn dX12_type_55 rfl) <|
    fm_c (si_iald dX12_type_56) <|
    fm_c (si_iadd dX12_type_57) <|
    fm_c (si_iloadn dX12_type_58 rfl) <|
    fm_c (si_iast dX12_type_59) <|
    fm_c (si_aloadn dX12_type_60 rfl) <|
    fm_c (si_getf (C := RX12) (T := TX12) (N := 34) dX12_type_61 rfl inC_12 rfl tw_963) <|
    fm_c (si_iloadn dX12_type_64 rfl) <|
    fm_c (si_dup2 dX12_type_65) <|
    fm_c (si_iald dX12_type_66) <|
    fm_c (si_iconst dX12_type_67 rfl) <|
    fm_c (si_iadd dX12_type_68) <|
    fm_c (si_iast dX12_type_69) <|
    fm_c (si_aloadn dX12_type_70 rfl) <|
    fm_c (si_getf (C := RX12) (T := TX12) (N := 34) dX12_type_71 rfl inC_12 rfl tw_963) <|
    fm_c (si_iloadn dX12_type_74 rfl) <|
    fm_c (si_iald dX12_type_75) <|
    fm_c (si_iret rfl dX12_type_76) <|
    fun _ h => absurd h List.not_mem_nil
def K12_undo : List (Nat × am_O) := [(0, o_iload 1 1),
  (1, o_i2l 2),
  (2, o_push (aL 0) 3),
  (3, o_push (aL 2) 6),
  (6, o_call S12_in 3 false 9),
  (9, o_if (fun a => ¬ a = 0) 15 12),
  (12, o_push (aI (-2)) 14),
  (14, o_iret),
  (15, o_aload 0 16),
  (16, o_getf 12 6 19),
  (19, o_iload 1 20),
  (20, o_iald 21),
  (21, o_if (fun a => ¬ a = 0) 27 24),
  (24, o_push (aI (-3)) 26),
  (26, o_iret),
  (27, o_aload 0 28),
  (28, o_getf 12 6 31),
  (31, o_iload 1 32),
  (32, o_dup2 33),
  (33, o_iald 34),
  (34, o_push (aI 1) 35),
  (35, o_bin (fun a b => w32 (a - b)) 36),
  (36, o_iast 37),
  (37, o_aload 0 38),
  (38, o_getf 12 6 41),
  (41, o_iload 1 42),
  (42, o_iald 43),
  (43, o_iret)]
def S12_undo : am_E := am_S K12_undo 2
theorem hdd_12_undo : yX12_undo.cls ≠ "java/lang/invoke/MethodHandle" ∧ yX12_undo.cls ≠ "java/lang/invoke/VarHandle" ∧ (parseMethodDescriptor yX12_undo.desc).map (fun d => d.parameters.length) = some 1 := by decide +kernel
set_option maxRecDepth 100000 in
theorem snd_12_undo : am_Sound yX12_undo cX12_undo 2 (some .int) 1 25 S12_undo :=
  am_sound_of (own := RX12) (by decide) rfl <|
    fm_c (si_iloadn dX12_undo_0 rfl) <|
    fm_c (si_i2l dX12_undo_1) <|
    fm_c (si_lconst0 dX12_undo_2) <|
    fm_c (si_ldc2 dX12_undo_3 tw_1071 rfl) <|
    fm_c (si_call snd_12_in dX12_undo_6 tw_1068 tw_1069 tw_78 tw_1070 hdd_12_in ⟨rfl, rfl⟩) <|
    fm_c (si_if_ne dX12_undo_9 rfl) <|
    fm_c (si_bipush dX12_undo_12 rfl) <|
    fm_c (si_iret rfl dX12_undo_14) <|
    fm_c (si_aloadn dX12_undo_15 rfl) <|
    fm_c (si_getf (C := RX12) (T := TX12) (N := 34) dX12_undo_16 rfl inC_12 rfl tw_963) <|
    fm_c (si_iloadn dX12_undo_19 rfl) <|
    fm_c (si_iald dX12_undo_20) <|
    fm_c (si_if_ne dX12_undo_21 rfl) <|
    fm_c (si_bipush dX12_undo_24 rfl) <|
    fm_c (si_iret rfl dX12_undo_26) <|
    fm_c (si_aloadn dX12_undo_27 rfl) <|
    fm_c (si_getf (C := RX12) (T := TX12) (N := 34) dX12_undo_28 rfl inC_12 rfl tw_963) <|
    fm_c (si_iloadn dX12_undo_31 rfl) <|
    fm_c (si_dup2 dX12_undo_32) <|
    fm_c (si_iald dX12_undo_33) <|
    fm_c (si_iconst dX12_undo_34 rfl) <|
    fm_c (si_isub dX12_undo_35) <|
    fm_c (si_iast dX12_undo_36) <|
    fm_c (si_aloadn dX12_undo_37 rfl) <|
    fm_c (si_getf (C := RX12) (T := TX12) (N := 34) dX12_undo_38 rfl inC_12 rfl tw_963) <|
    fm_c (si_iloadn dX12_undo_41 rfl) <|
    fm_c (si_iald dX12_undo_42) <|
    fm_c (si_iret rfl dX12_undo_43) <|
    fun _ h => absurd h List.not_mem_nil
def K12_wipe : List (Nat × am_O) := [(0, o_iload 1 1),
  (1, o_i2l 2),
  (2, o_push (aL 0) 3),
  (3, o_push (aL 2) 6),
  (6, o_call S12_in 3 false 9),
  (9, o_if (fun a => ¬ a = 0) 15 12),
  (12, o_push (aI (-2)) 14),
  (14, o_iret),
  (15, o_aload 0 16),
  (16, o_getf 12 6 19),
  (19, o_iload 1 20),
  (20, o_iald 21),
  (21, o_istore 2 22),
  (22, o_aload 0 23),
  (23, o_getf 12 6 26),
  (26, o_iload 1 27),
  (27, o_push (aI 0) 28),
  (28, o_iast 29),
  (29, o_iload 2 30),
  (30, o_iret)]
def S12_wipe : am_E := am_S K12_wipe 3
theorem hdd_12_wipe : yX12_wipe.cls ≠ "java/lang/invoke/MethodHandle" ∧ yX12_wipe.cls ≠ "java/lang/invoke/VarHandle" ∧ (parseMethodDescriptor yX12_wipe.desc).map (fun d => d.parameters.length) = some 1 := by decide +kernel
set_option maxRecDepth 100000 in
theorem snd_12_wipe : am_Sound yX12_wipe cX12_wipe 3 (some .int) 1 25 S12_wipe :=
  am_sound_of (own := RX12) (by decide) rfl <|
    fm_c (si_iloadn dX12_wipe_0 rfl) <|
    fm_c (si_i2l dX12_wipe_1) <|
    fm_c (si_lconst0 dX12_wipe_2) <|
    fm_c (si_ldc2 dX12_wipe_3 tw_1071 rfl) <|
    fm_c (si_call snd_12_in dX12_wipe_6 tw_1068 tw_1069 tw_78 tw_1070 hdd_12_in ⟨rfl, rfl⟩) <|
    fm_c (si_if_ne dX12_wipe_9 rfl) <|
    fm_c (si_bipush dX12_wipe_12 rfl) <|
    fm_c (si_iret rfl dX12_wipe_14) <|
    fm_c (si_aloadn dX12_wipe_15 rfl) <|
    fm_c (si_getf (C := RX12) (T := TX12) (N := 34) dX12_wipe_16 rfl inC_12 rfl tw_963) <|
    fm_c (si_iloadn dX12_wipe_19 rfl) <|
    fm_c (si_iald dX12_wipe_20) <|
    fm_c (si_istoren dX12_wipe_21 rfl rfl) <|
    fm_c (si_aloadn dX12_wipe_22 rfl) <|
    fm_c (si_getf (C := RX12) (T := TX12) (N := 34) dX12_wipe_23 rfl inC_12 rfl tw_963) <|
    fm_c (si_iloadn dX12_wipe_26 rfl) <|
    fm_c (si_iconst dX12_wipe_27 rfl) <|
    fm_c (si_iast dX12_wipe_28) <|
    fm_c (si_iloadn dX12_wipe_29 rfl) <|
    fm_c (si_iret rfl dX12_wipe_30) <|
    fun _ h => absurd h List.not_mem_nil
def K12_write : List (Nat × am_O) := [(0, o_aload 0 1),
  (1, o_callv S12_reads 12 0 true 4),
  (4, o_aload 0 5),
  (5, o_iload 1 6),
  (6, o_callv S12_isPlace 12 1 false 9),
  (9, o_if (fun a => a = 0) 19 12),
  (12, o_iload 2 13),
  (13, o_call S12_isSheet 1 false 16),
  (16, o_if (fun a => ¬ a = 0) 22 19),
  (19, o_push (aI (-2)) 21),
  (21, o_iret),
  (22, o_aload 0 23),
  (23, o_getf 12 0 26),
  (26, o_iload 2 27),
  (27, o_iald 28),
  (28, o_if (fun a => 0 ≤ a) 37 31),
  (31, o_aload 0 32),
  (32, o_push (aI 1) 33),
  (33, o_callv S12_met 12 1 false 36),
  (36, o_iret),
  (37, o_aload 0 38),
  (38, o_iload 1 39),
  (39, o_push (aI 0) 40),
  (40, o_callv S12_findFar 12 2 true 43),
  (43, o_push (aI 0) 44),
  (44, o_istore 3 45),
  (45, o_iload 3 46),
  (46, o_aload 0 47),
  (47, o_getf 12 1 50),
  (50, o_iload 2 51),
  (51, o_iald 52),
  (52, o_ic (fun a b => b ≤ a) 113 55),
  (55, o_aload 0 56),
  (56, o_getf 12 2 59),
  (59, o_push (aI 64) 61),
  (61, o_iload 2 62),
  (62, o_bin (fun a b => w32 (a * b)) 63),
  (63, o_iload 3 64),
  (64, o_bin (fun a b => w32 (a + b)) 65),
  (65, o_aload 0 66),
  (66, o_getf 12 0 69),
  (69, o_iload 2 70),
  (70, o_iald 71),
  (71, o_aload 0 72),
  (72, o_getf 12 8 75),
  (75, o_iload 3 76),
  (76, o_iald 77),
  (77, o_push (aI 99) 79),
  (79, o_ic (fun a b => a = b) 93 82),
  (82, o_aload 0 83),
  (83, o_getf 12 19 86),
  (86, o_iload 3 87),
  (87, o_iald 88),
  (88, o_push (aI 1000000) 90),
  (90, o_ic (fun a b => a < b) 97 93),
  (93, o_push (aI (-1)) 94),
  (94, o_goto 103),
  (97, o_aload 0 98),
  (98, o_getf 12 19 101),
  (101, o_iload 3 102),
  (102, o_iald 103),
  (103, o_call S12_cut 2 false 106),
  (106, o_iast 107),
  (107, o_iinc 3 1 110),
  (110, o_goto 45),
  (113, o_aload 0 114),
  (114, o_getf 12 1 117),
  (117, o_iload 2 118),
  (118, o_iald 119),
  (119, o_iret)]
def S12_write : am_E := am_S K12_write 4
theorem hdd_12_write : yX12_write.cls ≠ "java/lang/invoke/MethodHandle" ∧ yX12_write.cls ≠ "java/lang/invoke/VarHandle" ∧ (parseMethodDescriptor yX12_write.desc).map (fun d => d.parameters.length) = some 2 := by decide +kernel
set_option maxRecDepth 100000 in
theorem snd_12_write : am_Sound yX12_write cX12_write 4 (some .int) 4 94 S12_write :=
  am_sound_of (own := RX12) (by decide) rfl <|
    fm_c (si_aloadn dX12_write_0 rfl) <|
    fm_c (si_callv (C := RX12) (T := TX12) (N := 34) snd_12_reads rfl dX12_write_1 tw_1182 tw_1184 tw_35 tw_78 tw_1185 hdd_12_reads ⟨rfl, rfl⟩) <|
    fm_c (si_aloadn dX12_write_4 rfl) <|
    fm_c (si_iloadn dX12_write_5 rfl) <|
    fm_c (si_callv (C := RX12) (T := TX12) (N := 34) snd_12_isPlace rfl dX12_write_6 tw_1190 tw_1192 tw_37 tw_78 tw_1193 hdd_12_isPlace ⟨rfl, rfl⟩) <|
    fm_c (si_if_eq dX12_write_9 rfl) <|
    fm_c (si_iloadn dX12_write_12 rfl) <|
    fm_c (si_call snd_12_isSheet dX12_write_13 tw_1064 tw_1065 tw_78 tw_1066 hdd_12_isSheet ⟨rfl, rfl⟩) <|
    fm_c (si_if_ne dX12_write_16 rfl) <|
    fm_c (si_bipush dX12_write_19 rfl) <|
    fm_c (si_iret rfl dX12_write_21) <|
    fm_c (si_aloadn dX12_write_22 rfl) <|
    fm_c (si_getf (C := RX12) (T := TX12) (N := 34) dX12_write_23 rfl inC_12 rfl tw_957) <|
    fm_c (si_iloadn dX12_write_26 rfl) <|
    fm_c (si_iald dX12_write_27) <|
    fm_c (si_if_ge dX12_write_28 rfl) <|
    fm_c (si_aloadn dX12_write_31 rfl) <|
    fm_c (si_iconst dX12_write_32 rfl) <|
    fm_c (si_callv (C := RX12) (T := TX12) (N := 34) snd_12_met rfl dX12_write_33 tw_1072 tw_1074 tw_27 tw_78 tw_1075 hdd_12_met ⟨rfl, rfl⟩) <|
    fm_c (si_iret rfl dX12_write_36) <|
    fm_c (si_aloadn dX12_write_37 rfl) <|
    fm_c (si_iloadn dX12_write_38 rfl) <|
    fm_c (si_iconst dX12_write_39 rfl) <|
    fm_c (si_callv (C := RX12) (T := TX12) (N := 34) snd_12_findFar rfl dX12_write_40 tw_1215 tw_1217 tw_40 tw_78 tw_1218 hdd_12_findFar ⟨rfl, rfl⟩) <|
    fm_c (si_iconst dX12_write_43 rfl) <|
    fm_c (si_istoren dX12_write_44 rfl rfl) <|
    fm_c (si_iloadn dX12_write_45 rfl) <|
    fm_c (si_aloadn dX12_write_46 rfl) <|
    fm_c (si_getf (C := RX12) (T := TX12) (N := 34) dX12_write_47 rfl inC_12 rfl tw_958) <|
    fm_c (si_iloadn dX12_write_50 rfl) <|
    fm_c (si_iald dX12_write_51) <|
    fm_c (si_ic_ge dX12_write_52 rfl) <|
    fm_c (si_aloadn dX12_write_55 rfl) <|
    fm_c (si_getf (C := RX12) (T := TX12) (N := 34) dX12_write_56 rfl inC_12 rfl tw_959) <|
    fm_c (si_bipush dX12_write_59 rfl) <|
    fm_c (si_iloadn dX12_write_61 rfl) <|
    fm_c (si_imul dX12_write_62) <|
    fm_c (si_iloadn dX12_write_63 rfl) <|
    fm_c (si_iadd dX12_write_64) <|
    fm_c (si_aloadn dX12_write_65 rfl) <|
    fm_c (si_getf (C := RX12) (T := TX12) (N := 34) dX12_write_66 rfl inC_12 rfl tw_957) <|
    fm_c (si_iloadn dX12_write_69 rfl) <|
    fm_c (si_iald dX12_write_70) <|
    fm_c (si_aloadn dX12_write_71 rfl) <|
    fm_c (si_getf (C := RX12) (T := TX12) (N := 34) dX12_write_72 rfl inC_12 rfl tw_965) <|
    fm_c (si_iloadn dX12_write_75 rfl) <|
    fm_c (si_iald dX12_write_76) <|
    fm_c (si_bipush dX12_write_77 rfl) <|
    fm_c (si_ic_eq dX12_write_79 rfl) <|
    fm_c (si_aloadn dX12_write_82 rfl) <|
    fm_c (si_getf (C := RX12) (T := TX12) (N := 34) dX12_write_83 rfl inC_12 rfl tw_976) <|
    fm_c (si_iloadn dX12_write_86 rfl) <|
    fm_c (si_iald dX12_write_87) <|
    fm_c (si_ldc dX12_write_88 tw_1219 rfl) <|
    fm_c (si_ic_lt dX12_write_90 rfl) <|
    fm_c (si_iconst dX12_write_93 rfl) <|
    fm_c (si_goto dX12_write_94 rfl) <|
    fm_c (si_aloadn dX12_write_97 rfl) <|
    fm_c (si_getf (C := RX12) (T := TX12) (N := 34) dX12_write_98 rfl inC_12 rfl tw_976) <|
    fm_c (si_iloadn dX12_write_101 rfl) <|
    fm_c (si_iald dX12_write_102) <|
    fm_c (si_call snd_12_cut dX12_write_103 tw_1088 tw_1089 tw_78 tw_1090 hdd_12_cut ⟨rfl, rfl⟩) <|
    fm_c (si_iast dX12_write_106) <|
    fm_c (si_iinc dX12_write_107 rfl rfl) <|
    fm_c (si_goto dX12_write_110 rfl) <|
    fm_c (si_aloadn dX12_write_113 rfl) <|
    fm_c (si_getf (C := RX12) (T := TX12) (N := 34) dX12_write_114 rfl inC_12 rfl tw_958) <|
    fm_c (si_iloadn dX12_write_117 rfl) <|
    fm_c (si_iald dX12_write_118) <|
    fm_c (si_iret rfl dX12_write_119) <|
    fun _ h => absurd h List.not_mem_nil
