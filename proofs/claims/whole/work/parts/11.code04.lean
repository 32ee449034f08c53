def K12_ones : List (Nat × am_O) := [(0, o_push (aI 0) 1),
  (1, o_istore 1 2),
  (2, o_iload 0 3),
  (3, o_istore 2 4),
  (4, o_iload 2 5),
  (5, o_if (fun a => a = 0) 20 8),
  (8, o_iinc 1 1 11),
  (11, o_iload 2 12),
  (12, o_iload 2 13),
  (13, o_push (aI 1) 14),
  (14, o_bin (fun a b => w32 (a - b)) 15),
  (15, o_bin am_and 16),
  (16, o_istore 2 17),
  (17, o_goto 4),
  (20, o_iload 1 21),
  (21, o_iret)]
def S12_ones : am_E := am_S K12_ones 3
theorem hdd_12_ones : yX12_ones.cls ≠ "java/lang/invoke/MethodHandle" ∧ yX12_ones.cls ≠ "java/lang/invoke/VarHandle" ∧ (parseMethodDescriptor yX12_ones.desc).map (fun d => d.parameters.length) = some 1 := by decide +kernel
set_option maxRecDepth 100000 in
theorem snd_12_ones : am_Sound yX12_ones cX12_ones 3 (some .int) 0 0 S12_ones :=
  am_sound_of (own := RX12) (by decide) rfl <|
    fm_c (si_iconst dX12_ones_0 rfl) <|
    fm_c (si_istoren dX12_ones_1 rfl rfl) <|
    fm_c (si_iloadn dX12_ones_2 rfl) <|
    fm_c (si_istoren dX12_ones_3 rfl rfl) <|
    fm_c (si_iloadn dX12_ones_4 rfl) <|
    fm_c (si_if_eq dX12_ones_5 rfl) <|
    fm_c (si_iinc dX12_ones_8 rfl rfl) <|
    fm_c (si_iloadn dX12_ones_11 rfl) <|
    fm_c (si_iloadn dX12_ones_12 rfl) <|
    fm_c (si_iconst dX12_ones_13 rfl) <|
    fm_c (si_isub dX12_ones_14) <|
    fm_c (si_iand dX12_ones_15) <|
    fm_c (si_istoren dX12_ones_16 rfl rfl) <|
    fm_c (si_goto dX12_ones_17 rfl) <|
    fm_c (si_iloadn dX12_ones_20 rfl) <|
    fm_c (si_iret rfl dX12_ones_21) <|
    fun _ h => absurd h List.not_mem_nil
def K12_bestOf : List (Nat × am_O) := [(0, o_iload 1 1),
  (1, o_call S12_ones 1 false 4),
  (4, o_istore 3 5),
  (5, o_push (aI 1) 6),
  (6, o_istore 4 8),
  (8, o_push (aI 0) 9),
  (9, o_istore 5 11),
  (11, o_iload 5 13),
  (13, o_iload 3 14),
  (14, o_ic (fun a b => b ≤ a) 29 17),
  (17, o_iload 4 19),
  (19, o_push (aI 5) 20),
  (20, o_bin (fun a b => w32 (a * b)) 21),
  (21, o_istore 4 23),
  (23, o_iinc 5 1 26),
  (26, o_goto 11),
  (29, o_push (aI (-1)) 30),
  (30, o_istore 5 32),
  (32, o_push (aI 0) 33),
  (33, o_istore 6 35),
  (35, o_iload 6 37),
  (37, o_iload 4 39),
  (39, o_ic (fun a b => b ≤ a) 211 42),
  (42, o_iload 6 44),
  (44, o_istore 7 46),
  (46, o_push (aI 0) 47),
  (47, o_istore 8 49),
  (49, o_push (aI 0) 50),
  (50, o_istore 9 52),
  (52, o_iload 3 53),
  (53, o_push (aI 1) 54),
  (54, o_bin (fun a b => w32 (a - b)) 55),
  (55, o_istore 10 57),
  (57, o_iload 10 59),
  (59, o_if (fun a => a < 0) 143 62),
  (62, o_aload 0 63),
  (63, o_getf 12 21 66),
  (66, o_iload 10 68),
  (68, o_iload 7 70),
  (70, o_push (aI 5) 71),
  (71, o_irem 72),
  (72, o_iast 73),
  (73, o_iload 7 75),
  (75, o_push (aI 5) 76),
  (76, o_idiv 77),
  (77, o_istore 7 79),
  (79, o_iload 8 81),
  (81, o_push (aI 1) 82),
  (82, o_aload 0 83),
  (83, o_getf 12 21 86),
  (86, o_iload 10 88),
  (88, o_iald 89),
  (89, o_sh am_shl 90),
  (90, o_bin am_or 91),
  (91, o_istore 8 93),
  (93, o_iload 9 95),
  (95, o_iload 10 97),
  (97, o_iload 3 98),
  (98, o_push (aI 1) 99),
  (99, o_bin (fun a b => w32 (a - b)) 100),
  (100, o_ic (fun a b => b ≤ a) 133 103),
  (103, o_push (aI 16) 105),
  (105, o_aload 0 106),
  (106, o_getf 12 14 109),
  (109, o_push (aI 5) 110),
  (110, o_aload 0 111),
  (111, o_getf 12 21 114),
  (114, o_iload 10 116),
  (116, o_iald 117),
  (117, o_bin (fun a b => w32 (a * b)) 118),
  (118, o_aload 0 119),
  (119, o_getf 12 21 122),
  (122, o_iload 10 124),
  (124, o_push (aI 1) 125),
  (125, o_bin (fun a b => w32 (a + b)) 126),
  (126, o_iald 127),
  (127, o_bin (fun a b => w32 (a + b)) 128),
  (128, o_iald 129),
  (129, o_bin (fun a b => w32 (a - b)) 130),
  (130, o_goto 134),
  (133, o_push (aI 0) 134),
  (134, o_bin (fun a b => w32 (a + b)) 135),
  (135, o_istore 9 137),
  (137, o_iinc 10 (-1) 140),
  (140, o_goto 57),
  (143, o_iload 8 145),
  (145, o_iload 1 146),
  (146, o_ic (fun a b => ¬ a = b) 205 149),
  (149, o_iload 5 151),
  (151, o_push (aI (-1)) 152),
  (152, o_ic (fun a b => a = b) 162 155),
  (155, o_iload 9 157),
  (157, o_iload 5 159),
  (159, o_ic (fun a b => b ≤ a) 205 162),
  (162, o_iload 9 164),
  (164, o_istore 5 166),
  (166, o_push (aI 0) 167),
  (167, o_istore 10 169),
  (169, o_iload 10 171),
  (171, o_push (aI 5) 172),
  (172, o_ic (fun a b => b ≤ a) 205 175),
  (175, o_aload 0 176),
  (176, o_getf 12 20 179),
  (179, o_iload 10 181),
  (181, o_iload 10 183),
  (183, o_iload 3 184),
  (184, o_ic (fun a b => b ≤ a) 197 187),
  (187, o_aload 0 188),
  (188, o_getf 12 21 191),
  (191, o_iload 10 193),
  (193, o_iald 194),
  (194, o_goto 198),
  (197, o_push (aI (-1)) 198),
  (198, o_iast 199),
  (199, o_iinc 10 1 202),
  (202, o_goto 169),
  (205, o_iinc 6 1 208),
  (208, o_goto 35),
  (211, o_iload 2 212),
  (212, o_push (aI (-1)) 213),
  (213, o_ic (fun a b => ¬ a = b) 221 216),
  (216, o_iload 5 218),
  (218, o_goto 227),
  (221, o_aload 0 222),
  (222, o_getf 12 20 225),
  (225, o_iload 2 226),
  (226, o_iald 227),
  (227, o_iret)]
def S12_bestOf : am_E := am_S K12_bestOf 11
theorem hdd_12_bestOf : yX12_bestOf.cls ≠ "java/lang/invoke/MethodHandle" ∧ yX12_bestOf.cls ≠ "java/lang/invoke/VarHandle" ∧ (parseMethodDescriptor yX12_bestOf.desc).map (fun d => d.parameters.length) = some 2 := by decide +kernel
set_option maxRecDepth 100000 in
theorem snd_12_bestOf : am_Sound yX12_bestOf cX12_bestOf 11 (some .int) 1 22 S12_bestOf :=
  am_sound_of (own := RX12) (by decide) rfl <|
    fm_c (si_iloadn dX12_bestOf_0 rfl) <|
    fm_c (si_call snd_12_ones dX12_bestOf_1 tw_1261 tw_1262 tw_78 tw_1263 hdd_12_ones ⟨rfl, rfl⟩) <|
    fm_c (si_istoren dX12_bestOf_4 rfl rfl) <|
    fm_c (si_iconst dX12_bestOf_5 rfl) <|
    fm_c (si_istore dX12_bestOf_6 rfl) <|
    fm_c (si_iconst dX12_bestOf_8 rfl) <|
    fm_c (si_istore dX12_bestOf_9 rfl) <|
    fm_c (si_iload dX12_bestOf_11) <|
    fm_c (si_iloadn dX12_bestOf_13 rfl) <|
    fm_c (si_ic_ge dX12_bestOf_14 rfl) <|
    fm_c (si_iload dX12_bestOf_17) <|
    fm_c (si_iconst dX12_bestOf_19 rfl) <|
    fm_c (si_imul dX12_bestOf_20) <|
    fm_c (si_istore dX12_bestOf_21 rfl) <|
    fm_c (si_iinc dX12_bestOf_23 rfl rfl) <|
    fm_c (si_goto dX12_bestOf_26 rfl) <|
    fm_c (si_iconst dX12_bestOf_29 rfl) <|
    fm_c (si_istore dX12_bestOf_30 rfl) <|
    fm_c (si_iconst dX12_bestOf_32 rfl) <|
    fm_c (si_istore dX12_bestOf_33 rfl) <|
    fm_c (si_iload dX12_bestOf_35) <|
    fm_c (si_iload dX12_bestOf_37) <|
    fm_c (si_ic_ge dX12_bestOf_39 rfl) <|
    fm_c (si_iload dX12_bestOf_42) <|
    fm_c (si_istore dX12_bestOf_44 rfl) <|
    fm_c (si_iconst dX12_bestOf_46 rfl) <|
    fm_c (si_istore dX12_bestOf_47 rfl) <|
    fm_c (si_iconst dX12_bestOf_49 rfl) <|
    fm_c (si_istore dX12_bestOf_50 rfl) <|
    fm_c (si_iloadn dX12_bestOf_52 rfl) <|
    fm_c (si_iconst dX12_bestOf_53 rfl) <|
    fm_c (si_isub dX12_bestOf_54) <|
    fm_c (si_istore dX12_bestOf_55 rfl) <|
    fm_c (si_iload dX12_bestOf_57) <|
    fm_c (si_if_lt dX12_bestOf_59 rfl) <|
    fm_c (si_aloadn dX12_bestOf_62 rfl) <|
    fm_c (si_getf (C := RX12) (T := TX12) (N := 34) dX12_bestOf_63 rfl inC_12 rfl tw_978) <|
    fm_c (si_iload dX12_bestOf_66) <|
    fm_c (si_iload dX12_bestOf_68) <|
    fm_c (si_iconst dX12_bestOf_70 rfl) <|
    fm_c (si_irem dX12_bestOf_71) <|
    fm_c (si_iast dX12_bestOf_72) <|
    fm_c (si_iload dX12_bestOf_73) <|
    fm_c (si_iconst dX12_bestOf_75 rfl) <|
    fm_c (si_idiv dX12_bestOf_76) <|
    fm_c (si_istore dX12_bestOf_77 rfl) <|
    fm_c (si_iload dX12_bestOf_79) <|
    fm_c (si_iconst dX12_bestOf_81 rfl) <|
    fm_c (si_aloadn dX12_bestOf_82 rfl) <|
    fm_c (si_getf (C := RX12) (T := TX12) (N := 34) dX12_bestOf_83 rfl inC_12 rfl tw_978) <|
    fm_c (si_iload dX12_bestOf_86) <|
    fm_c (si_iald dX12_bestOf_88) <|
    fm_c (si_ishl dX12_bestOf_89) <|
    fm_c (si_ior dX12_bestOf_90) <|
    fm_c (si_istore dX12_bestOf_91 rfl) <|
    fm_c (si_iload dX12_bestOf_93) <|
    fm_c (si_iload dX12_bestOf_95) <|
    fm_c (si_iloadn dX12_bestOf_97 rfl) <|
    fm_c (si_iconst dX12_bestOf_98 rfl) <|
    fm_c (si_isub dX12_bestOf_99) <|
    fm_c (si_ic_ge dX12_bestOf_100 rfl) <|
    fm_c (si_bipush dX12_bestOf_103 rfl) <|
    fm_c (si_aloadn dX12_bestOf_105 rfl) <|
    fm_c (si_getf (C := RX12) (T := TX12) (N := 34) dX12_bestOf_106 rfl inC_12 rfl tw_971) <|
    fm_c (si_iconst dX12_bestOf_109 rfl) <|
    fm_c (si_aloadn dX12_bestOf_110 rfl) <|
    fm_c (si_getf (C := RX12) (T := TX12) (N := 34) dX12_bestOf_111 rfl inC_12 rfl tw_978) <|
    fm_c (si_iload dX12_bestOf_114) <|
    fm_c (si_iald dX12_bestOf_116) <|
    fm_c (si_imul dX12_bestOf_117) <|
    fm_c (si_aloadn dX12_bestOf_118 rfl) <|
    fm_c (si_getf (C := RX12) (T := TX12) (N := 34) dX12_bestOf_119 rfl inC_12 rfl tw_978) <|
    fm_c (si_iload dX12_bestOf_122) <|
    fm_c (si_iconst dX12_bestOf_124 rfl) <|
    fm_c (si_iadd dX12_bestOf_125) <|
    fm_c (si_iald dX12_bestOf_126) <|
    fm_c (si_iadd dX12_bestOf_127) <|
    fm_c (si_iald dX12_bestOf_128) <|
    fm_c (si_isub dX12_bestOf_129) <|
    fm_c (si_goto dX12_bestOf_130 rfl) <|
    fm_c (si_iconst dX12_bestOf_133 rfl) <|
    fm_c (si_iadd dX12_bestOf_134) <|
    fm_c (si_istore dX12_bestOf_135 rfl) <|
    fm_c (si_iinc dX12_bestOf_137 rfl rfl) <|
    fm_c (si_goto dX12_bestOf_140 rfl) <|
    fm_c (si_iload dX12_bestOf_143) <|
    fm_c (si_iloadn dX12_bestOf_145 rfl) <|
    fm_c (si_ic_ne dX12_bestOf_146 rfl) <|
    fm_c (si_iload dX12_bestOf_149) <|
    fm_c (si_iconst dX12_bestOf_151 rfl) <|
    fm_c (si_ic_eq dX12_bestOf_152 rfl) <|
    fm_c (si_iload dX12_bestOf_155) <|
    fm_c (si_iload dX12_bestOf_157) <|
    fm_c (si_ic_ge dX12_bestOf_159 rfl) <|
    fm_c (si_iload dX12_bestOf_162) <|
    fm_c (si_istore dX12_bestOf_164 rfl) <|
    fm_c (si_iconst dX12_bestOf_166 rfl) <|
    fm_c (si_istore dX12_bestOf_167 rfl) <|
    fm_c (si_iload dX12_bestOf_169) <|
    fm_c (si_iconst dX12_bestOf_171 rfl) <|
    fm_c (si_ic_ge dX12_bestOf_172 rfl) <|
    fm_c (si_aloadn dX12_bestOf_175 rfl) <|
    fm_c (si_getf (C := RX12) (T := TX12) (N := 34) dX12_bestOf_176 rfl inC_12 rfl tw_977) <|
    fm_c (si_iload dX12_bestOf_179) <|
    fm_c (si_iload dX12_bestOf_181) <|
    fm_c (si_iloadn dX12_bestOf_183 rfl) <|
    fm_c (si_ic_ge dX12_bestOf_184 rfl) <|
    fm_c (si_aloadn dX12_bestOf_187 rfl) <|
    fm_c (si_getf (C := RX12) (T := TX12) (N := 34) dX12_bestOf_188 rfl inC_12 rfl tw_978) <|
    fm_c (si_iload dX12_bestOf_191) <|
    fm_c (si_iald dX12_bestOf_193) <|
    fm_c (si_goto dX12_bestOf_194 rfl) <|
    fm_c (si_iconst dX12_bestOf_197 rfl) <|
    fm_c (si_iast dX12_bestOf_198) <|
    fm_c (si_iinc dX12_bestOf_199 rfl rfl) <|
    fm_c (si_goto dX12_bestOf_202 rfl) <|
    fm_c (si_iinc dX12_bestOf_205 rfl rfl) <|
    fm_c (si_goto dX12_bestOf_208 rfl) <|
    fm_c (si_iloadn dX12_bestOf_211 rfl) <|
    fm_c (si_iconst dX12_bestOf_212 rfl) <|
    fm_c (si_ic_ne dX12_bestOf_213 rfl) <|
    fm_c (si_iload dX12_bestOf_216) <|
    fm_c (si_goto dX12_bestOf_218 rfl) <|
    fm_c (si_aloadn dX12_bestOf_221 rfl) <|
    fm_c (si_getf (C := RX12) (T := TX12) (N := 34) dX12_bestOf_222 rfl inC_12 rfl tw_977) <|
    fm_c (si_iloadn dX12_bestOf_225 rfl) <|
    fm_c (si_iald dX12_bestOf_226) <|
    fm_c (si_iret rfl dX12_bestOf_227) <|
    fun _ h => absurd h List.not_mem_nil
def K12_best : List (Nat × am_O) := [(0, o_iload 1 1),
  (1, o_i2l 2),
  (2, o_push (aL 0) 3),
  (3, o_push (aL 31) 6),
  (6, o_call S12_in 3 false 9),
  (9, o_if (fun a => a = 0) 43 12),
  (12, o_iload 1 13),
  (13, o_call S12_ones 1 false 16),
  (16, o_push (aI 1) 17),
  (17, o_ic (fun a b => a ≤ b) 43 20),
  (20, o_iload 2 21),
  (21, o_i2l 22),
  (22, o_push (aL (-1)) 25),
  (25, o_push (aL 4) 28),
  (28, o_call S12_in 3 false 31),
  (31, o_if (fun a => a = 0) 43 34),
  (34, o_aload 0 35),
  (35, o_iload 1 36),
  (36, o_iload 2 37),
  (37, o_callv S12_bestOf 12 2 false 40),
  (40, o_goto 45),
  (43, o_push (aI (-2)) 45),
  (45, o_iret)]
def S12_best : am_E := am_S K12_best 3
theorem hdd_12_best : yX12_best.cls ≠ "java/lang/invoke/MethodHandle" ∧ yX12_best.cls ≠ "java/lang/invoke/VarHandle" ∧ (parseMethodDescriptor yX12_best.desc).map (fun d => d.parameters.length) = some 2 := by decide +kernel
set_option maxRecDepth 100000 in
theorem snd_12_best : am_Sound yX12_best cX12_best 3 (some .int) 2 52 S12_best :=
  am_sound_of (own := RX12) (by decide) rfl <|
    fm_c (si_iloadn dX12_best_0 rfl) <|
    fm_c (si_i2l dX12_best_1) <|
    fm_c (si_lconst0 dX12_best_2) <|
    fm_c (si_ldc2 dX12_best_3 tw_1260 rfl) <|
    fm_c (si_call snd_12_in dX12_best_6 tw_1068 tw_1069 tw_78 tw_1070 hdd_12_in ⟨rfl, rfl⟩) <|
    fm_c (si_if_eq dX12_best_9 rfl) <|
    fm_c (si_iloadn dX12_best_12 rfl) <|
    fm_c (si_call snd_12_ones dX12_best_13 tw_1261 tw_1262 tw_78 tw_1263 hdd_12_ones ⟨rfl, rfl⟩) <|
    fm_c (si_iconst dX12_best_16 rfl) <|
    fm_c (si_ic_le dX12_best_17 rfl) <|
    fm_c (si_iloadn dX12_best_20 rfl) <|
    fm_c (si_i2l dX12_best_21) <|
    fm_c (si_ldc2 dX12_best_22 tw_1264 rfl) <|
    fm_c (si_ldc2 dX12_best_25 tw_1142 rfl) <|
    fm_c (si_call snd_12_in dX12_best_28 tw_1068 tw_1069 tw_78 tw_1070 hdd_12_in ⟨rfl, rfl⟩) <|
    fm_c (si_if_eq dX12_best_31 rfl) <|
    fm_c (si_aloadn dX12_best_34 rfl) <|
    fm_c (si_iloadn dX12_best_35 rfl) <|
    fm_c (si_iloadn dX12_best_36 rfl) <|
    fm_c (si_callv (C := RX12) (T := TX12) (N := 34) snd_12_bestOf rfl dX12_best_37 tw_1265 tw_1267 tw_46 tw_78 tw_1268 hdd_12_bestOf ⟨rfl, rfl⟩) <|
    fm_c (si_goto dX12_best_40 rfl) <|
    fm_c (si_bipush dX12_best_43 rfl) <|
    fm_c (si_iret rfl dX12_best_45) <|
    fun _ h => absurd h List.not_mem_nil
def K12_isSheet : List (Nat × am_O) := [(0, o_iload 0 1),
  (1, o_i2l 2),
  (2, o_push (aL 0) 3),
  (3, o_push (aL 3) 6),
  (6, o_call S12_in 3 false 9),
  (9, o_zret)]
def S12_isSheet : am_E := am_S K12_isSheet 1
theorem hdd_12_isSheet : yX12_isSheet.cls ≠ "java/lang/invoke/MethodHandle" ∧ yX12_isSheet.cls ≠ "java/lang/invoke/VarHandle" ∧ (parseMethodDescriptor yX12_isSheet.desc).map (fun d => d.parameters.length) = some 1 := by decide +kernel
set_option maxRecDepth 100000 in
theorem snd_12_isSheet : am_Sound yX12_isSheet cX12_isSheet 1 (some .boolean) 1 25 S12_isSheet :=
  am_sound_of (own := RX12) (by decide) rfl <|
    fm_c (si_iloadn dX12_isSheet_0 rfl) <|
    fm_c (si_i2l dX12_isSheet_1) <|
    fm_c (si_lconst0 dX12_isSheet_2) <|
    fm_c (si_ldc2 dX12_isSheet_3 tw_1067 rfl) <|
    fm_c (si_call snd_12_in dX12_isSheet_6 tw_1068 tw_1069 tw_78 tw_1070 hdd_12_in ⟨rfl, rfl⟩) <|
    fm_c (si_zret rfl dX12_isSheet_9) <|
    fun _ h => absurd h List.not_mem_nil
def K12_met : List (Nat × am_O) := [(0, o_aload 0 1),
  (1, o_iload 1 2),
  (2, o_putI 12 4 5),
  (5, o_push (aI (-10)) 7),
  (7, o_iload 1 8),
  (8, o_bin (fun a b => w32 (a - b)) 9),
  (9, o_iret)]
def S12_met : am_E := am_S K12_met 2
theorem hdd_12_met : yX12_met.cls ≠ "java/lang/invoke/MethodHandle" ∧ yX12_met.cls ≠ "java/lang/invoke/VarHandle" ∧ (parseMethodDescriptor yX12_met.desc).map (fun d => d.parameters.length) = some 1 := by decide +kernel
set_option maxRecDepth 100000 in
theorem snd_12_met : am_Sound yX12_met cX12_met 2 (some .int) 0 0 S12_met :=
  am_sound_of (own := RX12) (by decide) rfl <|
    fm_c (si_aloadn dX12_met_0 rfl) <|
    fm_c (si_iloadn dX12_met_1 rfl) <|
    fm_c (si_putI (C := RX12) (T := TX12) (N := 34) dX12_met_2 rfl inC_12 tyX12 tyX12_ok nmX12 rfl tw_961 rfl (tyX12_ok 4 (by decide))) <|
    fm_c (si_bipush dX12_met_5 rfl) <|
    fm_c (si_iloadn dX12_met_7 rfl) <|
    fm_c (si_isub dX12_met_8) <|
    fm_c (si_iret rfl dX12_met_9) <|
    fun _ h => absurd h List.not_mem_nil
def K12_copy : List (Nat × am_O) := [(0, o_iload 1 1),
  (1, o_call S12_isSheet 1 false 4),
  (4, o_if (fun a => a = 0) 14 7),
  (7, o_iload 3 8),
  (8, o_call S12_isSheet 1 false 11),
  (11, o_if (fun a => ¬ a = 0) 17 14),
  (14, o_push (aI (-2)) 16),
  (16, o_iret),
  (17, o_aload 0 18),
  (18, o_getf 12 0 21),
  (21, o_iload 1 22),
  (22, o_iald 23),
  (23, o_if (fun a => a < 0) 35 26),
  (26, o_aload 0 27),
  (27, o_getf 12 0 30),
  (30, o_iload 3 31),
  (31, o_iald 32),
  (32, o_if (fun a => 0 ≤ a) 41 35),
  (35, o_aload 0 36),
  (36, o_push (aI 1) 37),
  (37, o_callv S12_met 12 1 false 40),
  (40, o_iret),
  (41, o_aload 0 42),
  (42, o_getf 12 0 45),
  (45, o_iload 1 46),
  (46, o_iald 47),
  (47, o_aload 0 48),
  (48, o_getf 12 0 51),
  (51, o_iload 3 52),
  (52, o_iald 53),
  (53, o_ic (fun a b => a = b) 62 56),
  (56, o_aload 0 57),
  (57, o_push (aI 4) 58),
  (58, o_callv S12_met 12 1 false 61),
  (61, o_iret),
  (62, o_iload 2 63),
  (63, o_if (fun a => a < 0) 111 66),
  (66, o_iload 4 68),
  (68, o_if (fun a => a < 0) 111 71),
  (71, o_iload 5 73),
  (73, o_if (fun a => a < 0) 111 76),
  (76, o_iload 2 77),
  (77, o_i2l 78),
  (78, o_iload 5 80),
  (80, o_i2l 81),
  (81, o_binL (fun a b => w64 (a + b)) 82),
  (82, o_aload 0 83),
  (83, o_getf 12 1 86),
  (86, o_iload 1 87),
  (87, o_iald 88),
  (88, o_i2l 89),
  (89, o_lcmp 90),
  (90, o_if (fun a => 0 < a) 111 93),
  (93, o_iload 4 95),
  (95, o_i2l 96),
  (96, o_iload 5 98),
  (98, o_i2l 99),
  (99, o_binL (fun a b => w64 (a + b)) 100),
  (100, o_aload 0 101),
  (101, o_getf 12 1 104),
  (104, o_iload 3 105),
  (105, o_iald 106),
  (106, o_i2l 107),
  (107, o_lcmp 108),
  (108, o_if (fun a => a ≤ 0) 117 111),
  (111, o_aload 0 112),
  (112, o_push (aI 2) 113),
  (113, o_callv S12_met 12 1 false 116),
  (116, o_iret),
  (117, o_push (aI 0) 118),
  (118, o_istore 6 120),
  (120, o_iload 6 122),
  (122, o_iload 5 124),
  (124, o_ic (fun a b => b ≤ a) 154 127),
  (127, o_aload 0 128),
  (128, o_getf 12 3 131),
  (131, o_iload 6 133),
  (133, o_aload 0 134),
  (134, o_getf 12 2 137),
  (137, o_push (aI 64) 139),
  (139, o_iload 1 140),
  (140, o_bin (fun a b => w32 (a * b)) 141),
  (141, o_iload 2 142),
  (142, o_bin (fun a b => w32 (a + b)) 143),
  (143, o_iload 6 145),
  (145, o_bin (fun a b => w32 (a + b)) 146),
  (146, o_iald 147),
  (147, o_iast 148),
  (148, o_iinc 6 1 151),
  (151, o_goto 120),
  (154, o_push (aI 0) 155),
  (155, o_istore 6 157),
  (157, o_iload 6 159),
  (159, o_iload 5 161),
  (161, o_ic (fun a b => b ≤ a) 192 164),
  (164, o_aload 0 165),
  (165, o_getf 12 2 168),
  (168, o_push (aI 64) 170),
  (170, o_iload 3 171),
  (171, o_bin (fun a b => w32 (a * b)) 172),
  (172, o_iload 4 174),
  (174, o_bin (fun a b => w32 (a + b)) 175),
  (175, o_iload 6 177),
  (177, o_bin (fun a b => w32 (a + b)) 178),
  (178, o_aload 0 179),
  (179, o_getf 12 3 182),
  (182, o_iload 6 184),
  (184, o_iald 185),
  (185, o_iast 186),
  (186, o_iinc 6 1 189),
  (189, o_goto 157),
  (192, o_push (aI 1) 193),
  (193, o_iret)]
def S12_copy : am_E := am_S K12_copy 7
theorem hdd_12_copy : yX12_copy.cls ≠ "java/lang/invoke/MethodHandle" ∧ yX12_copy.cls ≠ "java/lang/invoke/VarHandle" ∧ (parseMethodDescriptor yX12_copy.desc).map (fun d => d.parameters.length) = some 5 := by decide +kernel
set_option maxRecDepth 100000 in
theorem snd_12_copy : am_Sound yX12_copy cX12_copy 7 (some .int) 2 45 S12_copy :=
  am_sound_of (own := RX12) (by decide) rfl <|
    fm_c (si_iloadn dX12_copy_0 rfl) <|
    fm_c (si_call snd_12_isSheet dX12_copy_1 tw_1064 tw_1065 tw_78 tw_1066 hdd_12_isSheet ⟨rfl, rfl⟩) <|
    fm_c (si_if_eq dX12_copy_4 rfl) <|
    fm_c (si_iloadn dX12_copy_7 rfl) <|
    fm_c (si_call snd_12_isSheet dX12_copy_8 tw_1064 tw_1065 tw_78 tw_1066 hdd_12_isSheet ⟨rfl, rfl⟩) <|
    fm_c (si_if_ne dX12_copy_11 rfl) <|
    fm_c (si_bipush dX12_copy_14 rfl) <|
    fm_c (si_iret rfl dX12_copy_16) <|
    fm_c (si_aloadn dX12_copy_17 rfl) <|
    fm_c (si_getf (C := RX12) (T := TX12) (N := 34) dX12_copy_18 rfl inC_12 rfl tw_957) <|
    fm_c (si_iloadn dX12_copy_21 rfl) <|
    fm_c (si_iald dX12_copy_22) <|
    fm_c (si_if_lt dX12_copy_23 rfl) <|
    fm_c (si_aloadn dX12_copy_26 rfl) <|
    fm_c (si_getf (C := RX12) (T := TX12) (N := 34) dX12_copy_27 rfl inC_12 rfl tw_957) <|
    fm_c (si_iloadn dX12_copy_30 rfl) <|
    fm_c (si_iald dX12_copy_31) <|
    fm_c (si_if_ge dX12_copy_32 rfl) <|
    fm_c (si_aloadn dX12_copy_35 rfl) <|
    fm_c (si_iconst dX12_copy_36 rfl) <|
    fm_c (si_callv (C := RX12) (T := TX12) (N := 34) snd_12_met rfl dX12_copy_37 tw_1072 tw_1074 tw_27 tw_78 tw_1075 hdd_12_met ⟨rfl, rfl⟩) <|
    fm_c (si_iret rfl dX12_copy_40) <|
    fm_c (si_aloadn dX12_copy_41 rfl) <|
    fm_c (si_getf (C := RX12) (T := TX12) (N := 34) dX12_copy_42 rfl inC_12 rfl tw_957) <|
    fm_c (si_iloadn dX12_copy_45 rfl) <|
    fm_c (si_iald dX12_copy_46) <|
    fm_c (si_aloadn dX12_copy_47 rfl) <|
    fm_c (si_getf (C := RX12) (T := TX12) (N := 34) dX12_copy_48 rfl inC_12 rfl tw_957) <|
    fm_c (si_iloadn dX12_copy_51 rfl) <|
    fm_c (si_iald dX12_copy_52) <|
    fm_c (si_ic_eq dX12_copy_53 rfl) <|
    fm_c (si_aloadn dX12_copy_56 rfl) <|
    fm_c (si_iconst dX12_copy_57 rfl) <|
    fm_c (si_callv (C := RX12) (T := TX12) (N := 34) snd_12_met rfl dX12_copy_58 tw_1072 tw_1074 tw_27 tw_78 tw_1075 hdd_12_met ⟨rfl, rfl⟩) <|
    fm_c (si_iret rfl dX12_copy_61) <|
    fm_c (si_iloadn dX12_copy_62 rfl) <|
    fm_c (si_if_lt dX12_copy_63 rfl) <|
    fm_c (si_iload dX12_copy_66) <|
    fm_c (si_if_lt dX12_copy_68 rfl) <|
    fm_c (si_iload dX12_copy_71) <|
    fm_c (si_if_lt dX12_copy_73 rfl) <|
    fm_c (si_iloadn dX12_copy_76 rfl) <|
    fm_c (si_i2l dX12_copy_77) <|
    fm_c (si_iload dX12_copy_78) <|
    fm_c (si_i2l dX12_copy_80) <|
    fm_c (si_ladd dX12_copy_81) <|
    fm_c (si_aloadn dX12_copy_82 rfl) <|
    fm_c (si_getf (C := RX12) (T := TX12) (N := 34) dX12_copy_83 rfl inC_12 rfl tw_958) <|
    fm_c (si_iloadn dX12_copy_86 rfl) <|
    fm_c (si_iald dX12_copy_87) <|
    fm_c (si_i2l dX12_copy_88) <|
    fm_c (si_lcmp dX12_copy_89) <|
    fm_c (si_if_gt dX12_copy_90 rfl) <|
    fm_c (si_iload dX12_copy_93) <|
    fm_c (si_i2l dX12_copy_95) <|
    fm_c (si_iload dX12_copy_96) <|
    fm_c (si_i2l dX12_copy_98) <|
    fm_c (si_ladd dX12_copy_99) <|
    fm_c (si_aloadn dX12_copy_100 rfl) <|
    fm_c (si_getf (C := RX12) (T := TX12) (N := 34) dX12_copy_101 rfl inC_12 rfl tw_958) <|
    fm_c (si_iloadn dX12_copy_104 rfl) <|
    fm_c (si_iald dX12_copy_105) <|
    fm_c (si_i2l dX12_copy_106) <|
    fm_c (si_lcmp dX12_copy_107) <|
    fm_c (si_if_le dX12_copy_108 rfl) <|
    fm_c (si_aloadn dX12_copy_111 rfl) <|
    fm_c (si_iconst dX12_copy_112 rfl) <|
    fm_c (si_callv (C := RX12) (T := TX12) (N := 34) snd_12_met rfl dX12_copy_113 tw_1072 tw_1074 tw_27 tw_78 tw_1075 hdd_12_met ⟨rfl, rfl⟩) <|
    fm_c (si_iret rfl dX12_copy_116) <|
    fm_c (si_iconst dX12_copy_117 rfl) <|
    fm_c (si_istore dX12_copy_118 rfl) <|
    fm_c (si_iload dX12_copy_120) <|
    fm_c (si_iload dX12_copy_122) <|
    fm_c (si_ic_ge dX12_copy_124 rfl) <|
    fm_c (si_aloadn dX12_copy_127 rfl) <|
    fm_c (si_getf (C := RX12) (T := TX12) (N := 34) dX12_copy_128 rfl inC_12 rfl tw_960) <|
    fm_c (si_iload dX12_copy_131) <|
    fm_c (si_aloadn dX12_copy_133 rfl) <|
    fm_c (si_getf (C := RX12) (T := TX12) (N := 34) dX12_copy_134 rfl inC_12 rfl tw_959) <|
    fm_c (si_bipush dX12_copy_137 rfl) <|
    fm_c (si_iloadn dX12_copy_139 rfl) <|
    fm_c (si_imul dX12_copy_140) <|
    fm_c (si_iloadn dX12_copy_141 rfl) <|
    fm_c (si_iadd dX12_copy_142) <|
    fm_c (si_iload dX12_copy_143) <|
    fm_c (si_iadd dX12_copy_145) <|
    fm_c (si_iald dX12_copy_146) <|
    fm_c (si_iast dX12_copy_147) <|
    fm_c (si_iinc dX12_copy_148 rfl rfl) <|
    fm_c (si_goto dX12_copy_151 rfl) <|
    fm_c (si_iconst dX12_copy_154 rfl) <|
    fm_c (si_istore dX12_copy_155 rfl) <|
    fm_c (si_iload dX12_copy_157) <|
    fm_c (si_iload dX12_copy_159) <|
    fm_c (si_ic_ge dX12_copy_161 rfl) <|
    fm_c (si_aloadn dX12_copy_164 rfl) <|
    fm_c (si_getf (C := RX12) (T := TX12) (N := 34) dX12_copy_165 rfl inC_12 rfl tw_959) <|
    fm_c (si_bipush dX12_copy_168 rfl) <|
    fm_c (si_iloadn dX12_copy_170 rfl) <|
    fm_c (si_imul dX12_copy_171) <|
    fm_c (si_iload dX12_copy_172) <|
    fm_c (si_iadd dX12_copy_174) <|
    fm_c (si_iload dX12_copy_175) <|
    fm_c (si_iadd dX12_copy_177) <|
    fm_c (si_aloadn dX12_copy_178 rfl) <|
    fm_c (si_getf (C := RX12) (T := TX12) (N := 34) dX12_copy_179 rfl inC_12 rfl tw_960) <|
    fm_c (si_iload dX12_copy_182) <|
    fm_c (si_iald dX12_copy_184) <|
    fm_c (si_iast dX12_copy_185) <|
    fm_c (si_iinc dX12_copy_186 rfl rfl) <|
    fm_c (si_goto dX12_copy_189 rfl) <|
    fm_c (si_iconst dX12_copy_192 rfl) <|
    fm_c (si_iret rfl dX12_copy_193) <|
    fun _ h => absurd h List.not_mem_nil
def K12_count : List (Nat × am_O) := [(0, o_push (aI 0) 1),
  (1, o_istore 2 2),
  (2, o_aload 0 3),
  (3, o_callv S12_reads 12 0 true 6),
  (6, o_iload 1 7),
  (7, o_tsw 0 8 [56, 91, 96, 101, 106, 106, 106, 115, 120] 125),
  (56, o_push (aI 0) 57),
  (57, o_istore 3 58),
  (58, o_iload 3 59),
  (59, o_push (aI 64) 61),
  (61, o_ic (fun a b => b ≤ a) 89 64),
  (64, o_iload 2 65),
  (65, o_aload 0 66),
  (66, o_getf 12 8 69),
  (69, o_iload 3 70),
  (70, o_iald 71),
  (71, o_push (aI 99) 73),
  (73, o_ic (fun a b => ¬ a = b) 80 76),
  (76, o_push (aI 0) 77),
  (77, o_goto 81),
  (80, o_push (aI 1) 81),
  (81, o_bin (fun a b => w32 (a + b)) 82),
  (82, o_istore 2 83),
  (83, o_iinc 3 1 86),
  (86, o_goto 58),
  (89, o_iload 2 90),
  (90, o_iret),
  (91, o_aload 0 92),
  (92, o_getf 12 9 95),
  (95, o_iret),
  (96, o_aload 0 97),
  (97, o_getf 12 11 100),
  (100, o_iret),
  (101, o_aload 0 102),
  (102, o_getf 12 17 105),
  (105, o_iret),
  (106, o_aload 0 107),
  (107, o_getf 12 6 110),
  (110, o_iload 1 111),
  (111, o_push (aI 4) 112),
  (112, o_bin (fun a b => w32 (a - b)) 113),
  (113, o_iald 114),
  (114, o_iret),
  (115, o_aload 0 116),
  (116, o_getf 12 28 119),
  (119, o_iret),
  (120, o_aload 0 121),
  (121, o_getf 12 4 124),
  (124, o_iret),
  (125, o_push (aI (-2)) 127),
  (127, o_iret)]
def S12_count : am_E := am_S K12_count 4
theorem hdd_12_count : yX12_count.cls ≠ "java/lang/invoke/MethodHandle" ∧ yX12_count.cls ≠ "java/lang/invoke/VarHandle" ∧ (parseMethodDescriptor yX12_count.desc).map (fun d => d.parameters.length) = some 1 := by decide +kernel
set_option maxRecDepth 100000 in
theorem snd_12_count : am_Sound yX12_count cX12_count 4 (some .int) 4 94 S12_count :=
  am_sound_of (own := RX12) (by decide) rfl <|
    fm_c (si_iconst dX12_count_0 rfl) <|
    fm_c (si_istoren dX12_count_1 rfl rfl) <|
    fm_c (si_aloadn dX12_count_2 rfl) <|
    fm_c (si_callv (C := RX12) (T := TX12) (N := 34) snd_12_reads rfl dX12_count_3 tw_1182 tw_1184 tw_35 tw_78 tw_1185 hdd_12_reads ⟨rfl, rfl⟩) <|
    fm_c (si_iloadn dX12_count_6 rfl) <|
    fm_c (si_tsw dX12_count_7 rfl rfl rfl) <|
    fm_c (si_iconst dX12_count_56 rfl) <|
    fm_c (si_istoren dX12_count_57 rfl rfl) <|
    fm_c (si_iloadn dX12_count_58 rfl) <|
    fm_c (si_bipush dX12_count_59 rfl) <|
    fm_c (si_ic_ge dX12_count_61 rfl) <|
    fm_c (si_iloadn dX12_count_64 rfl) <|
    fm_c (si_aloadn dX12_count_65 rfl) <|
    fm_c (si_getf (C := RX12) (T := TX12) (N := 34) dX12_count_66 rfl inC_12 rfl tw_965) <|
    fm_c (si_iloadn dX12_count_69 rfl) <|
    fm_c (si_iald dX12_count_70) <|
    fm_c (si_bipush dX12_count_71 rfl) <|
    fm_c (si_ic_ne dX12_count_73 rfl) <|
    fm_c (si_iconst dX12_count_76 rfl) <|
    fm_c (si_goto dX12_count_77 rfl) <|
    fm_c (si_iconst dX12_count_80 rfl) <|
    fm_c (si_iadd dX12_count_81) <|
    fm_c (si_istoren dX12_count_82 rfl rfl) <|
    fm_c (si_iinc dX12_count_83 rfl rfl) <|
    fm_c (si_goto dX12_count_86 rfl) <|
    fm_c (si_iloadn dX12_count_89 rfl) <|
    fm_c (si_iret rfl dX12_count_90) <|
    fm_c (si_aloadn dX12_count_91 rfl) <|
    fm_c (si_getf (C := RX12) (T := TX12) (N := 34) dX12_count_92 rfl inC_12 rfl tw_966) <|
    fm_c (si_iret rfl dX12_count_95) <|
    fm_c (si_aloadn dX12_count_96 rfl) <|
    fm_c (si_getf (C := RX12) (T := TX12) (N := 34) dX12_count_97 rfl inC_12 rfl tw_968) <|
    fm_c (si_iret rfl dX12_count_100) <|
    fm_c (si_aloadn dX12_count_101 rfl) <|
    fm_c (si_getf (C := RX12) (T := TX12) (N := 34) dX12_count_102 rfl inC_12 rfl tw_974) <|
    fm_c (si_iret rfl dX12_count_105) <|
    fm_c (si_aloadn dX12_count_106 rfl) <|
    fm_c (si_getf (C := RX12) (T := TX12) (N := 34) dX12_count_107 rfl inC_12 rfl tw_963) <|
    fm_c (si_iloadn dX12_count_110 rfl) <|
    fm_c (si_iconst dX12_count_111 rfl) <|
    fm_c (si_isub dX12_count_112) <|
    fm_c (si_iald dX12_count_113) <|
    fm_c (si_iret rfl dX12_count_114) <|
    fm_c (si_aloadn dX12_count_115 rfl) <|
    fm_c (si_getf (C := RX12) (T := TX12) (N := 34) dX12_count_116 rfl inC_12 rfl tw_985) <|
    fm_c (si_iret rfl dX12_count_119) <|
    fm_c (si_aloadn dX12_count_120 rfl) <|
    fm_c (si_getf (C := RX12) (T := TX12) (N := 34) dX12_count_121 rfl inC_12 rfl tw_961) <|
    fm_c (si_iret rfl dX12_count_124) <|
    fm_c (si_bipush dX12_count_125 rfl) <|
    fm_c (si_iret rfl dX12_count_127) <|
    fun _ h => absurd h List.not_mem_nil
def K12_countsOf : List (Nat × am_O) := [(0, o_push (aI 1) 1),
  (1, o_istore 3 2),
  (2, o_push (aI 0) 3),
  (3, o_istore 4 5),
  (5, o_push (aI 1) 6),
  (6, o_istore 5 8),
  (8, o_iload 5 10),
  (10, o_push (aI 61) 12),
  (12, o_ic (fun a b => b ≤ a) 76 15),
  (15, o_iload 1 16),
  (16, o_iload 0 17),
  (17, o_iload 5 19),
  (19, o_bin (fun a b => w32 (a + b)) 20),
  (20, o_push (aI 1) 21),
  (21, o_bin (fun a b => w32 (a - b)) 22),
  (22, o_iload 5 24),
  (24, o_idiv 25),
  (25, o_bin (fun a b => w32 (a * b)) 26),
  (26, o_iload 2 27),
  (27, o_iload 5 29),
  (29, o_push (aI 1) 30),
  (30, o_bin (fun a b => w32 (a - b)) 31),
  (31, o_bin (fun a b => w32 (a * b)) 32),
  (32, o_bin (fun a b => w32 (a + b)) 33),
  (33, o_istore 6 35),
  (35, o_iload 5 37),
  (37, o_push (aI 1) 38),
  (38, o_ic (fun a b => a = b) 48 41),
  (41, o_iload 6 43),
  (43, o_iload 4 45),
  (45, o_ic (fun a b => b ≤ a) 53 48),
  (48, o_iload 5 50),
  (50, o_goto 54),
  (53, o_iload 3 54),
  (54, o_istore 3 55),
  (55, o_iload 3 56),
  (56, o_iload 5 58),
  (58, o_ic (fun a b => ¬ a = b) 66 61),
  (61, o_iload 6 63),
  (63, o_goto 68),
  (66, o_iload 4 68),
  (68, o_istore 4 70),
  (70, o_iinc 5 1 73),
  (73, o_goto 8),
  (76, o_iload 3 77),
  (77, o_iret)]
def S12_countsOf : am_E := am_S K12_countsOf 7
theorem hdd_12_countsOf : yX12_countsOf.cls ≠ "java/lang/invoke/MethodHandle" ∧ yX12_countsOf.cls ≠ "java/lang/invoke/VarHandle" ∧ (parseMethodDescriptor yX12_countsOf.desc).map (fun d => d.parameters.length) = some 3 := by decide +kernel
set_option maxRecDepth 100000 in
theorem snd_12_countsOf : am_Sound yX12_countsOf cX12_countsOf 7 (some .int) 0 0 S12_countsOf :=
  am_sound_of (own := RX12) (by decide) rfl <|
    fm_c (si_iconst dX12_countsOf_0 rfl) <|
    fm_c (si_istoren dX12_countsOf_1 rfl rfl) <|
    fm_c (si_iconst dX12_countsOf_2 rfl) <|
    fm_c (si_istore dX12_countsOf_3 rfl) <|
    fm_c (si_iconst dX12_countsOf_5 rfl) <|
    fm_c (si_istore dX12_countsOf_6 rfl) <|
    fm_c (si_iload dX12_countsOf_8) <|
    fm_c (si_bipush dX12_countsOf_10 rfl) <|
    fm_c (si_ic_ge dX12_countsOf_12 rfl) <|
    fm_c (si_iloadn dX12_countsOf_15 rfl) <|
    fm_c (si_iloadn dX12_countsOf_16 rfl) <|
    fm_c (si_iload dX12_countsOf_17) <|
    fm_c (si_iadd dX12_countsOf_19) <|
    fm_c (si_iconst dX12_countsOf_20 rfl) <|
    fm_c (si_isub dX12_countsOf_21) <|
    fm_c (si_iload dX12_countsOf_22) <|
    fm_c (si_idiv dX12_countsOf_24) <|
    fm_c (si_imul dX12_countsOf_25) <|
    fm_c (si_iloadn dX12_countsOf_26 rfl) <|
    fm_c (si_iload dX12_countsOf_27) <|
    fm_c (si_iconst dX12_countsOf_29 rfl) <|
    fm_c (si_isub dX12_countsOf_30) <|
    fm_c (si_imul dX12_countsOf_31) <|
    fm_c (si_iadd dX12_countsOf_32) <|
    fm_c (si_istore dX12_countsOf_33 rfl) <|
    fm_c (si_iload dX12_countsOf_35) <|
    fm_c (si_iconst dX12_countsOf_37 rfl) <|
    fm_c (si_ic_eq dX12_countsOf_38 rfl) <|
    fm_c (si_iload dX12_countsOf_41) <|
    fm_c (si_iload dX12_countsOf_43) <|
    fm_c (si_ic_ge dX12_countsOf_45 rfl) <|
    fm_c (si_iload dX12_countsOf_48) <|
    fm_c (si_goto dX12_countsOf_50 rfl) <|
    fm_c (si_iloadn dX12_countsOf_53 rfl) <|
    fm_c (si_istoren dX12_countsOf_54 rfl rfl) <|
    fm_c (si_iloadn dX12_countsOf_55 rfl) <|
    fm_c (si_iload dX12_countsOf_56) <|
    fm_c (si_ic_ne dX12_countsOf_58 rfl) <|
    fm_c (si_iload dX12_countsOf_61) <|
    fm_c (si_goto dX12_countsOf_63 rfl) <|
    fm_c (si_iload dX12_countsOf_66) <|
    fm_c (si_istore dX12_countsOf_68 rfl) <|
    fm_c (si_iinc dX12_countsOf_70 rfl rfl) <|
    fm_c (si_goto dX12_countsOf_73 rfl) <|
    fm_c (si_iloadn dX12_countsOf_76 rfl) <|
    fm_c (si_iret rfl dX12_countsOf_77) <|
    fun _ h => absurd h List.not_mem_nil
def K12_counts : List (Nat × am_O) := [(0, o_iload 1 1),
  (1, o_i2l 2),
  (2, o_push (aL 1) 3),
  (3, o_push (aL 99) 6),
  (6, o_call S12_in 3 false 9),
  (9, o_if (fun a => a = 0) 45 12),
  (12, o_iload 2 13),
  (13, o_i2l 14),
  (14, o_push (aL 0) 15),
  (15, o_push (aL 99) 18),
  (18, o_call S12_in 3 false 21),
  (21, o_if (fun a => a = 0) 45 24),
  (24, o_iload 3 25),
  (25, o_i2l 26),
  (26, o_push (aL 0) 27),
  (27, o_push (aL 99) 30),
  (30, o_call S12_in 3 false 33),
  (33, o_if (fun a => a = 0) 45 36),
  (36, o_iload 1 37),
  (37, o_iload 2 38),
  (38, o_iload 3 39),
  (39, o_call S12_countsOf 3 false 42),
  (42, o_goto 47),
  (45, o_push (aI (-2)) 47),
  (47, o_iret)]
def S12_counts : am_E := am_S K12_counts 4
theorem hdd_12_counts : yX12_counts.cls ≠ "java/lang/invoke/MethodHandle" ∧ yX12_counts.cls ≠ "java/lang/invoke/VarHandle" ∧ (parseMethodDescriptor yX12_counts.desc).map (fun d => d.parameters.length) = some 3 := by decide +kernel
set_option maxRecDepth 100000 in
theorem snd_12_counts : am_Sound yX12_counts cX12_counts 4 (some .int) 1 26 S12_counts :=
  am_sound_of (own := RX12) (by decide) rfl <|
    fm_c (si_iloadn dX12_counts_0 rfl) <|
    fm_c (si_i2l dX12_counts_1) <|
    fm_c (si_lconst1 dX12_counts_2) <|
    fm_c (si_ldc2 dX12_counts_3 tw_1399 rfl) <|
    fm_c (si_call snd_12_in dX12_counts_6 tw_1068 tw_1069 tw_78 tw_1070 hdd_12_in ⟨rfl, rfl⟩) <|
    fm_c (si_if_eq dX12_counts_9 rfl) <|
    fm_c (si_iloadn dX12_counts_12 rfl) <|
    fm_c (si_i2l dX12_counts_13) <|
    fm_c (si_lconst0 dX12_counts_14) <|
    fm_c (si_ldc2 dX12_counts_15 tw_1399 rfl) <|
    fm_c (si_call snd_12_in dX12_counts_18 tw_1068 tw_1069 tw_78 tw_1070 hdd_12_in ⟨rfl, rfl⟩) <|
    fm_c (si_if_eq dX12_counts_21 rfl) <|
    fm_c (si_iloadn dX12_counts_24 rfl) <|
    fm_c (si_i2l dX12_counts_25) <|
    fm_c (si_lconst0 dX12_counts_26) <|
    fm_c (si_ldc2 dX12_counts_27 tw_1399 rfl) <|
    fm_c (si_call snd_12_in dX12_counts_30 tw_1068 tw_1069 tw_78 tw_1070 hdd_12_in ⟨rfl, rfl⟩) <|
    fm_c (si_if_eq dX12_counts_33 rfl) <|
    fm_c (si_iloadn dX12_counts_36 rfl) <|
    fm_c (si_iloadn dX12_counts_37 rfl) <|
    fm_c (si_iloadn dX12_counts_38 rfl) <|
    fm_c (si_call snd_12_countsOf dX12_counts_39 tw_1400 tw_1401 tw_78 tw_1402 hdd_12_countsOf ⟨rfl, rfl⟩) <|
    fm_c (si_goto dX12_counts_42 rfl) <|
    fm_c (si_bipush dX12_counts_45 rfl) <|
    fm_c (si_iret rfl dX12_counts_47) <|
    fun _ h => absurd h List.not_mem_nil
def K12_cut : List (Nat × am_O) := [(0, o_iload 0 1),
  (1, o_if (fun a => ¬ a = 0) 9 4),
  (4, o_iload 1 5),
  (5, o_un w8 6),
  (6, o_goto 20),
  (9, o_iload 0 10),
  (10, o_push (aI 1) 11),
  (11, o_ic (fun a b => ¬ a = b) 19 14),
  (14, o_iload 1 15),
  (15, o_un w16 16),
  (16, o_goto 20),
  (19, o_iload 1 20),
  (20, o_iret)]
def S12_cut : am_E := am_S K12_cut 2
theorem hdd_12_cut : yX12_cut.cls ≠ "java/lang/invoke/MethodHandle" ∧ yX12_cut.cls ≠ "java/lang/invoke/VarHandle" ∧ (parseMethodDescriptor yX12_cut.desc).map (fun d => d.parameters.length) = some 2 := by decide +kernel
set_option maxRecDepth 100000 in
theorem snd_12_cut : am_Sound yX12_cut cX12_cut 2 (some .int) 0 0 S12_cut :=
  am_sound_of (own := RX12) (by decide) rfl <|
    fm_c (si_iloadn dX12_cut_0 rfl) <|
    fm_c (si_if_ne dX12_cut_1 rfl) <|
    fm_c (si_iloadn dX12_cut_4 rfl) <|
    fm_c (si_i2b dX12_cut_5) <|
    fm_c (si_goto dX12_cut_6 rfl) <|
    fm_c (si_iloadn dX12_cut_9 rfl) <|
    fm_c (si_iconst dX12_cut_10 rfl) <|
    fm_c (si_ic_ne dX12_cut_11 rfl) <|
    fm_c (si_iloadn dX12_cut_14 rfl) <|
    fm_c (si_i2s dX12_cut_15) <|
    fm_c (si_goto dX12_cut_16 rfl) <|
    fm_c (si_iloadn dX12_cut_19 rfl) <|
    fm_c (si_iret rfl dX12_cut_20) <|
    fun _ h => absurd h List.not_mem_nil
def K12_dense : List (Nat × am_O) := [(0, o_aload 0 1),
  (1, o_callv S12_reads 12 0 true 4),
  (4, o_aload 0 5),
  (5, o_iload 1 6),
  (6, o_callv S12_isPlace 12 1 false 9),
  (9, o_if (fun a => a = 0) 21 12),
  (12, o_aload 0 13),
  (13, o_getf 12 8 16),
  (16, o_iload 1 17),
  (17, o_iald 18),
  (18, o_goto 23),
  (21, o_push (aI (-2)) 23),
  (23, o_iret)]
def S12_dense : am_E := am_S K12_dense 2
theorem hdd_12_dense : yX12_dense.cls ≠ "java/lang/invoke/MethodHandle" ∧ yX12_dense.cls ≠ "java/lang/invoke/VarHandle" ∧ (parseMethodDescriptor yX12_dense.desc).map (fun d => d.parameters.length) = some 1 := by decide +kernel
set_option maxRecDepth 100000 in
theorem snd_12_dense : am_Sound yX12_dense cX12_dense 2 (some .int) 4 94 S12_dense :=
  am_sound_of (own := RX12) (by decide) rfl <|
    fm_c (si_aloadn dX12_dense_0 rfl) <|
    fm_c (si_callv (C := RX12) (T := TX12) (N := 34) snd_12_reads rfl dX12_dense_1 tw_1182 tw_1184 tw_35 tw_78 tw_1185 hdd_12_reads ⟨rfl, rfl⟩) <|
    fm_c (si_aloadn dX12_dense_4 rfl) <|
    fm_c (si_iloadn dX12_dense_5 rfl) <|
    fm_c (si_callv (C := RX12) (T := TX12) (N := 34) snd_12_isPlace rfl dX12_dense_6 tw_1190 tw_1192 tw_37 tw_78 tw_1193 hdd_12_isPlace ⟨rfl, rfl⟩) <|
    fm_c (si_if_eq dX12_dense_9 rfl) <|
    fm_c (si_aloadn dX12_dense_12 rfl) <|
    fm_c (si_getf (C := RX12) (T := TX12) (N := 34) dX12_dense_13 rfl inC_12 rfl tw_965) <|
    fm_c (si_iloadn dX12_dense_16 rfl) <|
    fm_c (si_iald dX12_dense_17) <|
    fm_c (si_goto dX12_dense_18 rfl) <|
    fm_c (si_bipush dX12_dense_21 rfl) <|
    fm_c (si_iret rfl dX12_dense_23) <|
    fun _ h => absurd h List.not_mem_nil
def K12_fault : List (Nat × am_O) := [(0, o_iload 1 1),
  (1, o_i2l 2),
  (2, o_push (aL 0) 3),
  (3, o_push (aL 2) 6),
  (6, o_call S12_in 3 false 9),
  (9, o_if (fun a => ¬ a = 0) 17 12),
  (12, o_push (aI (-2)) 14),
  (14, o_goto 44),
  (17, o_iload 1 18),
  (18, o_if (fun a => ¬ a = 0) 28 21),
  (21, o_aload 0 22),
  (22, o_callv S12_readsFair 12 0 false 25),
  (25, o_goto 44),
  (28, o_iload 1 29),
  (29, o_push (aI 1) 30),
  (30, o_ic (fun a b => ¬ a = b) 40 33),
  (33, o_aload 0 34),
  (34, o_callv S12_readsOrder 12 0 false 37),
  (37, o_goto 44),
  (40, o_aload 0 41),
  (41, o_callv S12_readsWay 12 0 false 44),
  (44, o_iret)]
def S12_fault : am_E := am_S K12_fault 2
theorem hdd_12_fault : yX12_fault.cls ≠ "java/lang/invoke/MethodHandle" ∧ yX12_fault.cls ≠ "java/lang/invoke/VarHandle" ∧ (parseMethodDescriptor yX12_fault.desc).map (fun d => d.parameters.length) = some 1 := by decide +kernel
set_option maxRecDepth 100000 in
theorem snd_12_fault : am_Sound yX12_fault cX12_fault 2 (some .int) 3 74 S12_fault :=
  am_sound_of (own := RX12) (by decide) rfl <|
    fm_c (si_iloadn dX12_fault_0 rfl) <|
    fm_c (si_i2l dX12_fault_1) <|
    fm_c (si_lconst0 dX12_fault_2) <|
    fm_c (si_ldc2 dX12_fault_3 tw_1071 rfl) <|
    fm_c (si_call snd_12_in dX12_fault_6 tw_1068 tw_1069 tw_78 tw_1070 hdd_12_in ⟨rfl, rfl⟩) <|
    fm_c (si_if_ne dX12_fault_9 rfl) <|
    fm_c (si_bipush dX12_fault_12 rfl) <|
    fm_c (si_goto dX12_fault_14 rfl) <|
    fm_c (si_iloadn dX12_fault_17 rfl) <|
    fm_c (si_if_ne dX12_fault_18 rfl) <|
    fm_c (si_aloadn dX12_fault_21 rfl) <|
    fm_c (si_callv (C := RX12) (T := TX12) (N := 34) snd_12_readsFair rfl dX12_fault_22 tw_1120 tw_1122 tw_29 tw_78 tw_1123 hdd_12_readsFair ⟨rfl, rfl⟩) <|
    fm_c (si_goto dX12_fault_25 rfl) <|
    fm_c (si_iloadn dX12_fault_28 rfl) <|
    fm_c (si_iconst dX12_fault_29 rfl) <|
    fm_c (si_ic_ne dX12_fault_30 rfl) <|
    fm_c (si_aloadn dX12_fault_33 rfl) <|
    fm_c (si_callv (C := RX12) (T := TX12) (N := 34) snd_12_readsOrder rfl dX12_fault_34 tw_1138 tw_1140 tw_33 tw_78 tw_1141 hdd_12_readsOrder ⟨rfl, rfl⟩) <|
    fm_c (si_goto dX12_fault_37 rfl) <|
    fm_c (si_aloadn dX12_fault_40 rfl) <|
    fm_c (si_callv (C := RX12) (T := TX12) (N := 34) snd_12_readsWay rfl dX12_fault_41 tw_1146 tw_1148 tw_34 tw_78 tw_1149 hdd_12_readsWay ⟨rfl, rfl⟩) <|
    fm_c (si_iret rfl dX12_fault_44) <|
    fun _ h => absurd h List.not_mem_nil
def K12_judged : List (Nat × am_O) := [(0, o_aload 0 1),
  (1, o_callv S12_reads 12 0 true 4),
  (4, o_aload 0 5),
  (5, o_getf 12 17 8),
  (8, o_aload 0 9),
  (9, o_getf 12 11 12),
  (12, o_ic (fun a b => ¬ a = b) 19 15),
  (15, o_push (aI (-1)) 16),
  (16, o_goto 23),
  (19, o_aload 0 20),
  (20, o_getf 12 17 23),
  (23, o_iret)]
def S12_judged : am_E := am_S K12_judged 1
theorem hdd_12_judged : yX12_judged.cls ≠ "java/lang/invoke/MethodHandle" ∧ yX12_judged.cls ≠ "java/lang/invoke/VarHandle" ∧ (parseMethodDescriptor yX12_judged.desc).map (fun d => d.parameters.length) = some 0 := by decide +kernel
set_option maxRecDepth 100000 in
theorem snd_12_judged : am_Sound yX12_judged cX12_judged 1 (some .int) 4 94 S12_judged :=
  am_sound_of (own := RX12) (by decide) rfl <|
    fm_c (si_aloadn dX12_judged_0 rfl) <|
    fm_c (si_callv (C := RX12) (T := TX12) (N := 34) snd_12_reads rfl dX12_judged_1 tw_1182 tw_1184 tw_35 tw_78 tw_1185 hdd_12_reads ⟨rfl, rfl⟩) <|
    fm_c (si_aloadn dX12_judged_4 rfl) <|
    fm_c (si_getf (C := RX12) (T := TX12) (N := 34) dX12_judged_5 rfl inC_12 rfl tw_974) <|
    fm_c (si_aloadn dX12_judged_8 rfl) <|
    fm_c (si_getf (C := RX12) (T := TX12) (N := 34) dX12_judged_9 rfl inC_12 rfl tw_968) <|
    fm_c (si_ic_ne dX12_judged_12 rfl) <|
    fm_c (si_iconst dX12_judged_15 rfl) <|
    fm_c (si_goto dX12_judged_16 rfl) <|
    fm_c (si_aloadn dX12_judged_19 rfl) <|
    fm_c (si_getf (C := RX12) (T := TX12) (N := 34) dX12_judged_20 rfl inC_12 rfl tw_974) <|
    fm_c (si_iret rfl dX12_judged_23) <|
    fun _ h => absurd h List.not_mem_nil
def K12_gripAt : List (Nat × am_O) := [(0, o_aload 0 1),
  (1, o_getf 12 14 4),
  (4, o_push (aI 5) 5),
  (5, o_aload 0 6),
  (6, o_getf 12 10 9),
  (9, o_iload 1 10),
  (10, o_iald 11),
  (11, o_bin (fun a b => w32 (a * b)) 12),
  (12, o_aload 0 13),
  (13, o_getf 12 10 16),
  (16, o_iload 1 17),
  (17, o_push (aI 1) 18),
  (18, o_bin (fun a b => w32 (a + b)) 19),
  (19, o_iald 20),
  (20, o_bin (fun a b => w32 (a + b)) 21),
  (21, o_iald 22),
  (22, o_iret)]
def S12_gripAt : am_E := am_S K12_gripAt 2
theorem hdd_12_gripAt : yX12_gripAt.cls ≠ "java/lang/invoke/MethodHandle" ∧ yX12_gripAt.cls ≠ "java/lang/invoke/VarHandle" ∧ (parseMethodDescriptor yX12_gripAt.desc).map (fun d => d.parameters.length) = some 1 := by decide +kernel
set_option maxRecDepth 100000 in
theorem snd_12_gripAt : am_Sound yX12_gripAt cX12_gripAt 2 (some .int) 0 0 S12_gripAt :=
  am_sound_of (own := RX12) (by decide) rfl <|
    fm_c (si_aloadn dX12_gripAt_0 rfl) <|
    fm_c (si_getf (C := RX12) (T := TX12) (N := 34) dX12_gripAt_1 rfl inC_12 rfl tw_971) <|
    fm_c (si_iconst dX12_gripAt_4 rfl) <|
    fm_c (si_aloadn dX12_gripAt_5 rfl) <|
    fm_c (si_getf (C := RX12) (T := TX12) (N := 34) dX12_gripAt_6 rfl inC_12 rfl tw_967) <|
    fm_c (si_iloadn dX12_gripAt_9 rfl) <|
    fm_c (si_iald dX12_gripAt_10) <|
    fm_c (si_imul dX12_gripAt_11) <|
    fm_c (si_aloadn dX12_gripAt_12 rfl) <|
    fm_c (si_getf (C := RX12) (T := TX12) (N := 34) dX12_gripAt_13 rfl inC_12 rfl tw_967) <|
    fm_c (si_iloadn dX12_gripAt_16 rfl) <|
    fm_c (si_iconst dX12_gripAt_17 rfl) <|
    fm_c (si_iadd dX12_gripAt_18) <|
    fm_c (si_iald dX12_gripAt_19) <|
    fm_c (si_iadd dX12_gripAt_20) <|
    fm_c (si_iald dX12_gripAt_21) <|
    fm_c (si_iret rfl dX12_gripAt_22) <|
    fun _ h => absurd h List.not_mem_nil
def K12_looseNow : List (Nat × am_O) := [(0, o_push (aI 0) 1),
  (1, o_istore 1 2),
  (2, o_push (aI 0) 3),
  (3, o_istore 2 4),
  (4, o_iload 2 5),
  (5, o_push (aI 1) 6),
  (6, o_bin (fun a b => w32 (a + b)) 7),
  (7, o_aload 0 8),
  (8, o_getf 12 9 11),
  (11, o_ic (fun a b => b ≤ a) 31 14),
  (14, o_iload 1 15),
  (15, o_push (aI 16) 17),
  (17, o_aload 0 18),
  (18, o_iload 2 19),
  (19, o_callv S12_gripAt 12 1 false 22),
  (22, o_bin (fun a b => w32 (a - b)) 23),
  (23, o_bin (fun a b => w32 (a + b)) 24),
  (24, o_istore 1 25),
  (25, o_iinc 2 1 28),
  (28, o_goto 4),
  (31, o_iload 1 32),
  (32, o_iret)]
def S12_looseNow : am_E := am_S K12_looseNow 3
theorem hdd_12_looseNow : yX12_looseNow.cls ≠ "java/lang/invoke/MethodHandle" ∧ yX12_looseNow.cls ≠ "java/lang/invoke/VarHandle" ∧ (parseMethodDescriptor yX12_looseNow.desc).map (fun d => d.parameters.length) = some 0 := by decide +kernel
set_option maxRecDepth 100000 in
theorem snd_12_looseNow : am_Sound yX12_looseNow cX12_looseNow 3 (some .int) 1 21 S12_looseNow :=
  am_sound_of (own := RX12) (by decide) rfl <|
    fm_c (si_iconst dX12_looseNow_0 rfl) <|
    fm_c (si_istoren dX12_looseNow_1 rfl rfl) <|
    fm_c (si_iconst dX12_looseNow_2 rfl) <|
    fm_c (si_istoren dX12_looseNow_3 rfl rfl) <|
    fm_c (si_iloadn dX12_looseNow_4 rfl) <|
    fm_c (si_iconst dX12_looseNow_5 rfl) <|
    fm_c (si_iadd dX12_looseNow_6) <|
    fm_c (si_aloadn dX12_looseNow_7 rfl) <|
    fm_c (si_getf (C := RX12) (T := TX12) (N := 34) dX12_looseNow_8 rfl inC_12 rfl tw_966) <|
    fm_c (si_ic_ge dX12_looseNow_11 rfl) <|
    fm_c (si_iloadn dX12_looseNow_14 rfl) <|
    fm_c (si_bipush dX12_looseNow_15 rfl) <|
    fm_c (si_aloadn dX12_looseNow_17 rfl) <|
    fm_c (si_iloadn dX12_looseNow_18 rfl) <|
    fm_c (si_callv (C := RX12) (T := TX12) (N := 34) snd_12_gripAt rfl dX12_looseNow_19 tw_1244 tw_1246 tw_44 tw_78 tw_1247 hdd_12_gripAt ⟨rfl, rfl⟩) <|
    fm_c (si_isub dX12_looseNow_22) <|
    fm_c (si_iadd dX12_looseNow_23) <|
    fm_c (si_istoren dX12_looseNow_24 rfl rfl) <|
    fm_c (si_iinc dX12_looseNow_25 rfl rfl) <|
    fm_c (si_goto dX12_looseNow_28 rfl) <|
    fm_c (si_iloadn dX12_looseNow_31 rfl) <|
    fm_c (si_iret rfl dX12_looseNow_32) <|
    fun _ h => absurd h List.not_mem_nil
def K12_riskNow : List (Nat × am_O) := [(0, o_push (aI 0) 1),
  (1, o_istore 1 2),
  (2, o_push (aI 1) 3),
  (3, o_istore 2 4),
  (4, o_iload 2 5),
  (5, o_aload 0 6),
  (6, o_getf 12 17 9),
  (9, o_ic (fun a b => b < a) 32 12),
  (12, o_iload 1 13),
  (13, o_aload 0 14),
  (14, o_getf 12 8 17),
  (17, o_aload 0 18),
  (18, o_getf 12 18 21),
  (21, o_iload 2 22),
  (22, o_iald 23),
  (23, o_iald 24),
  (24, o_bin (fun a b => w32 (a + b)) 25),
  (25, o_istore 1 26),
  (26, o_iinc 2 1 29),
  (29, o_goto 4),
  (32, o_iload 1 33),
  (33, o_aload 0 34),
  (34, o_callv S12_looseNow 12 0 false 37),
  (37, o_bin (fun a b => w32 (a * b)) 38),
  (38, o_iret)]
def S12_riskNow : am_E := am_S K12_riskNow 3
theorem hdd_12_riskNow : yX12_riskNow.cls ≠ "java/lang/invoke/MethodHandle" ∧ yX12_riskNow.cls ≠ "java/lang/invoke/VarHandle" ∧ (parseMethodDescriptor yX12_riskNow.desc).map (fun d => d.parameters.length) = some 0 := by decide +kernel
set_option maxRecDepth 100000 in
theorem snd_12_riskNow : am_Sound yX12_riskNow cX12_riskNow 3 (some .int) 2 43 S12_riskNow :=
  am_sound_of (own := RX12) (by decide) rfl <|
    fm_c (si_iconst dX12_riskNow_0 rfl) <|
    fm_c (si_istoren dX12_riskNow_1 rfl rfl) <|
    fm_c (si_iconst dX12_riskNow_2 rfl) <|
    fm_c (si_istoren dX12_riskNow_3 rfl rfl) <|
    fm_c (si_iloadn dX12_riskNow_4 rfl) <|
    fm_c (si_aloadn dX12_riskNow_5 rfl) <|
    fm_c (si_getf (C := RX12) (T := TX12) (N := 34) dX12_riskNow_6 rfl inC_12 rfl tw_974) <|
    fm_c (si_ic_gt dX12_riskNow_9 rfl) <|
    fm_c (si_iloadn dX12_riskNow_12 rfl) <|
    fm_c (si_aloadn dX12_riskNow_13 rfl) <|
    fm_c (si_getf (C := RX12) (T := TX12) (N := 34) dX12_riskNow_14 rfl inC_12 rfl tw_965) <|
    fm_c (si_aloadn dX12_riskNow_17 rfl) <|
    fm_c (si_getf (C := RX12) (T := TX12) (N := 34) dX12_riskNow_18 rfl inC_12 rfl tw_975) <|
    fm_c (si_iloadn dX12_riskNow_21 rfl) <|
    fm_c (si_iald dX12_riskNow_22) <|
    fm_c (si_iald dX12_riskNow_23) <|
    fm_c (si_iadd dX12_riskNow_24) <|
    fm_c (si_istoren dX12_riskNow_25 rfl rfl) <|
    fm_c (si_iinc dX12_riskNow_26 rfl rfl) <|
    fm_c (si_goto dX12_riskNow_29 rfl) <|
    fm_c (si_iloadn dX12_riskNow_32 rfl) <|
    fm_c (si_aloadn dX12_riskNow_33 rfl) <|
    fm_c (si_callv (C := RX12) (T := TX12) (N := 34) snd_12_looseNow rfl dX12_riskNow_34 tw_1240 tw_1242 tw_43 tw_78 tw_1243 hdd_12_looseNow ⟨rfl, rfl⟩) <|
    fm_c (si_imul dX12_riskNow_37) <|
    fm_c (si_iret rfl dX12_riskNow_38) <|
    fun _ h => absurd h List.not_mem_nil
def K12_orderOf : List (Nat × am_O) := [(0, o_iload 1 1),
  (1, o_aload 0 2),
  (2, o_getf 12 9 5),
  (5, o_ic (fun a b => b ≤ a) 17 8),
  (8, o_aload 0 9),
  (9, o_getf 12 10 12),
  (12, o_iload 1 13),
  (13, o_iald 14),
  (14, o_goto 18),
  (17, o_push (aI (-1)) 18),
  (18, o_iret)]
def S12_orderOf : am_E := am_S K12_orderOf 2
theorem hdd_12_orderOf : yX12_orderOf.cls ≠ "java/lang/invoke/MethodHandle" ∧ yX12_orderOf.cls ≠ "java/lang/invoke/VarHandle" ∧ (parseMethodDescriptor yX12_orderOf.desc).map (fun d => d.parameters.length) = some 1 := by decide +kernel
set_option maxRecDepth 100000 in
theorem snd_12_orderOf : am_Sound yX12_orderOf cX12_orderOf 2 (some .int) 0 0 S12_orderOf :=
  am_sound_of (own := RX12) (by decide) rfl <|
    fm_c (si_iloadn dX12_orderOf_0 rfl) <|
    fm_c (si_aloadn dX12_orderOf_1 rfl) <|
    fm_c (si_getf (C := RX12) (T := TX12) (N := 34) dX12_orderOf_2 rfl inC_12 rfl tw_966) <|
    fm_c (si_ic_ge dX12_orderOf_5 rfl) <|
    fm_c (si_aloadn dX12_orderOf_8 rfl) <|
    fm_c (si_getf (C := RX12) (T := TX12) (N := 34) dX12_orderOf_9 rfl inC_12 rfl tw_967) <|
    fm_c (si_iloadn dX12_orderOf_12 rfl) <|
    fm_c (si_iald dX12_orderOf_13) <|
    fm_c (si_goto dX12_orderOf_14 rfl) <|
    fm_c (si_iconst dX12_orderOf_17 rfl) <|
    fm_c (si_iret rfl dX12_orderOf_18) <|
    fun _ h => absurd h List.not_mem_nil
def K12_findFar : List (Nat × am_O) := [(0, o_push (aI 0) 1),
  (1, o_istore 3 2),
  (2, o_iload 3 3),
  (3, o_push (aI 64) 5),
  (5, o_ic (fun a b => b ≤ a) 31 8),
  (8, o_aload 0 9),
  (9, o_getf 12 19 12),
  (12, o_iload 3 13),
  (13, o_iload 3 14),
  (14, o_iload 1 15),
  (15, o_ic (fun a b => ¬ a = b) 22 18),
  (18, o_push (aI 0) 19),
  (19, o_goto 24),
  (22, o_push (aI 1000000) 24),
  (24, o_iast 25),
  (25, o_iinc 3 1 28),
  (28, o_goto 2),
  (31, o_push (aI 1) 32),
  (32, o_istore 3 33),
  (33, o_iload 3 34),
  (34, o_if (fun a => a = 0) 180 37),
  (37, o_push (aI 0) 38),
  (38, o_istore 3 39),
  (39, o_push (aI 0) 40),
  (40, o_istore 4 42),
  (42, o_iload 4 44),
  (44, o_push (aI 64) 46),
  (46, o_ic (fun a b => b ≤ a) 177 49),
  (49, o_push (aI 0) 50),
  (50, o_istore 5 52),
  (52, o_iload 5 54),
  (54, o_push (aI 4) 55),
  (55, o_ic (fun a b => b ≤ a) 171 58),
  (58, o_aload 0 59),
  (59, o_getf 12 8 62),
  (62, o_iload 4 64),
  (64, o_iald 65),
  (65, o_push (aI 99) 67),
  (67, o_ic (fun a b => a = b) 171 70),
  (70, o_aload 0 71),
  (71, o_iload 4 73),
  (73, o_iload 5 75),
  (75, o_callv S12_beside 12 2 false 78),
  (78, o_istore 6 80),
  (80, o_iload 6 82),
  (82, o_push (aI (-1)) 83),
  (83, o_ic (fun a b => ¬ a = b) 91 86),
  (86, o_push (aI 1000000) 88),
  (88, o_goto 110),
  (91, o_aload 0 92),
  (92, o_getf 12 19 95),
  (95, o_iload 6 97),
  (97, o_iald 98),
  (98, o_iload 2 99),
  (99, o_aload 0 100),
  (100, o_getf 12 8 103),
  (103, o_iload 6 105),
  (105, o_iald 106),
  (106, o_bin (fun a b => w32 (a * b)) 107),
  (107, o_bin (fun a b => w32 (a + b)) 108),
  (108, o_push (aI 1) 109),
  (109, o_bin (fun a b => w32 (a + b)) 110),
  (110, o_istore 7 112),
  (112, o_iload 3 113),
  (113, o_if (fun a => ¬ a = 0) 128 116),
  (116, o_iload 7 118),
  (118, o_aload 0 119),
  (119, o_getf 12 19 122),
  (122, o_iload 4 124),
  (124, o_iald 125),
  (125, o_ic (fun a b => b ≤ a) 132 128),
  (128, o_push (aI 1) 129),
  (129, o_goto 133),
  (132, o_push (aI 0) 133),
  (133, o_istore 3 134),
  (134, o_aload 0 135),
  (135, o_getf 12 19 138),
  (138, o_iload 4 140),
  (140, o_iload 7 142),
  (142, o_aload 0 143),
  (143, o_getf 12 19 146),
  (146, o_iload 4 148),
  (148, o_iald 149),
  (149, o_ic (fun a b => b ≤ a) 157 152),
  (152, o_iload 7 154),
  (154, o_goto 164),
  (157, o_aload 0 158),
  (158, o_getf 12 19 161),
  (161, o_iload 4 163),
  (163, o_iald 164),
  (164, o_iast 165),
  (165, o_iinc 5 1 168),
  (168, o_goto 52),
  (171, o_iinc 4 1 174),
  (174, o_goto 42),
  (177, o_goto 33),
  (180, o_vret)]
def S12_findFar : am_E := am_S K12_findFar 8
theorem hdd_12_findFar : yX12_findFar.cls ≠ "java/lang/invoke/MethodHandle" ∧ yX12_findFar.cls ≠ "java/lang/invoke/VarHandle" ∧ (parseMethodDescriptor yX12_findFar.desc).map (fun d => d.parameters.length) = some 2 := by decide +kernel
set_option maxRecDepth 100000 in
theorem snd_12_findFar : am_Sound yX12_findFar cX12_findFar 8 none 2 49 S12_findFar :=
  am_sound_of (own := RX12) (by decide) rfl <|
    fm_c (si_iconst dX12_findFar_0 rfl) <|
    fm_c (si_istoren dX12_findFar_1 rfl rfl) <|
    fm_c (si_iloadn dX12_findFar_2 rfl) <|
    fm_c (si_bipush dX12_findFar_3 rfl) <|
    fm_c (si_ic_ge dX12_findFar_5 rfl) <|
    fm_c (si_aloadn dX12_findFar_8 rfl) <|
    fm_c (si_getf (C := RX12) (T := TX12) (N := 34) dX12_findFar_9 rfl inC_12 rfl tw_976) <|
    fm_c (si_iloadn dX12_findFar_12 rfl) <|
    fm_c (si_iloadn dX12_findFar_13 rfl) <|
    fm_c (si_iloadn dX12_findFar_14 rfl) <|
    fm_c (si_ic_ne dX12_findFar_15 rfl) <|
    fm_c (si_iconst dX12_findFar_18 rfl) <|
    fm_c (si_goto dX12_findFar_19 rfl) <|
    fm_c (si_ldc dX12_findFar_22 tw_1219 rfl) <|
    fm_c (si_iast dX12_findFar_24) <|
    fm_c (si_iinc dX12_findFar_25 rfl rfl) <|
    fm_c (si_goto dX12_findFar_28 rfl) <|
    fm_c (si_iconst dX12_findFar_31 rfl) <|
    fm_c (si_istoren dX12_findFar_32 rfl rfl) <|
    fm_c (si_iloadn dX12_findFar_33 rfl) <|
    fm_c (si_if_eq dX12_findFar_34 rfl) <|
    fm_c (si_iconst dX12_findFar_37 rfl) <|
    fm_c (si_istoren dX12_findFar_38 rfl rfl) <|
    fm_c (si_iconst dX12_findFar_39 rfl) <|
    fm_c (si_istore dX12_findFar_40 rfl) <|
    fm_c (si_iload dX12_findFar_42) <|
    fm_c (si_bipush dX12_findFar_44 rfl) <|
    fm_c (si_ic_ge dX12_findFar_46 rfl) <|
    fm_c (si_iconst dX12_findFar_49 rfl) <|
    fm_c (si_istore dX12_findFar_50 rfl) <|
    fm_c (si_iload dX12_findFar_52) <|
    fm_c (si_iconst dX12_findFar_54 rfl) <|
    fm_c (si_ic_ge dX12_findFar_55 rfl) <|
    fm_c (si_aloadn dX12_findFar_58 rfl) <|
    fm_c (si_getf (C := RX12) (T := TX12) (N := 34) dX12_findFar_59 rfl inC_12 rfl tw_965) <|
    fm_c (si_iload dX12_findFar_62) <|
    fm_c (si_iald dX12_findFar_64) <|
    fm_c (si_bipush dX12_findFar_65 rfl) <|
    fm_c (si_ic_eq dX12_findFar_67 rfl) <|
    fm_c (si_aloadn dX12_findFar_70 rfl) <|
    fm_c (si_iload dX12_findFar_71) <|
    fm_c (si_iload dX12_findFar_73) <|
    fm_c (si_callv (C := RX12) (T := TX12) (N := 34) snd_12_beside rfl dX12_findFar_75 tw_1194 tw_1196 tw_38 tw_78 tw_1197 hdd_12_beside ⟨rfl, rfl⟩) <|
    fm_c (si_istore dX12_findFar_78 rfl) <|
    fm_c (si_iload dX12_findFar_80) <|
    fm_c (si_iconst dX12_findFar_82 rfl) <|
    fm_c (si_ic_ne dX12_findFar_83 rfl) <|
    fm_c (si_ldc dX12_findFar_86 tw_1219 rfl) <|
    fm_c (si_goto dX12_findFar_88 rfl) <|
    fm_c (si_aloadn dX12_findFar_91 rfl) <|
    fm_c (si_getf (C := RX12) (T := TX12) (N := 34) dX12_findFar_92 rfl inC_12 rfl tw_976) <|
    fm_c (si_iload dX12_findFar_95) <|
    fm_c (si_iald dX12_findFar_97) <|
    fm_c (si_iloadn dX12_findFar_98 rfl) <|
    fm_c (si_aloadn dX12_findFar_99 rfl) <|
    fm_c (si_getf (C := RX12) (T := TX12) (N := 34) dX12_findFar_100 rfl inC_12 rfl tw_965) <|
    fm_c (si_iload dX12_findFar_103) <|
    fm_c (si_iald dX12_findFar_105) <|
    fm_c (si_imul dX12_findFar_106) <|
    fm_c (si_iadd dX12_findFar_107) <|
    fm_c (si_iconst dX12_findFar_108 rfl) <|
    fm_c (si_iadd dX12_findFar_109) <|
    fm_c (si_istore dX12_findFar_110 rfl) <|
    fm_c (si_iloadn dX12_findFar_112 rfl) <|
    fm_c (si_if_ne dX12_findFar_113 rfl) <|
    fm_c (si_iload dX12_findFar_116) <|
    fm_c (si_aloadn dX12_findFar_118 rfl) <|
    fm_c (si_getf (C := RX12) (T := TX12) (N := 34) dX12_findFar_119 rfl inC_12 rfl tw_976) <|
    fm_c (si_iload dX12_findFar_122) <|
    fm_c (si_iald dX12_findFar_124) <|
    fm_c (si_ic_ge dX12_findFar_125 rfl) <|
    fm_c (si_iconst dX12_findFar_128 rfl) <|
    fm_c (si_goto dX12_findFar_129 rfl) <|
    fm_c (si_iconst dX12_findFar_132 rfl) <|
    fm_c (si_istoren dX12_findFar_133 rfl rfl) <|
    fm_c (si_aloadn dX12_findFar_134 rfl) <|
    fm_c (si_getf (C := RX12) (T := TX12) (N := 34) dX12_findFar_135 rfl inC_12 rfl tw_976) <|
    fm_c (si_iload dX12_findFar_138) <|
    fm_c (si_iload dX12_findFar_140) <|
    fm_c (si_aloadn dX12_findFar_142 rfl) <|
    fm_c (si_getf (C := RX12) (T := TX12) (N := 34) dX12_findFar_143 rfl inC_12 rfl tw_976) <|
    fm_c (si_iload dX12_findFar_146) <|
    fm_c (si_iald dX12_findFar_148) <|
    fm_c (si_ic_ge dX12_findFar_149 rfl) <|
    fm_c (si_iload dX12_findFar_152) <|
    fm_c (si_goto dX12_findFar_154 rfl) <|
    fm_c (si_aloadn dX12_findFar_157 rfl) <|
    fm_c (si_getf (C := RX12) (T := TX12) (N := 34) dX12_findFar_158 rfl inC_12 rfl tw_976) <|
    fm_c (si_iload dX12_findFar_161) <|
    fm_c (si_iald dX12_findFar_163) <|
    fm_c (si_iast dX12_findFar_164) <|
    fm_c (si_iinc dX12_findFar_165 rfl rfl) <|
    fm_c (si_goto dX12_findFar_168 rfl) <|
    fm_c (si_iinc dX12_findFar_171 rfl rfl) <|
    fm_c (si_goto dX12_findFar_174 rfl) <|
    fm_c (si_goto dX12_findFar_177 rfl) <|
    fm_c (si_vret rfl dX12_findFar_180) <|
    fun _ h => absurd h List.not_mem_nil
def K12_findWays : List (Nat × am_O) := [(0, o_aload 0 1),
  (1, o_getf 12 28 4),
  (4, o_if (fun a => a ≤ 0) 24 7),
  (7, o_aload 0 8),
  (8, o_aload 0 9),
  (9, o_getf 12 16 12),
  (12, o_iload 1 13),
  (13, o_iald 14),
  (14, o_callv S12_isPlace 12 1 false 17),
  (17, o_if (fun a => a = 0) 24 20),
  (20, o_push (aI 1) 21),
  (21, o_goto 25),
  (24, o_push (aI 0) 25),
  (25, o_istore 2 26),
  (26, o_push (aI 0) 27),
  (27, o_istore 3 28),
  (28, o_iload 3 29),
  (29, o_aload 0 30),
  (30, o_getf 12 28 33),
  (33, o_ic (fun a b => b ≤ a) 188 36),
  (36, o_iload 2 37),
  (37, o_if (fun a => a = 0) 188 40),
  (40, o_aload 0 41),
  (41, o_aload 0 42),
  (42, o_getf 12 29 45),
  (45, o_push (aI 2) 46),
  (46, o_iload 3 47),
  (47, o_bin (fun a b => w32 (a * b)) 48),
  (48, o_iald 49),
  (49, o_callv S12_isPlace 12 1 false 52),
  (52, o_istore 2 53),
  (53, o_iload 2 54),
  (54, o_if (fun a => a = 0) 182 57),
  (57, o_aload 0 58),
  (58, o_aload 0 59),
  (59, o_getf 12 29 62),
  (62, o_push (aI 2) 63),
  (63, o_iload 3 64),
  (64, o_bin (fun a b => w32 (a * b)) 65),
  (65, o_iald 66),
  (66, o_push (aI 0) 67),
  (67, o_callv S12_findFar 12 2 true 70),
  (70, o_aload 0 71),
  (71, o_getf 12 30 74),
  (74, o_push (aI 25) 76),
  (76, o_iload 3 77),
  (77, o_bin (fun a b => w32 (a + b)) 78),
  (78, o_aload 0 79),
  (79, o_getf 12 19 82),
  (82, o_aload 0 83),
  (83, o_getf 12 16 86),
  (86, o_iload 1 87),
  (87, o_iald 88),
  (88, o_iald 89),
  (89, o_iast 90),
  (90, o_aload 0 91),
  (91, o_getf 12 30 94),
  (94, o_push (aI 25) 96),
  (96, o_iload 3 97),
  (97, o_bin (fun a b => w32 (a + b)) 98),
  (98, o_iald 99),
  (99, o_push (aI 1000000) 101),
  (101, o_ic (fun a b => b ≤ a) 108 104),
  (104, o_push (aI 1) 105),
  (105, o_goto 109),
  (108, o_push (aI 0) 109),
  (109, o_istore 2 110),
  (110, o_push (aI 0) 111),
  (111, o_istore 4 113),
  (113, o_iload 4 115),
  (115, o_aload 0 116),
  (116, o_getf 12 28 119),
  (119, o_ic (fun a b => b ≤ a) 182 122),
  (122, o_iload 2 123),
  (123, o_if (fun a => a = 0) 182 126),
  (126, o_aload 0 127),
  (127, o_getf 12 30 130),
  (130, o_push (aI 5) 131),
  (131, o_iload 4 133),
  (133, o_bin (fun a b => w32 (a * b)) 134),
  (134, o_iload 3 135),
  (135, o_bin (fun a b => w32 (a + b)) 136),
  (136, o_aload 0 137),
  (137, o_getf 12 29 140),
  (140, o_push (aI 2) 141),
  (141, o_iload 4 143),
  (143, o_bin (fun a b => w32 (a * b)) 144),
  (144, o_iald 145),
  (145, o_i2l 146),
  (146, o_push (aL 0) 147),
  (147, o_push (aL 63) 150),
  (150, o_call S12_in 3 false 153),
  (153, o_if (fun a => a = 0) 173 156),
  (156, o_aload 0 157),
  (157, o_getf 12 19 160),
  (160, o_aload 0 161),
  (161, o_getf 12 29 164),
  (164, o_push (aI 2) 165),
  (165, o_iload 4 167),
  (167, o_bin (fun a b => w32 (a * b)) 168),
  (168, o_iald 169),
  (169, o_iald 170),
  (170, o_goto 175),
  (173, o_push (aI 1000000) 175),
  (175, o_iast 176),
  (176, o_iinc 4 1 179),
  (179, o_goto 113),
  (182, o_iinc 3 1 185),
  (185, o_goto 28),
  (188, o_iload 2 189),
  (189, o_zret)]
def S12_findWays : am_E := am_S K12_findWays 5
theorem hdd_12_findWays : yX12_findWays.cls ≠ "java/lang/invoke/MethodHandle" ∧ yX12_findWays.cls ≠ "java/lang/invoke/VarHandle" ∧ (parseMethodDescriptor yX12_findWays.desc).map (fun d => d.parameters.length) = some 1 := by decide +kernel
set_option maxRecDepth 100000 in
theorem snd_12_findWays : am_Sound yX12_findWays cX12_findWays 5 (some .boolean) 3 76 S12_findWays :=
  am_sound_of (own := RX12) (by decide) rfl <|
    fm_c (si_aloadn dX12_findWays_0 rfl) <|
    fm_c (si_getf (C := RX12) (T := TX12) (N := 34) dX12_findWays_1 rfl inC_12 rfl tw_985) <|
    fm_c (si_if_le dX12_findWays_4 rfl) <|
    fm_c (si_aloadn dX12_findWays_7 rfl) <|
    fm_c (si_aloadn dX12_findWays_8 rfl) <|
    fm_c (si_getf (C := RX12) (T := TX12) (N := 34) dX12_findWays_9 rfl inC_12 rfl tw_973) <|
    fm_c (si_iloadn dX12_findWays_12 rfl) <|
    fm_c (si_iald dX12_findWays_13) <|
    fm_c (si_callv (C := RX12) (T := TX12) (N := 34) snd_12_isPlace rfl dX12_findWays_14 tw_1190 tw_1192 tw_37 tw_78 tw_1193 hdd_12_isPlace ⟨rfl, rfl⟩) <|
    fm_c (si_if_eq dX12_findWays_17 rfl) <|
    fm_c (si_iconst dX12_findWays_20 rfl) <|
    fm_c (si_goto dX12_findWays_21 rfl) <|
    fm_c (si_iconst dX12_findWays_24 rfl) <|
    fm_c (si_istoren dX12_findWays_25 rfl rfl) <|
    fm_c (si_iconst dX12_findWays_26 rfl) <|
    fm_c (si_istoren dX12_findWays_27 rfl rfl) <|
    fm_c (si_iloadn dX12_findWays_28 rfl) <|
    fm_c (si_aloadn dX12_findWays_29 rfl) <|
    fm_c (si_getf (C := RX12) (T := TX12) (N := 34) dX12_findWays_30 rfl inC_12 rfl tw_985) <|
    fm_c (si_ic_ge dX12_findWays_33 rfl) <|
    fm_c (si_iloadn dX12_findWays_36 rfl) <|
    fm_c (si_if_eq dX12_findWays_37 rfl) <|
    fm_c (si_aloadn dX12_findWays_40 rfl) <|
    fm_c (si_aloadn dX12_findWays_41 rfl) <|
    fm_c (si_getf (C := RX12) (T := TX12) (N := 34) dX12_findWays_42 rfl inC_12 rfl tw_986) <|
    fm_c (si_iconst dX12_findWays_45 rfl) <|
    fm_c (si_iloadn dX12_findWays_46 rfl) <|
    fm_c (si_imul dX12_findWays_47) <|
    fm_c (si_iald dX12_findWays_48) <|
    fm_c (si_callv (C := RX12) (T := TX12) (N := 34) snd_12_isPlace rfl dX12_findWays_49 tw_1190 tw_1192 tw_37 tw_78 tw_1193 hdd_12_isPlace ⟨rfl, rfl⟩) <|
    fm_c (si_istoren dX12_findWays_52 rfl rfl) <|
    fm_c (si_iloadn dX12_findWays_53 rfl) <|
    fm_c (si_if_eq dX12_findWays_54 rfl) <|
    fm_c (si_aloadn dX12_findWays_57 rfl) <|
    fm_c (si_aloadn dX12_findWays_58 rfl) <|
    fm_c (si_getf (C := RX12) (T := TX12) (N := 34) dX12_findWays_59 rfl inC_12 rfl tw_986) <|
    fm_c (si_iconst dX12_findWays_62 rfl) <|
    fm_c (si_iloadn dX12_findWays_63 rfl) <|
    fm_c (si_imul dX12_findWays_64) <|
    fm_c (si_iald dX12_findWays_65) <|
    fm_c (si_iconst dX12_findWays_66 rfl) <|
    fm_c (si_callv (C := RX12) (T := TX12) (N := 34) snd_12_findFar rfl dX12_findWays_67 tw_1215 tw_1217 tw_40 tw_78 tw_1218 hdd_12_findFar ⟨rfl, rfl⟩) <|
    fm_c (si_aloadn dX12_findWays_70 rfl) <|
    fm_c (si_getf (C := RX12) (T := TX12) (N := 34) dX12_findWays_71 rfl inC_12 rfl tw_987) <|
    fm_c (si_bipush dX12_findWays_74 rfl) <|
    fm_c (si_iloadn dX12_findWays_76 rfl) <|
    fm_c (si_iadd dX12_findWays_77) <|
    fm_c (si_aloadn dX12_findWays_78 rfl) <|
    fm_c (si_getf (C := RX12) (T := TX12) (N := 34) dX12_findWays_79 rfl inC_12 rfl tw_976) <|
    fm_c (si_aloadn dX12_findWays_82 rfl) <|
    fm_c (si_getf (C := RX12) (T := TX12) (N := 34) dX12_findWays_83 rfl inC_12 rfl tw_973) <|
    fm_c (si_iloadn dX12_findWays_86 rfl) <|
    fm_c (si_iald dX12_findWays_87) <|
    fm_c (si_iald dX12_findWays_88) <|
    fm_c (si_iast dX12_findWays_89) <|
    fm_c (si_aloadn dX12_findWays_90 rfl) <|
    fm_c (si_getf (C := RX12) (T := TX12) (N := 34) dX12_findWays_91 rfl inC_12 rfl tw_987) <|
    fm_c (si_bipush dX12_findWays_94 rfl) <|
    fm_c (si_iloadn dX12_findWays_96 rfl) <|
    fm_c (si_iadd dX12_findWays_97) <|
    fm_c (si_iald dX12_findWays_98) <|
    fm_c (si_ldc dX12_findWays_99 tw_1219 rfl) <|
    fm_c (si_ic_ge dX12_findWays_101 rfl) <|
    fm_c (si_iconst dX12_findWays_104 rfl) <|
    fm_c (si_goto dX12_findWays_105 rfl) <|
    fm_c (si_iconst dX12_findWays_108 rfl) <|
    fm_c (si_istoren dX12_findWays_109 rfl rfl) <|
    fm_c (si_iconst dX12_findWays_110 rfl) <|
    fm_c (si_istore dX12_findWays_111 rfl) <|
    fm_c (si_iload dX12_findWays_113) <|
    fm_c (si_aloadn dX12_findWays_115 rfl) <|
    fm_c (si_getf (C := RX12) (T := TX12) (N := 34) dX12_findWays_116 rfl inC_12 rfl tw_985) <|
    fm_c (si_ic_ge dX12_findWays_119 rfl) <|
    fm_c (si_iloadn dX12_findWays_122 rfl) <|
    fm_c (si_if_eq dX12_findWays_123 rfl) <|
    fm_c (si_aloadn dX12_findWays_126 rfl) <|
    fm_c (si_getf (C := RX12) (T := TX12) (N := 34) dX12_findWays_127 rfl inC_12 rfl tw_987) <|
    fm_c (si_iconst dX12_findWays_130 rfl) <|
    fm_c (si_iload dX12_findWays_131) <|
    fm_c (si_imul dX12_findWays_133) <|
    fm_c (si_iloadn dX12_findWays_134 rfl) <|
    fm_c (si_iadd dX12_findWays_135) <|
    fm_c (si_aloadn dX12_findWays_136 rfl) <|
    fm_c (si_getf (C := RX12) (T := TX12) (N := 34) dX12_findWays_137 rfl inC_12 rfl tw_986) <|
    fm_c (si_iconst dX12_findWays_140 rfl) <|
    fm_c (si_iload dX12_findWays_141) <|
    fm_c (si_imul dX12_findWays_143) <|
    fm_c (si_iald dX12_findWays_144) <|
    fm_c (si_i2l dX12_findWays_145) <|
    fm_c (si_lconst0 dX12_findWays_146) <|
    fm_c (si_ldc2 dX12_findWays_147 tw_1157 rfl) <|
    fm_c (si_call snd_12_in dX12_findWays_150 tw_1068 tw_1069 tw_78 tw_1070 hdd_12_in ⟨rfl, rfl⟩) <|
    fm_c (si_if_eq dX12_findWays_153 rfl) <|
    fm_c (si_aloadn dX12_findWays_156 rfl) <|
    fm_c (si_getf (C := RX12) (T := TX12) (N := 34) dX12_findWays_157 rfl inC_12 rfl tw_976) <|
    fm_c (si_aloadn dX12_findWays_160 rfl) <|
    fm_c (si_getf (C := RX12) (T := TX12) (N := 34) dX12_findWays_161 rfl inC_12 rfl tw_986) <|
    fm_c (si_iconst dX12_findWays_164 rfl) <|
    fm_c (si_iload dX12_findWays_165) <|
    fm_c (si_imul dX12_findWays_167) <|
    fm_c (si_iald dX12_findWays_168) <|
    fm_c (si_iald dX12_findWays_169) <|
    fm_c (si_goto dX12_findWays_170 rfl) <|
    fm_c (si_ldc dX12_findWays_173 tw_1219 rfl) <|
    fm_c (si_iast dX12_findWays_175) <|
    fm_c (si_iinc dX12_findWays_176 rfl rfl) <|
    fm_c (si_goto dX12_findWays_179 rfl) <|
    fm_c (si_iinc dX12_findWays_182 rfl rfl) <|
    fm_c (si_goto dX12_findWays_185 rfl) <|
    fm_c (si_iloadn dX12_findWays_188 rfl) <|
    fm_c (si_zret rfl dX12_findWays_189) <|
    fun _ h => absurd h List.not_mem_nil
def K12_findBest : List (Nat × am_O) := [(0, o_iload 1 1),
  (1, o_call S12_ones 1 false 4),
  (4, o_istore 2 5),
  (5, o_push (aI 1) 6),
  (6, o_istore 3 7),
  (7, o_push (aI 0) 8),
  (8, o_istore 4 10),
  (10, o_iload 4 12),
  (12, o_iload 2 13),
  (13, o_ic (fun a b => b ≤ a) 26 16),
  (16, o_iload 3 17),
  (17, o_push (aI 5) 18),
  (18, o_bin (fun a b => w32 (a * b)) 19),
  (19, o_istore 3 20),
  (20, o_iinc 4 1 23),
  (23, o_goto 10),
  (26, o_push (aI (-1)) 27),
  (27, o_istore 4 29),
  (29, o_push (aI 0) 30),
  (30, o_istore 5 32),
  (32, o_iload 5 34),
  (34, o_iload 3 35),
  (35, o_ic (fun a b => b ≤ a) 210 38),
  (38, o_iload 5 40),
  (40, o_istore 6 42),
  (42, o_push (aI 0) 43),
  (43, o_istore 7 45),
  (45, o_iload 2 46),
  (46, o_push (aI 1) 47),
  (47, o_bin (fun a b => w32 (a - b)) 48),
  (48, o_istore 8 50),
  (50, o_iload 8 52),
  (52, o_if (fun a => a < 0) 92 55),
  (55, o_aload 0 56),
  (56, o_getf 12 21 59),
  (59, o_iload 8 61),
  (61, o_iload 6 63),
  (63, o_push (aI 5) 64),
  (64, o_irem 65),
  (65, o_iast 66),
  (66, o_iload 6 68),
  (68, o_push (aI 5) 69),
  (69, o_idiv 70),
  (70, o_istore 6 72),
  (72, o_iload 7 74),
  (74, o_push (aI 1) 75),
  (75, o_aload 0 76),
  (76, o_getf 12 21 79),
  (79, o_iload 8 81),
  (81, o_iald 82),
  (82, o_sh am_shl 83),
  (83, o_bin am_or 84),
  (84, o_istore 7 86),
  (86, o_iinc 8 (-1) 89),
  (89, o_goto 50),
  (92, o_iload 7 94),
  (94, o_iload 1 95),
  (95, o_ic (fun a b => ¬ a = b) 204 98),
  (98, o_push (aI 0) 99),
  (99, o_istore 8 101),
  (101, o_push (aI 0) 102),
  (102, o_istore 9 104),
  (104, o_push (aI 0) 105),
  (105, o_istore 10 107),
  (107, o_iload 10 109),
  (109, o_iload 2 110),
  (110, o_ic (fun a b => b ≤ a) 181 113),
  (113, o_iload 9 115),
  (115, o_aload 0 116),
  (116, o_getf 12 30 119),
  (119, o_push (aI 5) 120),
  (120, o_iload 10 122),
  (122, o_if (fun a => ¬ a = 0) 129 125),
  (125, o_push (aI 5) 126),
  (126, o_goto 138),
  (129, o_aload 0 130),
  (130, o_getf 12 21 133),
  (133, o_iload 10 135),
  (135, o_push (aI 1) 136),
  (136, o_bin (fun a b => w32 (a - b)) 137),
  (137, o_iald 138),
  (138, o_bin (fun a b => w32 (a * b)) 139),
  (139, o_aload 0 140),
  (140, o_getf 12 21 143),
  (143, o_iload 10 145),
  (145, o_iald 146),
  (146, o_bin (fun a b => w32 (a + b)) 147),
  (147, o_iald 148),
  (148, o_bin (fun a b => w32 (a + b)) 149),
  (149, o_istore 9 151),
  (151, o_iload 8 153),
  (153, o_iload 9 155),
  (155, o_aload 0 156),
  (156, o_getf 12 29 159),
  (159, o_push (aI 2) 160),
  (160, o_aload 0 161),
  (161, o_getf 12 21 164),
  (164, o_iload 10 166),
  (166, o_iald 167),
  (167, o_bin (fun a b => w32 (a * b)) 168),
  (168, o_push (aI 1) 169),
  (169, o_bin (fun a b => w32 (a + b)) 170),
  (170, o_iald 171),
  (171, o_bin (fun a b => w32 (a * b)) 172),
  (172, o_bin (fun a b => w32 (a + b)) 173),
  (173, o_istore 8 175),
  (175, o_iinc 10 1 178),
  (178, o_goto 107),
  (181, o_iload 4 183),
  (183, o_push (aI (-1)) 184),
  (184, o_ic (fun a b => a = b) 194 187),
  (187, o_iload 8 189),
  (189, o_iload 4 191),
  (191, o_ic (fun a b => b ≤ a) 204 194),
  (194, o_iload 8 196),
  (196, o_istore 4 198),
  (198, o_aload 0 199),
  (199, o_iload 5 201),
  (201, o_putI 12 32 204),
  (204, o_iinc 5 1 207),
  (207, o_goto 32),
  (210, o_iload 4 212),
  (212, o_iret)]
def S12_findBest : am_E := am_S K12_findBest 11
theorem hdd_12_findBest : yX12_findBest.cls ≠ "java/lang/invoke/MethodHandle" ∧ yX12_findBest.cls ≠ "java/lang/invoke/VarHandle" ∧ (parseMethodDescriptor yX12_findBest.desc).map (fun d => d.parameters.length) = some 1 := by decide +kernel
set_option maxRecDepth 100000 in
theorem snd_12_findBest : am_Sound yX12_findBest cX12_findBest 11 (some .int) 1 22 S12_findBest :=
  am_sound_of (own := RX12) (by decide) rfl <|
    fm_c (si_iloadn dX12_findBest_0 rfl) <|
    fm_c (si_call snd_12_ones dX12_findBest_1 tw_1261 tw_1262 tw_78 tw_1263 hdd_12_ones ⟨rfl, rfl⟩) <|
    fm_c (si_istoren dX12_findBest_4 rfl rfl) <|
    fm_c (si_iconst dX12_findBest_5 rfl) <|
    fm_c (si_istoren dX12_findBest_6 rfl rfl) <|
    fm_c (si_iconst dX12_findBest_7 rfl) <|
    fm_c (si_istore dX12_findBest_8 rfl) <|
    fm_c (si_iload dX12_findBest_10) <|
    fm_c (si_iloadn dX12_findBest_12 rfl) <|
    fm_c (si_ic_ge dX12_findBest_13 rfl) <|
    fm_c (si_iloadn dX12_findBest_16 rfl) <|
    fm_c (si_iconst dX12_findBest_17 rfl) <|
    fm_c (si_imul dX12_findBest_18) <|
    fm_c (si_istoren dX12_findBest_19 rfl rfl) <|
    fm_c (si_iinc dX12_findBest_20 rfl rfl) <|
    fm_c (si_goto dX12_findBest_23 rfl) <|
    fm_c (si_iconst dX12_findBest_26 rfl) <|
    fm_c (si_istore dX12_findBest_27 rfl) <|
    fm_c (si_iconst dX12_findBest_29 rfl) <|
    fm_c (si_istore dX12_findBest_30 rfl) <|
    fm_c (si_iload dX12_findBest_32) <|
    fm_c (si_iloadn dX12_findBest_34 rfl) <|
    fm_c (si_ic_ge dX12_findBest_35 rfl) <|
    fm_c (si_iload dX12_findBest_38) <|
    fm_c (si_istore dX12_findBest_40 rfl) <|
    fm_c (si_iconst dX12_findBest_42 rfl) <|
    fm_c (si_istore dX12_findBest_43 rfl) <|
    fm_c (si_iloadn dX12_findBest_45 rfl) <|
    fm_c (si_iconst dX12_findBest_46 rfl) <|
    fm_c (si_isub dX12_findBest_47) <|
    fm_c (si_istore dX12_findBest_48 rfl) <|
    fm_c (si_iload dX12_findBest_50) <|
    fm_c (si_if_lt dX12_findBest_52 rfl) <|
    fm_c (si_aloadn dX12_findBest_55 rfl) <|
    fm_c (si_getf (C := RX12) (T := TX12) (N := 34) dX12_findBest_56 rfl inC_12 rfl tw_978) <|
    fm_c (si_iload dX12_findBest_59) <|
    fm_c (si_iload dX12_findBest_61) <|
    fm_c (si_iconst dX12_findBest_63 rfl) <|
    fm_c (si_irem dX12_findBest_64) <|
    fm_c (si_iast dX12_findBest_65) <|
    fm_c (si_iload dX12_findBest_66) <|
    fm_c (si_iconst dX12_findBest_68 rfl) <|
    fm_c (si_idiv dX12_findBest_69) <|
    fm_c (si_istore dX12_findBest_70 rfl) <|
    fm_c (si_iload dX12_findBest_72) <|
    fm_c (si_iconst dX12_findBest_74 rfl) <|
    fm_c (si_aloadn dX12_findBest_75 rfl) <|
    fm_c (si_getf (C := RX12) (T := TX12) (N := 34) dX12_findBest_76 rfl inC_12 rfl tw_978) <|
    fm_c (si_iload dX12_findBest_79) <|
    fm_c (si_iald dX12_findBest_81) <|
    fm_c (si_ishl dX12_findBest_82) <|
    fm_c (si_ior dX12_findBest_83) <|
    fm_c (si_istore dX12_findBest_84 rfl) <|
    fm_c (si_iinc dX12_findBest_86 rfl rfl) <|
    fm_c (si_goto dX12_findBest_89 rfl) <|
    fm_c (si_iload dX12_findBest_92) <|
    fm_c (si_iloadn dX12_findBest_94 rfl) <|
    fm_c (si_ic_ne dX12_findBest_95 rfl) <|
    fm_c (si_iconst dX12_findBest_98 rfl) <|
    fm_c (si_istore dX12_findBest_99 rfl) <|
    fm_c (si_iconst dX12_findBest_101 rfl) <|
    fm_c (si_istore dX12_findBest_102 rfl) <|
    fm_c (si_iconst dX12_findBest_104 rfl) <|
    fm_c (si_istore dX12_findBest_105 rfl) <|
    fm_c (si_iload dX12_findBest_107) <|
    fm_c (si_iloadn dX12_findBest_109 rfl) <|
    fm_c (si_ic_ge dX12_findBest_110 rfl) <|
    fm_c (si_iload dX12_findBest_113) <|
    fm_c (si_aloadn dX12_findBest_115 rfl) <|
    fm_c (si_getf (C := RX12) (T := TX12) (N := 34) dX12_findBest_116 rfl inC_12 rfl tw_987) <|
    fm_c (si_iconst dX12_findBest_119 rfl) <|
    fm_c (si_iload dX12_findBest_120) <|
    fm_c (si_if_ne dX12_findBest_122 rfl) <|
    fm_c (si_iconst dX12_findBest_125 rfl) <|
    fm_c (si_goto dX12_findBest_126 rfl) <|
    fm_c (si_aloadn dX12_findBest_129 rfl) <|
    fm_c (si_getf (C := RX12) (T := TX12) (N := 34) dX12_findBest_130 rfl inC_12 rfl tw_978) <|
    fm_c (si_iload dX12_findBest_133) <|
    fm_c (si_iconst dX12_findBest_135 rfl) <|
    fm_c (si_isub dX12_findBest_136) <|
    fm_c (si_iald dX12_findBest_137) <|
    fm_c (si_imul dX12_findBest_138) <|
    fm_c (si_aloadn dX12_findBest_139 rfl) <|
    fm_c (si_getf (C := RX12) (T := TX12) (N := 34) dX12_findBest_140 rfl inC_12 rfl tw_978) <|
    fm_c (si_iload dX12_findBest_143) <|
    fm_c (si_iald dX12_findBest_145) <|
    fm_c (si_iadd dX12_findBest_146) <|
    fm_c (si_iald dX12_findBest_147) <|
    fm_c (si_iadd dX12_findBest_148) <|
    fm_c (si_istore dX12_findBest_149 rfl) <|
    fm_c (si_iload dX12_findBest_151) <|
    fm_c (si_iload dX12_findBest_153) <|
    fm_c (si_aloadn dX12_findBest_155 rfl) <|
    fm_c (si_getf (C := RX12) (T := TX12) (N := 34) dX12_findBest_156 rfl inC_12 rfl tw_986) <|
    fm_c (si_iconst dX12_findBest_159 rfl) <|
    fm_c (si_aloadn dX12_findBest_160 rfl) <|
    fm_c (si_getf (C := RX12) (T := TX12) (N := 34) dX12_findBest_161 rfl inC_12 rfl tw_978) <|
    fm_c (si_iload dX12_findBest_164) <|
    fm_c (si_iald dX12_findBest_166) <|
    fm_c (si_imul dX12_findBest_167) <|
    fm_c (si_iconst dX12_findBest_168 rfl) <|
    fm_c (si_iadd dX12_findBest_169) <|
    fm_c (si_iald dX12_findBest_170) <|
    fm_c (si_imul dX12_findBest_171) <|
    fm_c (si_iadd dX12_findBest_172) <|
    fm_c (si_istore dX12_findBest_173 rfl) <|
    fm_c (si_iinc dX12_findBest_175 rfl rfl) <|
    fm_c (si_goto dX12_findBest_178 rfl) <|
    fm_c (si_iload dX12_findBest_181) <|
    fm_c (si_iconst dX12_findBest_183 rfl) <|
    fm_c (si_ic_eq dX12_findBest_184 rfl) <|
    fm_c (si_iload dX12_findBest_187) <|
    fm_c (si_iload dX12_findBest_189) <|
    fm_c (si_ic_ge dX12_findBest_191 rfl) <|
    fm_c (si_iload dX12_findBest_194) <|
    fm_c (si_istore dX12_findBest_196 rfl) <|
    fm_c (si_aloadn dX12_findBest_198 rfl) <|
    fm_c (si_iload dX12_findBest_199) <|
    fm_c (si_putI (C := RX12) (T := TX12) (N := 34) dX12_findBest_201 rfl inC_12 tyX12 tyX12_ok nmX12 rfl tw_989 rfl (tyX12_ok 32 (by decide))) <|
    fm_c (si_iinc dX12_findBest_204 rfl rfl) <|
    fm_c (si_goto dX12_findBest_207 rfl) <|
    fm_c (si_iload dX12_findBest_210) <|
    fm_c (si_iret rfl dX12_findBest_212) <|
    fun _ h => absurd h List.not_mem_nil
def K12_weights : List (Nat × am_O) := [(0, o_push (aI 0) 1),
  (1, o_istore 1 2),
  (2, o_push (aI 0) 3),
  (3, o_istore 2 4),
  (4, o_iload 2 5),
  (5, o_aload 0 6),
  (6, o_getf 12 28 9),
  (9, o_ic (fun a b => b ≤ a) 31 12),
  (12, o_iload 1 13),
  (13, o_aload 0 14),
  (14, o_getf 12 29 17),
  (17, o_push (aI 2) 18),
  (18, o_iload 2 19),
  (19, o_bin (fun a b => w32 (a * b)) 20),
  (20, o_push (aI 1) 21),
  (21, o_bin (fun a b => w32 (a + b)) 22),
  (22, o_iald 23),
  (23, o_bin (fun a b => w32 (a + b)) 24),
  (24, o_istore 1 25),
  (25, o_iinc 2 1 28),
  (28, o_goto 4),
  (31, o_iload 1 32),
  (32, o_iret)]
def S12_weights : am_E := am_S K12_weights 3
theorem hdd_12_weights : yX12_weights.cls ≠ "java/lang/invoke/MethodHandle" ∧ yX12_weights.cls ≠ "java/lang/invoke/VarHandle" ∧ (parseMethodDescriptor yX12_weights.desc).map (fun d => d.parameters.length) = some 0 := by decide +kernel
set_option maxRecDepth 100000 in
theorem snd_12_weights : am_Sound yX12_weights cX12_weights 3 (some .int) 0 0 S12_weights :=
  am_sound_of (own := RX12) (by decide) rfl <|
    fm_c (si_iconst dX12_weights_0 rfl) <|
    fm_c (si_istoren dX12_weights_1 rfl rfl) <|
    fm_c (si_iconst dX12_weights_2 rfl) <|
    fm_c (si_istoren dX12_weights_3 rfl rfl) <|
    fm_c (si_iloadn dX12_weights_4 rfl) <|
    fm_c (si_aloadn dX12_weights_5 rfl) <|
    fm_c (si_getf (C := RX12) (T := TX12) (N := 34) dX12_weights_6 rfl inC_12 rfl tw_985) <|
    fm_c (si_ic_ge dX12_weights_9 rfl) <|
    fm_c (si_iloadn dX12_weights_12 rfl) <|
    fm_c (si_aloadn dX12_weights_13 rfl) <|
    fm_c (si_getf (C := RX12) (T := TX12) (N := 34) dX12_weights_14 rfl inC_12 rfl tw_986) <|
    fm_c (si_iconst dX12_weights_17 rfl) <|
    fm_c (si_iloadn dX12_weights_18 rfl) <|
    fm_c (si_imul dX12_weights_19) <|
    fm_c (si_iconst dX12_weights_20 rfl) <|
    fm_c (si_iadd dX12_weights_21) <|
    fm_c (si_iald dX12_weights_22) <|
    fm_c (si_iadd dX12_weights_23) <|
    fm_c (si_istoren dX12_weights_24 rfl rfl) <|
    fm_c (si_iinc dX12_weights_25 rfl rfl) <|
    fm_c (si_goto dX12_weights_28 rfl) <|
    fm_c (si_iloadn dX12_weights_31 rfl) <|
    fm_c (si_iret rfl dX12_weights_32) <|
    fun _ h => absurd h List.not_mem_nil
def K12_seekOf : List (Nat × am_O) := [(0, o_aload 0 1),
  (1, o_iload 1 2),
  (2, o_callv S12_findWays 12 1 false 5),
  (5, o_if (fun a => ¬ a = 0) 14 8),
  (8, o_push (aI (-3)) 10),
  (10, o_call S12_no 1 false 13),
  (13, o_lret),
  (14, o_aload 0 15),
  (15, o_push (aI 1) 16),
  (16, o_aload 0 17),
  (17, o_getf 12 28 20),
  (20, o_sh am_shl 21),
  (21, o_push (aI 1) 22),
  (22, o_bin (fun a b => w32 (a - b)) 23),
  (23, o_callv S12_findBest 12 1 false 26),
  (26, o_istore 3 27),
  (27, o_iload 2 28),
  (28, o_if (fun a => 0 ≤ a) 45 31),
  (31, o_iload 3 32),
  (32, o_i2l 33),
  (33, o_aload 0 34),
  (34, o_callv S12_weights 12 0 false 37),
  (37, o_i2l 38),
  (38, o_iload 2 39),
  (39, o_push (aI 2) 40),
  (40, o_bin (fun a b => w32 (a + b)) 41),
  (41, o_call S12_part 3 false 44),
  (44, o_lret),
  (45, o_aload 0 46),
  (46, o_getf 12 32 49),
  (49, o_istore 4 51),
  (51, o_aload 0 52),
  (52, o_getf 12 28 55),
  (55, o_push (aI 1) 56),
  (56, o_bin (fun a b => w32 (a - b)) 57),
  (57, o_istore 5 59),
  (59, o_iload 5 61),
  (61, o_iload 2 62),
  (62, o_ic (fun a b => a ≤ b) 77 65),
  (65, o_iload 4 67),
  (67, o_push (aI 5) 68),
  (68, o_idiv 69),
  (69, o_istore 4 71),
  (71, o_iinc 5 (-1) 74),
  (74, o_goto 59),
  (77, o_iload 2 78),
  (78, o_aload 0 79),
  (79, o_getf 12 28 82),
  (82, o_ic (fun a b => b ≤ a) 93 85),
  (85, o_iload 4 87),
  (87, o_push (aI 5) 88),
  (88, o_irem 89),
  (89, o_i2l 90),
  (90, o_goto 96),
  (93, o_push (aL (-1)) 96),
  (96, o_lret)]
def S12_seekOf : am_E := am_S K12_seekOf 6
theorem hdd_12_seekOf : yX12_seekOf.cls ≠ "java/lang/invoke/MethodHandle" ∧ yX12_seekOf.cls ≠ "java/lang/invoke/VarHandle" ∧ (parseMethodDescriptor yX12_seekOf.desc).map (fun d => d.parameters.length) = some 2 := by decide +kernel
set_option maxRecDepth 100000 in
theorem snd_12_seekOf : am_Sound yX12_seekOf cX12_seekOf 6 (some .long) 4 100 S12_seekOf :=
  am_sound_of (own := RX12) (by decide) rfl <|
    fm_c (si_aloadn dX12_seekOf_0 rfl) <|
    fm_c (si_iloadn dX12_seekOf_1 rfl) <|
    fm_c (si_callv (C := RX12) (T := TX12) (N := 34) snd_12_findWays rfl dX12_seekOf_2 tw_1367 tw_1369 tw_59 tw_78 tw_1370 hdd_12_findWays ⟨rfl, rfl⟩) <|
    fm_c (si_if_ne dX12_seekOf_5 rfl) <|
    fm_c (si_bipush dX12_seekOf_8 rfl) <|
    fm_c (si_call snd_12_no dX12_seekOf_10 tw_1282 tw_1283 tw_78 tw_1284 hdd_12_no ⟨rfl, rfl⟩) <|
    fm_c (si_lret rfl dX12_seekOf_13) <|
    fm_c (si_aloadn dX12_seekOf_14 rfl) <|
    fm_c (si_iconst dX12_seekOf_15 rfl) <|
    fm_c (si_aloadn dX12_seekOf_16 rfl) <|
    fm_c (si_getf (C := RX12) (T := TX12) (N := 34) dX12_seekOf_17 rfl inC_12 rfl tw_985) <|
    fm_c (si_ishl dX12_seekOf_20) <|
    fm_c (si_iconst dX12_seekOf_21 rfl) <|
    fm_c (si_isub dX12_seekOf_22) <|
    fm_c (si_callv (C := RX12) (T := TX12) (N := 34) snd_12_findBest rfl dX12_seekOf_23 tw_1371 tw_1373 tw_60 tw_78 tw_1374 hdd_12_findBest ⟨rfl, rfl⟩) <|
    fm_c (si_istoren dX12_seekOf_26 rfl rfl) <|
    fm_c (si_iloadn dX12_seekOf_27 rfl) <|
    fm_c (si_if_ge dX12_seekOf_28 rfl) <|
    fm_c (si_iloadn dX12_seekOf_31 rfl) <|
    fm_c (si_i2l dX12_seekOf_32) <|
    fm_c (si_aloadn dX12_seekOf_33 rfl) <|
    fm_c (si_callv (C := RX12) (T := TX12) (N := 34) snd_12_weights rfl dX12_seekOf_34 tw_1375 tw_1377 tw_61 tw_78 tw_1378 hdd_12_weights ⟨rfl, rfl⟩) <|
    fm_c (si_i2l dX12_seekOf_37) <|
    fm_c (si_iloadn dX12_seekOf_38 rfl) <|
    fm_c (si_iconst dX12_seekOf_39 rfl) <|
    fm_c (si_iadd dX12_seekOf_40) <|
    fm_c (si_call snd_12_part dX12_seekOf_41 tw_1279 tw_1280 tw_78 tw_1281 hdd_12_part ⟨rfl, rfl⟩) <|
    fm_c (si_lret rfl dX12_seekOf_44) <|
    fm_c (si_aloadn dX12_seekOf_45 rfl) <|
    fm_c (si_getf (C := RX12) (T := TX12) (N := 34) dX12_seekOf_46 rfl inC_12 rfl tw_989) <|
    fm_c (si_istore dX12_seekOf_49 rfl) <|
    fm_c (si_aloadn dX12_seekOf_51 rfl) <|
    fm_c (si_getf (C := RX12) (T := TX12) (N := 34) dX12_seekOf_52 rfl inC_12 rfl tw_985) <|
    fm_c (si_iconst dX12_seekOf_55 rfl) <|
    fm_c (si_isub dX12_seekOf_56) <|
    fm_c (si_istore dX12_seekOf_57 rfl) <|
    fm_c (si_iload dX12_seekOf_59) <|
    fm_c (si_iloadn dX12_seekOf_61 rfl) <|
    fm_c (si_ic_le dX12_seekOf_62 rfl) <|
    fm_c (si_iload dX12_seekOf_65) <|
    fm_c (si_iconst dX12_seekOf_67 rfl) <|
    fm_c (si_idiv dX12_seekOf_68) <|
    fm_c (si_istore dX12_seekOf_69 rfl) <|
    fm_c (si_iinc dX12_seekOf_71 rfl rfl) <|
    fm_c (si_goto dX12_seekOf_74 rfl) <|
    fm_c (si_iloadn dX12_seekOf_77 rfl) <|
    fm_c (si_aloadn dX12_seekOf_78 rfl) <|
    fm_c (si_getf (C := RX12) (T := TX12) (N := 34) dX12_seekOf_79 rfl inC_12 rfl tw_985) <|
    fm_c (si_ic_ge dX12_seekOf_82 rfl) <|
    fm_c (si_iload dX12_seekOf_85) <|
    fm_c (si_iconst dX12_seekOf_87 rfl) <|
    fm_c (si_irem dX12_seekOf_88) <|
    fm_c (si_i2l dX12_seekOf_89) <|
    fm_c (si_goto dX12_seekOf_90 rfl) <|
    fm_c (si_ldc2 dX12_seekOf_93 tw_1264 rfl) <|
    fm_c (si_lret rfl dX12_seekOf_96) <|
    fun _ h => absurd h List.not_mem_nil
def K12_nearOf : List (Nat × am_O) := [(0, o_aload 0 1),
  (1, o_iload 2 2),
  (2, o_push (aI 0) 3),
  (3, o_callv S12_findFar 12 2 true 6),
  (6, o_aload 0 7),
  (7, o_getf 12 19 10),
  (10, o_iload 1 11),
  (11, o_iald 12),
  (12, o_push (aI 1000000) 14),
  (14, o_ic (fun a b => a < b) 21 17),
  (17, o_push (aI (-1)) 18),
  (18, o_goto 27),
  (21, o_aload 0 22),
  (22, o_getf 12 19 25),
  (25, o_iload 1 26),
  (26, o_iald 27),
  (27, o_iret)]
def S12_nearOf : am_E := am_S K12_nearOf 3
theorem hdd_12_nearOf : yX12_nearOf.cls ≠ "java/lang/invoke/MethodHandle" ∧ yX12_nearOf.cls ≠ "java/lang/invoke/VarHandle" ∧ (parseMethodDescriptor yX12_nearOf.desc).map (fun d => d.parameters.length) = some 2 := by decide +kernel
set_option maxRecDepth 100000 in
theorem snd_12_nearOf : am_Sound yX12_nearOf cX12_nearOf 3 (some .int) 3 76 S12_nearOf :=
  am_sound_of (own := RX12) (by decide) rfl <|
    fm_c (si_aloadn dX12_nearOf_0 rfl) <|
    fm_c (si_iloadn dX12_nearOf_1 rfl) <|
    fm_c (si_iconst dX12_nearOf_2 rfl) <|
    fm_c (si_callv (C := RX12) (T := TX12) (N := 34) snd_12_findFar rfl dX12_nearOf_3 tw_1215 tw_1217 tw_40 tw_78 tw_1218 hdd_12_findFar ⟨rfl, rfl⟩) <|
    fm_c (si_aloadn dX12_nearOf_6 rfl) <|
    fm_c (si_getf (C := RX12) (T := TX12) (N := 34) dX12_nearOf_7 rfl inC_12 rfl tw_976) <|
    fm_c (si_iloadn dX12_nearOf_10 rfl) <|
    fm_c (si_iald dX12_nearOf_11) <|
    fm_c (si_ldc dX12_nearOf_12 tw_1219 rfl) <|
    fm_c (si_ic_lt dX12_nearOf_14 rfl) <|
    fm_c (si_iconst dX12_nearOf_17 rfl) <|
    fm_c (si_goto dX12_nearOf_18 rfl) <|
    fm_c (si_aloadn dX12_nearOf_21 rfl) <|
    fm_c (si_getf (C := RX12) (T := TX12) (N := 34) dX12_nearOf_22 rfl inC_12 rfl tw_976) <|
    fm_c (si_iloadn dX12_nearOf_25 rfl) <|
    fm_c (si_iald dX12_nearOf_26) <|
    fm_c (si_iret rfl dX12_nearOf_27) <|
    fun _ h => absurd h List.not_mem_nil
def K12_near : List (Nat × am_O) := [(0, o_aload 0 1),
  (1, o_callv S12_reads 12 0 true 4),
  (4, o_aload 0 5),
  (5, o_iload 1 6),
  (6, o_callv S12_isPlace 12 1 false 9),
  (9, o_if (fun a => a = 0) 29 12),
  (12, o_aload 0 13),
  (13, o_iload 2 14),
  (14, o_callv S12_isPlace 12 1 false 17),
  (17, o_if (fun a => a = 0) 29 20),
  (20, o_aload 0 21),
  (21, o_iload 1 22),
  (22, o_iload 2 23),
  (23, o_callv S12_nearOf 12 2 false 26),
  (26, o_goto 31),
  (29, o_push (aI (-2)) 31),
  (31, o_iret)]
def S12_near : am_E := am_S K12_near 3
theorem hdd_12_near : yX12_near.cls ≠ "java/lang/invoke/MethodHandle" ∧ yX12_near.cls ≠ "java/lang/invoke/VarHandle" ∧ (parseMethodDescriptor yX12_near.desc).map (fun d => d.parameters.length) = some 2 := by decide +kernel
set_option maxRecDepth 100000 in
theorem snd_12_near : am_Sound yX12_near cX12_near 3 (some .int) 4 98 S12_near :=
  am_sound_of (own := RX12) (by decide) rfl <|
    fm_c (si_aloadn dX12_near_0 rfl) <|
    fm_c (si_callv (C := RX12) (T := TX12) (N := 34) snd_12_reads rfl dX12_near_1 tw_1182 tw_1184 tw_35 tw_78 tw_1185 hdd_12_reads ⟨rfl, rfl⟩) <|
    fm_c (si_aloadn dX12_near_4 rfl) <|
    fm_c (si_iloadn dX12_near_5 rfl) <|
    fm_c (si_callv (C := RX12) (T := TX12) (N := 34) snd_12_isPlace rfl dX12_near_6 tw_1190 tw_1192 tw_37 tw_78 tw_1193 hdd_12_isPlace ⟨rfl, rfl⟩) <|
    fm_c (si_if_eq dX12_near_9 rfl) <|
    fm_c (si_aloadn dX12_near_12 rfl) <|
    fm_c (si_iloadn dX12_near_13 rfl) <|
    fm_c (si_callv (C := RX12) (T := TX12) (N := 34) snd_12_isPlace rfl dX12_near_14 tw_1190 tw_1192 tw_37 tw_78 tw_1193 hdd_12_isPlace ⟨rfl, rfl⟩) <|
    fm_c (si_if_eq dX12_near_17 rfl) <|
    fm_c (si_aloadn dX12_near_20 rfl) <|
    fm_c (si_iloadn dX12_near_21 rfl) <|
    fm_c (si_iloadn dX12_near_22 rfl) <|
    fm_c (si_callv (C := RX12) (T := TX12) (N := 34) snd_12_nearOf rfl dX12_near_23 tw_1211 tw_1213 tw_39 tw_78 tw_1214 hdd_12_nearOf ⟨rfl, rfl⟩) <|
    fm_c (si_goto dX12_near_26 rfl) <|
    fm_c (si_bipush dX12_near_29 rfl) <|
    fm_c (si_iret rfl dX12_near_31) <|
    fun _ h => absurd h List.not_mem_nil
def K12_easiestOf : List (Nat × am_O) := [(0, o_aload 0 1),
  (1, o_iload 2 2),
  (2, o_push (aI 1000) 5),
  (5, o_callv S12_findFar 12 2 true 8),
  (8, o_aload 0 9),
  (9, o_getf 12 19 12),
  (12, o_iload 1 13),
  (13, o_iald 14),
  (14, o_push (aI 1000000) 16),
  (16, o_ic (fun a b => b ≤ a) 23 19),
  (19, o_iload 3 20),
  (20, o_if (fun a => 0 ≤ a) 68 23),
  (23, o_aload 0 24),
  (24, o_getf 12 19 27),
  (27, o_iload 1 28),
  (28, o_iald 29),
  (29, o_push (aI 1000000) 31),
  (31, o_ic (fun a b => a < b) 38 34),
  (34, o_push (aI (-1)) 35),
  (35, o_goto 67),
  (38, o_iload 3 39),
  (39, o_push (aI (-2)) 41),
  (41, o_ic (fun a b => ¬ a = b) 57 44),
  (44, o_aload 0 45),
  (45, o_getf 12 19 48),
  (48, o_iload 1 49),
  (49, o_iald 50),
  (50, o_push (aI 1000) 53),
  (53, o_idiv 54),
  (54, o_goto 67),
  (57, o_aload 0 58),
  (58, o_getf 12 19 61),
  (61, o_iload 1 62),
  (62, o_iald 63),
  (63, o_push (aI 1000) 66),
  (66, o_irem 67),
  (67, o_iret),
  (68, o_iload 1 69),
  (69, o_istore 4 71),
  (71, o_push (aI (-1)) 72),
  (72, o_istore 5 74),
  (74, o_push (aI 0) 75),
  (75, o_istore 6 77),
  (77, o_iload 6 79),
  (79, o_iload 3 80),
  (80, o_ic (fun a b => b < a) 166 83),
  (83, o_iload 4 85),
  (85, o_iload 2 86),
  (86, o_ic (fun a b => ¬ a = b) 91 89),
  (89, o_push (aI (-1)) 90),
  (90, o_iret),
  (91, o_push (aI 0) 92),
  (92, o_istore 5 94),
  (94, o_aload 0 95),
  (95, o_iload 4 97),
  (97, o_push (aI 0) 98),
  (98, o_callv S12_beside 12 2 false 101),
  (101, o_istore 7 103),
  (103, o_iload 7 105),
  (105, o_push (aI (-1)) 106),
  (106, o_ic (fun a b => a = b) 140 109),
  (109, o_aload 0 110),
  (110, o_getf 12 19 113),
  (113, o_iload 4 115),
  (115, o_iald 116),
  (116, o_aload 0 117),
  (117, o_getf 12 19 120),
  (120, o_iload 7 122),
  (122, o_iald 123),
  (123, o_push (aI 1000) 126),
  (126, o_aload 0 127),
  (127, o_getf 12 8 130),
  (130, o_iload 7 132),
  (132, o_iald 133),
  (133, o_bin (fun a b => w32 (a * b)) 134),
  (134, o_bin (fun a b => w32 (a + b)) 135),
  (135, o_push (aI 1) 136),
  (136, o_bin (fun a b => w32 (a + b)) 137),
  (137, o_ic (fun a b => a = b) 156 140),
  (140, o_iinc 5 1 143),
  (143, o_aload 0 144),
  (144, o_iload 4 146),
  (146, o_iload 5 148),
  (148, o_callv S12_beside 12 2 false 151),
  (151, o_istore 7 153),
  (153, o_goto 103),
  (156, o_iload 7 158),
  (158, o_istore 4 160),
  (160, o_iinc 6 1 163),
  (163, o_goto 77),
  (166, o_iload 5 168),
  (168, o_iret)]
def S12_easiestOf : am_E := am_S K12_easiestOf 8
theorem hdd_12_easiestOf : yX12_easiestOf.cls ≠ "java/lang/invoke/MethodHandle" ∧ yX12_easiestOf.cls ≠ "java/lang/invoke/VarHandle" ∧ (parseMethodDescriptor yX12_easiestOf.desc).map (fun d => d.parameters.length) = some 3 := by decide +kernel
set_option maxRecDepth 100000 in
theorem snd_12_easiestOf : am_Sound yX12_easiestOf cX12_easiestOf 8 (some .int) 3 76 S12_easiestOf :=
  am_sound_of (own := RX12) (by decide) rfl <|
    fm_c (si_aloadn dX12_easiestOf_0 rfl) <|
    fm_c (si_iloadn dX12_easiestOf_1 rfl) <|
    fm_c (si_sipush dX12_easiestOf_2 rfl) <|
    fm_c (si_callv (C := RX12) (T := TX12) (N := 34) snd_12_findFar rfl dX12_easiestOf_5 tw_1215 tw_1217 tw_40 tw_78 tw_1218 hdd_12_findFar ⟨rfl, rfl⟩) <|
    fm_c (si_aloadn dX12_easiestOf_8 rfl) <|
    fm_c (si_getf (C := RX12) (T := TX12) (N := 34) dX12_easiestOf_9 rfl inC_12 rfl tw_976) <|
    fm_c (si_iloadn dX12_easiestOf_12 rfl) <|
    fm_c (si_iald dX12_easiestOf_13) <|
    fm_c (si_ldc dX12_easiestOf_14 tw_1219 rfl) <|
    fm_c (si_ic_ge dX12_easiestOf_16 rfl) <|
    fm_c (si_iloadn dX12_easiestOf_19 rfl) <|
    fm_c (si_if_ge dX12_easiestOf_20 rfl) <|
    fm_c (si_aloadn dX12_easiestOf_23 rfl) <|
    fm_c (si_getf (C := RX12) (T := TX12) (N := 34) dX12_easiestOf_24 rfl inC_12 rfl tw_976) <|
    fm_c (si_iloadn dX12_easiestOf_27 rfl) <|
    fm_c (si_iald dX12_easiestOf_28) <|
    fm_c (si_ldc dX12_easiestOf_29 tw_1219 rfl) <|
    fm_c (si_ic_lt dX12_easiestOf_31 rfl) <|
    fm_c (si_iconst dX12_easiestOf_34 rfl) <|
    fm_c (si_goto dX12_easiestOf_35 rfl) <|
    fm_c (si_iloadn dX12_easiestOf_38 rfl) <|
    fm_c (si_bipush dX12_easiestOf_39 rfl) <|
    fm_c (si_ic_ne dX12_easiestOf_41 rfl) <|
    fm_c (si_aloadn dX12_easiestOf_44 rfl) <|
    fm_c (si_getf (C := RX12) (T := TX12) (N := 34) dX12_easiestOf_45 rfl inC_12 rfl tw_976) <|
    fm_c (si_iloadn dX12_easiestOf_48 rfl) <|
    fm_c (si_iald dX12_easiestOf_49) <|
    fm_c (si_sipush dX12_easiestOf_50 rfl) <|
    fm_c (si_idiv dX12_easiestOf_53) <|
    fm_c (si_goto dX12_easiestOf_54 rfl) <|
    fm_c (si_aloadn dX12_easiestOf_57 rfl) <|
    fm_c (si_getf (C := RX12) (T := TX12) (N := 34) dX12_easiestOf_58 rfl inC_12 rfl tw_976) <|
    fm_c (si_iloadn dX12_easiestOf_61 rfl) <|
    fm_c (si_iald dX12_easiestOf_62) <|
    fm_c (si_sipush dX12_easiestOf_63 rfl) <|
    fm_c (si_irem dX12_easiestOf_66) <|
    fm_c (si_iret rfl dX12_easiestOf_67) <|
    fm_c (si_iloadn dX12_easiestOf_68 rfl) <|
    fm_c (si_istore dX12_easiestOf_69 rfl) <|
    fm_c (si_iconst dX12_easiestOf_71 rfl) <|
    fm_c (si_istore dX12_easiestOf_72 rfl) <|
    fm_c (si_iconst dX12_easiestOf_74 rfl) <|
    fm_c (si_istore dX12_easiestOf_75 rfl) <|
    fm_c (si_iload dX12_easiestOf_77) <|
    fm_c (si_iloadn dX12_easiestOf_79 rfl) <|
    fm_c (si_ic_gt dX12_easiestOf_80 rfl) <|
    fm_c (si_iload dX12_easiestOf_83) <|
    fm_c (si_iloadn dX12_easiestOf_85 rfl) <|
    fm_c (si_ic_ne dX12_easiestOf_86 rfl) <|
    fm_c (si_iconst dX12_easiestOf_89 rfl) <|
    fm_c (si_iret rfl dX12_easiestOf_90) <|
    fm_c (si_iconst dX12_easiestOf_91 rfl) <|
    fm_c (si_istore dX12_easiestOf_92 rfl) <|
    fm_c (si_aloadn dX12_easiestOf_94 rfl) <|
    fm_c (si_iload dX12_easiestOf_95) <|
    fm_c (si_iconst dX12_easiestOf_97 rfl) <|
    fm_c (si_callv (C := RX12) (T := TX12) (N := 34) snd_12_beside rfl dX12_easiestOf_98 tw_1194 tw_1196 tw_38 tw_78 tw_1197 hdd_12_beside ⟨rfl, rfl⟩) <|
    fm_c (si_istore dX12_easiestOf_101 rfl) <|
    fm_c (si_iload dX12_easiestOf_103) <|
    fm_c (si_iconst dX12_easiestOf_105 rfl) <|
    fm_c (si_ic_eq dX12_easiestOf_106 rfl) <|
    fm_c (si_aloadn dX12_easiestOf_109 rfl) <|
    fm_c (si_getf (C := RX12) (T := TX12) (N := 34) dX12_easiestOf_110 rfl inC_12 rfl tw_976) <|
    fm_c (si_iload dX12_easiestOf_113) <|
    fm_c (si_iald dX12_easiestOf_115) <|
    fm_c (si_aloadn dX12_easiestOf_116 rfl) <|
    fm_c (si_getf (C := RX12) (T := TX12) (N := 34) dX12_easiestOf_117 rfl inC_12 rfl tw_976) <|
    fm_c (si_iload dX12_easiestOf_120) <|
    fm_c (si_iald dX12_easiestOf_122) <|
    fm_c (si_sipush dX12_easiestOf_123 rfl) <|
    fm_c (si_aloadn dX12_easiestOf_126 rfl) <|
    fm_c (si_getf (C := RX12) (T := TX12) (N := 34) dX12_easiestOf_127 rfl inC_12 rfl tw_965) <|
    fm_c (si_iload dX12_easiestOf_130) <|
    fm_c (si_iald dX12_easiestOf_132) <|
    fm_c (si_imul dX12_easiestOf_133) <|
    fm_c (si_iadd dX12_easiestOf_134) <|
    fm_c (si_iconst dX12_easiestOf_135 rfl) <|
    fm_c (si_iadd dX12_easiestOf_136) <|
    fm_c (si_ic_eq dX12_easiestOf_137 rfl) <|
    fm_c (si_iinc dX12_easiestOf_140 rfl rfl) <|
    fm_c (si_aloadn dX12_easiestOf_143 rfl) <|
    fm_c (si_iload dX12_easiestOf_144) <|
    fm_c (si_iload dX12_easiestOf_146) <|
    fm_c (si_callv (C := RX12) (T := TX12) (N := 34) snd_12_beside rfl dX12_easiestOf_148 tw_1194 tw_1196 tw_38 tw_78 tw_1197 hdd_12_beside ⟨rfl, rfl⟩) <|
    fm_c (si_istore dX12_easiestOf_151 rfl) <|
    fm_c (si_goto dX12_easiestOf_153 rfl) <|
    fm_c (si_iload dX12_easiestOf_156) <|
    fm_c (si_istore dX12_easiestOf_158 rfl) <|
    fm_c (si_iinc dX12_easiestOf_160 rfl rfl) <|
    fm_c (si_goto dX12_easiestOf_163 rfl) <|
    fm_c (si_iload dX12_easiestOf_166) <|
    fm_c (si_iret rfl dX12_easiestOf_168) <|
    fun _ h => absurd h List.not_mem_nil
def K12_easiest : List (Nat × am_O) := [(0, o_aload 0 1),
  (1, o_callv S12_reads 12 0 true 4),
  (4, o_aload 0 5),
  (5, o_iload 1 6),
  (6, o_callv S12_isPlace 12 1 false 9),
  (9, o_if (fun a => a = 0) 36 12),
  (12, o_aload 0 13),
  (13, o_iload 2 14),
  (14, o_callv S12_isPlace 12 1 false 17),
  (17, o_if (fun a => a = 0) 36 20),
  (20, o_iload 3 21),
  (21, o_push (aI (-2)) 23),
  (23, o_ic (fun a b => a < b) 36 26),
  (26, o_aload 0 27),
  (27, o_iload 1 28),
  (28, o_iload 2 29),
  (29, o_iload 3 30),
  (30, o_callv S12_easiestOf 12 3 false 33),
  (33, o_goto 38),
  (36, o_push (aI (-2)) 38),
  (38, o_iret)]
def S12_easiest : am_E := am_S K12_easiest 4
theorem hdd_12_easiest : yX12_easiest.cls ≠ "java/lang/invoke/MethodHandle" ∧ yX12_easiest.cls ≠ "java/lang/invoke/VarHandle" ∧ (parseMethodDescriptor yX12_easiest.desc).map (fun d => d.parameters.length) = some 3 := by decide +kernel
set_option maxRecDepth 100000 in
theorem snd_12_easiest : am_Sound yX12_easiest cX12_easiest 4 (some .int) 4 103 S12_easiest :=
  am_sound_of (own := RX12) (by decide) rfl <|
    fm_c (si_aloadn dX12_easiest_0 rfl) <|
    fm_c (si_callv (C := RX12) (T := TX12) (N := 34) snd_12_reads rfl dX12_easiest_1 tw_1182 tw_1184 tw_35 tw_78 tw_1185 hdd_12_reads ⟨rfl, rfl⟩) <|
    fm_c (si_aloadn dX12_easiest_4 rfl) <|
    fm_c (si_iloadn dX12_easiest_5 rfl) <|
    fm_c (si_callv (C := RX12) (T := TX12) (N := 34) snd_12_isPlace rfl dX12_easiest_6 tw_1190 tw_1192 tw_37 tw_78 tw_1193 hdd_12_isPlace ⟨rfl, rfl⟩) <|
    fm_c (si_if_eq dX12_easiest_9 rfl) <|
    fm_c (si_aloadn dX12_easiest_12 rfl) <|
    fm_c (si_iloadn dX12_easiest_13 rfl) <|
    fm_c (si_callv (C := RX12) (T := TX12) (N := 34) snd_12_isPlace rfl dX12_easiest_14 tw_1190 tw_1192 tw_37 tw_78 tw_1193 hdd_12_isPlace ⟨rfl, rfl⟩) <|
    fm_c (si_if_eq dX12_easiest_17 rfl) <|
    fm_c (si_iloadn dX12_easiest_20 rfl) <|
    fm_c (si_bipush dX12_easiest_21 rfl) <|
    fm_c (si_ic_lt dX12_easiest_23 rfl) <|
    fm_c (si_aloadn dX12_easiest_26 rfl) <|
    fm_c (si_iloadn dX12_easiest_27 rfl) <|
    fm_c (si_iloadn dX12_easiest_28 rfl) <|
    fm_c (si_iloadn dX12_easiest_29 rfl) <|
    fm_c (si_callv (C := RX12) (T := TX12) (N := 34) snd_12_easiestOf rfl dX12_easiest_30 tw_1224 tw_1226 tw_41 tw_78 tw_1227 hdd_12_easiestOf ⟨rfl, rfl⟩) <|
    fm_c (si_goto dX12_easiest_33 rfl) <|
    fm_c (si_bipush dX12_easiest_36 rfl) <|
    fm_c (si_iret rfl dX12_easiest_38) <|
    fun _ h => absurd h List.not_mem_nil
def K12_holdsOf : List (Nat × am_O) := [(0, o_push (aL 1) 1),
  (1, o_lstore 5 3),
  (3, o_push (aL 1) 4),
  (4, o_lstore 7 6),
  (6, o_iload 2 7),
  (7, o_istore 9 9),
  (9, o_iload 9 11),
  (11, o_iload 2 12),
  (12, o_iload 3 13),
  (13, o_bin (fun a b => w32 (a + b)) 14),
  (14, o_ic (fun a b => b ≤ a) 64 17),
  (17, o_lload 5 19),
  (19, o_push (aI 256) 22),
  (22, o_aload 0 23),
  (23, o_getf 12 8 26),
  (26, o_aload 0 27),
  (27, o_getf 12 18 30),
  (30, o_iload 9 32),
  (32, o_push (aI 1) 33),
  (33, o_bin (fun a b => w32 (a + b)) 34),
  (34, o_iald 35),
  (35, o_iald 36),
  (36, o_push (aI 16) 38),
  (38, o_aload 0 39),
  (39, o_iload 1 40),
  (40, o_callv S12_gripAt 12 1 false 43),
  (43, o_bin (fun a b => w32 (a - b)) 44),
  (44, o_bin (fun a b => w32 (a * b)) 45),
  (45, o_bin (fun a b => w32 (a - b)) 46),
  (46, o_i2l 47),
  (47, o_binL (fun a b => w64 (a * b)) 48),
  (48, o_lstore 5 50),
  (50, o_lload 7 52),
  (52, o_push (aL 256) 55),
  (55, o_binL (fun a b => w64 (a * b)) 56),
  (56, o_lstore 7 58),
  (58, o_iinc 9 1 61),
  (61, o_goto 9),
  (64, o_lload 5 66),
  (66, o_lload 7 68),
  (68, o_iload 4 70),
  (70, o_call S12_part 3 false 73),
  (73, o_lret)]
def S12_holdsOf : am_E := am_S K12_holdsOf 10
theorem hdd_12_holdsOf : yX12_holdsOf.cls ≠ "java/lang/invoke/MethodHandle" ∧ yX12_holdsOf.cls ≠ "java/lang/invoke/VarHandle" ∧ (parseMethodDescriptor yX12_holdsOf.desc).map (fun d => d.parameters.length) = some 4 := by decide +kernel
set_option maxRecDepth 100000 in
theorem snd_12_holdsOf : am_Sound yX12_holdsOf cX12_holdsOf 10 (some .long) 1 30 S12_holdsOf :=
  am_sound_of (own := RX12) (by decide) rfl <|
    fm_c (si_lconst1 dX12_holdsOf_0) <|
    fm_c (si_lstore dX12_holdsOf_1 rfl) <|
    fm_c (si_lconst1 dX12_holdsOf_3) <|
    fm_c (si_lstore dX12_holdsOf_4 rfl) <|
    fm_c (si_iloadn dX12_holdsOf_6 rfl) <|
    fm_c (si_istore dX12_holdsOf_7 rfl) <|
    fm_c (si_iload dX12_holdsOf_9) <|
    fm_c (si_iloadn dX12_holdsOf_11 rfl) <|
    fm_c (si_iloadn dX12_holdsOf_12 rfl) <|
    fm_c (si_iadd dX12_holdsOf_13) <|
    fm_c (si_ic_ge dX12_holdsOf_14 rfl) <|
    fm_c (si_lload dX12_holdsOf_17) <|
    fm_c (si_sipush dX12_holdsOf_19 rfl) <|
    fm_c (si_aloadn dX12_holdsOf_22 rfl) <|
    fm_c (si_getf (C := RX12) (T := TX12) (N := 34) dX12_holdsOf_23 rfl inC_12 rfl tw_965) <|
    fm_c (si_aloadn dX12_holdsOf_26 rfl) <|
    fm_c (si_getf (C := RX12) (T := TX12) (N := 34) dX12_holdsOf_27 rfl inC_12 rfl tw_975) <|
    fm_c (si_iload dX12_holdsOf_30) <|
    fm_c (si_iconst dX12_holdsOf_32 rfl) <|
    fm_c (si_iadd dX12_holdsOf_33) <|
    fm_c (si_iald dX12_holdsOf_34) <|
    fm_c (si_iald dX12_holdsOf_35) <|
    fm_c (si_bipush dX12_holdsOf_36 rfl) <|
    fm_c (si_aloadn dX12_holdsOf_38 rfl) <|
    fm_c (si_iloadn dX12_holdsOf_39 rfl) <|
    fm_c (si_callv (C := RX12) (T := TX12) (N := 34) snd_12_gripAt rfl dX12_holdsOf_40 tw_1244 tw_1246 tw_44 tw_78 tw_1247 hdd_12_gripAt ⟨rfl, rfl⟩) <|
    fm_c (si_isub dX12_holdsOf_43) <|
    fm_c (si_imul dX12_holdsOf_44) <|
    fm_c (si_isub dX12_holdsOf_45) <|
    fm_c (si_i2l dX12_holdsOf_46) <|
    fm_c (si_lmul dX12_holdsOf_47) <|
    fm_c (si_lstore dX12_holdsOf_48 rfl) <|
    fm_c (si_lload dX12_holdsOf_50) <|
    fm_c (si_ldc2 dX12_holdsOf_52 tw_1278 rfl) <|
    fm_c (si_lmul dX12_holdsOf_55) <|
    fm_c (si_lstore dX12_holdsOf_56 rfl) <|
    fm_c (si_iinc dX12_holdsOf_58 rfl rfl) <|
    fm_c (si_goto dX12_holdsOf_61 rfl) <|
    fm_c (si_lload dX12_holdsOf_64) <|
    fm_c (si_lload dX12_holdsOf_66) <|
    fm_c (si_iload dX12_holdsOf_68) <|
    fm_c (si_call snd_12_part dX12_holdsOf_70 tw_1279 tw_1280 tw_78 tw_1281 hdd_12_part ⟨rfl, rfl⟩) <|
    fm_c (si_lret rfl dX12_holdsOf_73) <|
    fun _ h => absurd h List.not_mem_nil
def K12_holds : List (Nat × am_O) := [(0, o_aload 0 1),
  (1, o_callv S12_reads 12 0 true 4),
  (4, o_iload 1 5),
  (5, o_i2l 6),
  (6, o_push (aL 0) 7),
  (7, o_aload 0 8),
  (8, o_getf 12 9 11),
  (11, o_push (aI 2) 12),
  (12, o_bin (fun a b => w32 (a - b)) 13),
  (13, o_i2l 14),
  (14, o_call S12_in 3 false 17),
  (17, o_if (fun a => a = 0) 54 20),
  (20, o_iload 2 21),
  (21, o_if (fun a => a < 0) 54 24),
  (24, o_iload 3 25),
  (25, o_i2l 26),
  (26, o_push (aL 0) 27),
  (27, o_push (aL 6) 30),
  (30, o_call S12_in 3 false 33),
  (33, o_if (fun a => a = 0) 54 36),
  (36, o_iload 2 37),
  (37, o_i2l 38),
  (38, o_iload 3 39),
  (39, o_i2l 40),
  (40, o_binL (fun a b => w64 (a + b)) 41),
  (41, o_aload 0 42),
  (42, o_getf 12 17 45),
  (45, o_i2l 46),
  (46, o_lcmp 47),
  (47, o_if (fun a => 0 < a) 54 50),
  (50, o_push (aI 1) 51),
  (51, o_goto 55),
  (54, o_push (aI 0) 55),
  (55, o_istore 5 57),
  (57, o_iload 5 59),
  (59, o_if (fun a => a = 0) 82 62),
  (62, o_iload 4 64),
  (64, o_call S12_isTwo 1 false 67),
  (67, o_if (fun a => a = 0) 82 70),
  (70, o_aload 0 71),
  (71, o_iload 1 72),
  (72, o_iload 2 73),
  (73, o_iload 3 74),
  (74, o_iload 4 76),
  (76, o_callv S12_holdsOf 12 4 false 79),
  (79, o_goto 87),
  (82, o_push (aI (-2)) 84),
  (84, o_call S12_no 1 false 87),
  (87, o_lret)]
def S12_holds : am_E := am_S K12_holds 6
theorem hdd_12_holds : yX12_holds.cls ≠ "java/lang/invoke/MethodHandle" ∧ yX12_holds.cls ≠ "java/lang/invoke/VarHandle" ∧ (parseMethodDescriptor yX12_holds.desc).map (fun d => d.parameters.length) = some 4 := by decide +kernel
set_option maxRecDepth 100000 in
theorem snd_12_holds : am_Sound yX12_holds cX12_holds 6 (some .long) 4 94 S12_holds :=
  am_sound_of (own := RX12) (by decide) rfl <|
    fm_c (si_aloadn dX12_holds_0 rfl) <|
    fm_c (si_callv (C := RX12) (T := TX12) (N := 34) snd_12_reads rfl dX12_holds_1 tw_1182 tw_1184 tw_35 tw_78 tw_1185 hdd_12_reads ⟨rfl, rfl⟩) <|
    fm_c (si_iloadn dX12_holds_4 rfl) <|
    fm_c (si_i2l dX12_holds_5) <|
    fm_c (si_lconst0 dX12_holds_6) <|
    fm_c (si_aloadn dX12_holds_7 rfl) <|
    fm_c (si_getf (C := RX12) (T := TX12) (N := 34) dX12_holds_8 rfl inC_12 rfl tw_966) <|
    fm_c (si_iconst dX12_holds_11 rfl) <|
    fm_c (si_isub dX12_holds_12) <|
    fm_c (si_i2l dX12_holds_13) <|
    fm_c (si_call snd_12_in dX12_holds_14 tw_1068 tw_1069 tw_78 tw_1070 hdd_12_in ⟨rfl, rfl⟩) <|
    fm_c (si_if_eq dX12_holds_17 rfl) <|
    fm_c (si_iloadn dX12_holds_20 rfl) <|
    fm_c (si_if_lt dX12_holds_21 rfl) <|
    fm_c (si_iloadn dX12_holds_24 rfl) <|
    fm_c (si_i2l dX12_holds_25) <|
    fm_c (si_lconst0 dX12_holds_26) <|
    fm_c (si_ldc2 dX12_holds_27 tw_1273 rfl) <|
    fm_c (si_call snd_12_in dX12_holds_30 tw_1068 tw_1069 tw_78 tw_1070 hdd_12_in ⟨rfl, rfl⟩) <|
    fm_c (si_if_eq dX12_holds_33 rfl) <|
    fm_c (si_iloadn dX12_holds_36 rfl) <|
    fm_c (si_i2l dX12_holds_37) <|
    fm_c (si_iloadn dX12_holds_38 rfl) <|
    fm_c (si_i2l dX12_holds_39) <|
    fm_c (si_ladd dX12_holds_40) <|
    fm_c (si_aloadn dX12_holds_41 rfl) <|
    fm_c (si_getf (C := RX12) (T := TX12) (N := 34) dX12_holds_42 rfl inC_12 rfl tw_974) <|
    fm_c (si_i2l dX12_holds_45) <|
    fm_c (si_lcmp dX12_holds_46) <|
    fm_c (si_if_gt dX12_holds_47 rfl) <|
    fm_c (si_iconst dX12_holds_50 rfl) <|
    fm_c (si_goto dX12_holds_51 rfl) <|
    fm_c (si_iconst dX12_holds_54 rfl) <|
    fm_c (si_istore dX12_holds_55 rfl) <|
    fm_c (si_iload dX12_holds_57) <|
    fm_c (si_if_eq dX12_holds_59 rfl) <|
    fm_c (si_iload dX12_holds_62) <|
    fm_c (si_call snd_12_isTwo dX12_holds_64 tw_1170 tw_1171 tw_78 tw_1172 hdd_12_isTwo ⟨rfl, rfl⟩) <|
    fm_c (si_if_eq dX12_holds_67 rfl) <|
    fm_c (si_aloadn dX12_holds_70 rfl) <|
    fm_c (si_iloadn dX12_holds_71 rfl) <|
    fm_c (si_iloadn dX12_holds_72 rfl) <|
    fm_c (si_iloadn dX12_holds_73 rfl) <|
    fm_c (si_iload dX12_holds_74) <|
    fm_c (si_callv (C := RX12) (T := TX12) (N := 34) snd_12_holdsOf rfl dX12_holds_76 tw_1274 tw_1276 tw_47 tw_78 tw_1277 hdd_12_holdsOf ⟨rfl, rfl⟩) <|
    fm_c (si_goto dX12_holds_79 rfl) <|
    fm_c (si_bipush dX12_holds_82 rfl) <|
    fm_c (si_call snd_12_no dX12_holds_84 tw_1282 tw_1283 tw_78 tw_1284 hdd_12_no ⟨rfl, rfl⟩) <|
    fm_c (si_lret rfl dX12_holds_87) <|
    fun _ h => absurd h List.not_mem_nil
def K12_lot : List (Nat × am_O) := [(0, o_aload 0 1),
  (1, o_push (aI 1103515245) 3),
  (3, o_aload 0 4),
  (4, o_getf 12 22 7),
  (7, o_bin (fun a b => w32 (a * b)) 8),
  (8, o_push (aI 12345) 11),
  (11, o_bin (fun a b => w32 (a + b)) 12),
  (12, o_putI 12 22 15),
  (15, o_aload 0 16),
  (16, o_getf 12 22 19),
  (19, o_push (aI 16) 21),
  (21, o_sh am_ushr 22),
  (22, o_push (aI 16) 24),
  (24, o_irem 25),
  (25, o_iret)]
def S12_lot : am_E := am_S K12_lot 1
theorem hdd_12_lot : yX12_lot.cls ≠ "java/lang/invoke/MethodHandle" ∧ yX12_lot.cls ≠ "java/lang/invoke/VarHandle" ∧ (parseMethodDescriptor yX12_lot.desc).map (fun d => d.parameters.length) = some 0 := by decide +kernel
set_option maxRecDepth 100000 in
theorem snd_12_lot : am_Sound yX12_lot cX12_lot 1 (some .int) 0 0 S12_lot :=
  am_sound_of (own := RX12) (by decide) rfl <|
    fm_c (si_aloadn dX12_lot_0 rfl) <|
    fm_c (si_ldc dX12_lot_1 tw_1310 rfl) <|
    fm_c (si_aloadn dX12_lot_3 rfl) <|
    fm_c (si_getf (C := RX12) (T := TX12) (N := 34) dX12_lot_4 rfl inC_12 rfl tw_979) <|
    fm_c (si_imul dX12_lot_7) <|
    fm_c (si_sipush dX12_lot_8 rfl) <|
    fm_c (si_iadd dX12_lot_11) <|
    fm_c (si_putI (C := RX12) (T := TX12) (N := 34) dX12_lot_12 rfl inC_12 tyX12 tyX12_ok nmX12 rfl tw_979 rfl (tyX12_ok 22 (by decide))) <|
    fm_c (si_aloadn dX12_lot_15 rfl) <|
    fm_c (si_getf (C := RX12) (T := TX12) (N := 34) dX12_lot_16 rfl inC_12 rfl tw_979) <|
    fm_c (si_bipush dX12_lot_19 rfl) <|
    fm_c (si_iushr dX12_lot_21) <|
    fm_c (si_bipush dX12_lot_22 rfl) <|
    fm_c (si_irem dX12_lot_24) <|
    fm_c (si_iret rfl dX12_lot_25) <|
    fun _ h => absurd h List.not_mem_nil
def K12_tears : List (Nat × am_O) := [(0, o_push (aI 0) 1),
  (1, o_istore 1 2),
  (2, o_aload 0 3),
  (3, o_push (aI (-1)) 4),
  (4, o_putI 12 23 7),
  (7, o_aload 0 8),
  (8, o_push (aI (-1)) 9),
  (9, o_putI 12 24 12),
  (12, o_push (aI 0) 13),
  (13, o_istore 2 14),
  (14, o_iload 2 15),
  (15, o_aload 0 16),
  (16, o_getf 12 17 19),
  (19, o_ic (fun a b => b ≤ a) 132 22),
  (22, o_push (aI 0) 23),
  (23, o_istore 3 24),
  (24, o_iload 3 25),
  (25, o_push (aI 1) 26),
  (26, o_bin (fun a b => w32 (a + b)) 27),
  (27, o_aload 0 28),
  (28, o_getf 12 9 31),
  (31, o_ic (fun a b => b ≤ a) 126 34),
  (34, o_iload 1 35),
  (35, o_iload 3 36),
  (36, o_call S12_isIn 2 false 39),
  (39, o_if (fun a => ¬ a = 0) 120 42),
  (42, o_aload 0 43),
  (43, o_callv S12_lot 12 0 false 46),
  (46, o_aload 0 47),
  (47, o_getf 12 8 50),
  (50, o_aload 0 51),
  (51, o_getf 12 18 54),
  (54, o_iload 2 55),
  (55, o_push (aI 1) 56),
  (56, o_bin (fun a b => w32 (a + b)) 57),
  (57, o_iald 58),
  (58, o_iald 59),
  (59, o_ic (fun a b => b ≤ a) 120 62),
  (62, o_aload 0 63),
  (63, o_callv S12_lot 12 0 false 66),
  (66, o_aload 0 67),
  (67, o_iload 3 68),
  (68, o_callv S12_gripAt 12 1 false 71),
  (71, o_ic (fun a b => a < b) 120 74),
  (74, o_iload 1 75),
  (75, o_push (aI 1) 76),
  (76, o_iload 3 77),
  (77, o_sh am_shl 78),
  (78, o_bin am_or 79),
  (79, o_istore 1 80),
  (80, o_aload 0 81),
  (81, o_aload 0 82),
  (82, o_getf 12 23 85),
  (85, o_push (aI (-1)) 86),
  (86, o_ic (fun a b => ¬ a = b) 93 89),
  (89, o_iload 2 90),
  (90, o_goto 97),
  (93, o_aload 0 94),
  (94, o_getf 12 24 97),
  (97, o_putI 12 24 100),
  (100, o_aload 0 101),
  (101, o_aload 0 102),
  (102, o_getf 12 23 105),
  (105, o_push (aI (-1)) 106),
  (106, o_ic (fun a b => ¬ a = b) 113 109),
  (109, o_iload 3 110),
  (110, o_goto 117),
  (113, o_aload 0 114),
  (114, o_getf 12 23 117),
  (117, o_putI 12 23 120),
  (120, o_iinc 3 1 123),
  (123, o_goto 24),
  (126, o_iinc 2 1 129),
  (129, o_goto 14),
  (132, o_aload 0 133),
  (133, o_iload 1 134),
  (134, o_call S12_ones 1 false 137),
  (137, o_putI 12 25 140),
  (140, o_vret)]
def S12_tears : am_E := am_S K12_tears 4
theorem hdd_12_tears : yX12_tears.cls ≠ "java/lang/invoke/MethodHandle" ∧ yX12_tears.cls ≠ "java/lang/invoke/VarHandle" ∧ (parseMethodDescriptor yX12_tears.desc).map (fun d => d.parameters.length) = some 0 := by decide +kernel
set_option maxRecDepth 100000 in
theorem snd_12_tears : am_Sound yX12_tears cX12_tears 4 none 1 22 S12_tears :=
  am_sound_of (own := RX12) (by decide) rfl <|
    fm_c (si_iconst dX12_tears_0 rfl) <|
    fm_c (si_istoren dX12_tears_1 rfl rfl) <|
    fm_c (si_aloadn dX12_tears_2 rfl) <|
    fm_c (si_iconst dX12_tears_3 rfl) <|
    fm_c (si_putI (C := RX12) (T := TX12) (N := 34) dX12_tears_4 rfl inC_12 tyX12 tyX12_ok nmX12 rfl tw_980 rfl (tyX12_ok 23 (by decide))) <|
    fm_c (si_aloadn dX12_tears_7 rfl) <|
    fm_c (si_iconst dX12_tears_8 rfl) <|
    fm_c (si_putI (C := RX12) (T := TX12) (N := 34) dX12_tears_9 rfl inC_12 tyX12 tyX12_ok nmX12 rfl tw_981 rfl (tyX12_ok 24 (by decide))) <|
    fm_c (si_iconst dX12_tears_12 rfl) <|
    fm_c (si_istoren dX12_tears_13 rfl rfl) <|
    fm_c (si_iloadn dX12_tears_14 rfl) <|
    fm_c (si_aloadn dX12_tears_15 rfl) <|
    fm_c (si_getf (C := RX12) (T := TX12) (N := 34) dX12_tears_16 rfl inC_12 rfl tw_974) <|
    fm_c (si_ic_ge dX12_tears_19 rfl) <|
    fm_c (si_iconst dX12_tears_22 rfl) <|
    fm_c (si_istoren dX12_tears_23 rfl rfl) <|
    fm_c (si_iloadn dX12_tears_24 rfl) <|
    fm_c (si_iconst dX12_tears_25 rfl) <|
    fm_c (si_iadd dX12_tears_26) <|
    fm_c (si_aloadn dX12_tears_27 rfl) <|
    fm_c (si_getf (C := RX12) (T := TX12) (N := 34) dX12_tears_28 rfl inC_12 rfl tw_966) <|
    fm_c (si_ic_ge dX12_tears_31 rfl) <|
    fm_c (si_iloadn dX12_tears_34 rfl) <|
    fm_c (si_iloadn dX12_tears_35 rfl) <|
    fm_c (si_call snd_12_isIn dX12_tears_36 tw_1143 tw_1144 tw_78 tw_1145 hdd_12_isIn ⟨rfl, rfl⟩) <|
    fm_c (si_if_ne dX12_tears_39 rfl) <|
    fm_c (si_aloadn dX12_tears_42 rfl) <|
    fm_c (si_callv (C := RX12) (T := TX12) (N := 34) snd_12_lot rfl dX12_tears_43 tw_1306 tw_1308 tw_51 tw_78 tw_1309 hdd_12_lot ⟨rfl, rfl⟩) <|
    fm_c (si_aloadn dX12_tears_46 rfl) <|
    fm_c (si_getf (C := RX12) (T := TX12) (N := 34) dX12_tears_47 rfl inC_12 rfl tw_965) <|
    fm_c (si_aloadn dX12_tears_50 rfl) <|
    fm_c (si_getf (C := RX12) (T := TX12) (N := 34) dX12_tears_51 rfl inC_12 rfl tw_975) <|
    fm_c (si_iloadn dX12_tears_54 rfl) <|
    fm_c (si_iconst dX12_tears_55 rfl) <|
    fm_c (si_iadd dX12_tears_56) <|
    fm_c (si_iald dX12_tears_57) <|
    fm_c (si_iald dX12_tears_58) <|
    fm_c (si_ic_ge dX12_tears_59 rfl) <|
    fm_c (si_aloadn dX12_tears_62 rfl) <|
    fm_c (si_callv (C := RX12) (T := TX12) (N := 34) snd_12_lot rfl dX12_tears_63 tw_1306 tw_1308 tw_51 tw_78 tw_1309 hdd_12_lot ⟨rfl, rfl⟩) <|
    fm_c (si_aloadn dX12_tears_66 rfl) <|
    fm_c (si_iloadn dX12_tears_67 rfl) <|
    fm_c (si_callv (C := RX12) (T := TX12) (N := 34) snd_12_gripAt rfl dX12_tears_68 tw_1244 tw_1246 tw_44 tw_78 tw_1247 hdd_12_gripAt ⟨rfl, rfl⟩) <|
    fm_c (si_ic_lt dX12_tears_71 rfl) <|
    fm_c (si_iloadn dX12_tears_74 rfl) <|
    fm_c (si_iconst dX12_tears_75 rfl) <|
    fm_c (si_iloadn dX12_tears_76 rfl) <|
    fm_c (si_ishl dX12_tears_77) <|
    fm_c (si_ior dX12_tears_78) <|
    fm_c (si_istoren dX12_tears_79 rfl rfl) <|
    fm_c (si_aloadn dX12_tears_80 rfl) <|
    fm_c (si_aloadn dX12_tears_81 rfl) <|
    fm_c (si_getf (C := RX12) (T := TX12) (N := 34) dX12_tears_82 rfl inC_12 rfl tw_980) <|
    fm_c (si_iconst dX12_tears_85 rfl) <|
    fm_c (si_ic_ne dX12_tears_86 rfl) <|
    fm_c (si_iloadn dX12_tears_89 rfl) <|
    fm_c (si_goto dX12_tears_90 rfl) <|
    fm_c (si_aloadn dX12_tears_93 rfl) <|
    fm_c (si_getf (C := RX12) (T := TX12) (N := 34) dX12_tears_94 rfl inC_12 rfl tw_981) <|
    fm_c (si_putI (C := RX12) (T := TX12) (N := 34) dX12_tears_97 rfl inC_12 tyX12 tyX12_ok nmX12 rfl tw_981 rfl (tyX12_ok 24 (by decide))) <|
    fm_c (si_aloadn dX12_tears_100 rfl) <|
    fm_c (si_aloadn dX12_tears_101 rfl) <|
    fm_c (si_getf (C := RX12) (T := TX12) (N := 34) dX12_tears_102 rfl inC_12 rfl tw_980) <|
    fm_c (si_iconst dX12_tears_105 rfl) <|
    fm_c (si_ic_ne dX12_tears_106 rfl) <|
    fm_c (si_iloadn dX12_tears_109 rfl) <|
    fm_c (si_goto dX12_tears_110 rfl) <|
    fm_c (si_aloadn dX12_tears_113 rfl) <|
    fm_c (si_getf (C := RX12) (T := TX12) (N := 34) dX12_tears_114 rfl inC_12 rfl tw_980) <|
    fm_c (si_putI (C := RX12) (T := TX12) (N := 34) dX12_tears_117 rfl inC_12 tyX12 tyX12_ok nmX12 rfl tw_980 rfl (tyX12_ok 23 (by decide))) <|
    fm_c (si_iinc dX12_tears_120 rfl rfl) <|
    fm_c (si_goto dX12_tears_123 rfl) <|
    fm_c (si_iinc dX12_tears_126 rfl rfl) <|
    fm_c (si_goto dX12_tears_129 rfl) <|
    fm_c (si_aloadn dX12_tears_132 rfl) <|
    fm_c (si_iloadn dX12_tears_133 rfl) <|
    fm_c (si_call snd_12_ones dX12_tears_134 tw_1261 tw_1262 tw_78 tw_1263 hdd_12_ones ⟨rfl, rfl⟩) <|
    fm_c (si_putI (C := RX12) (T := TX12) (N := 34) dX12_tears_137 rfl inC_12 tyX12 tyX12_ok nmX12 rfl tw_982 rfl (tyX12_ok 25 (by decide))) <|
    fm_c (si_vret rfl dX12_tears_140) <|
    fun _ h => absurd h List.not_mem_nil
def K12_tornOf : List (Nat × am_O) := [(0, o_aload 0 1),
  (1, o_iload 1 2),
  (2, o_putI 12 22 5),
  (5, o_aload 0 6),
  (6, o_callv S12_tears 12 0 true 9),
  (9, o_push (aI 0) 10),
  (10, o_istore 3 11),
  (11, o_aload 0 12),
  (12, o_getf 12 23 15),
  (15, o_push (aI 1) 16),
  (16, o_bin (fun a b => w32 (a + b)) 17),
  (17, o_istore 4 19),
  (19, o_iload 4 21),
  (21, o_aload 0 22),
  (22, o_getf 12 9 25),
  (25, o_ic (fun a b => b ≤ a) 54 28),
  (28, o_aload 0 29),
  (29, o_getf 12 23 32),
  (32, o_push (aI (-1)) 33),
  (33, o_ic (fun a b => a = b) 54 36),
  (36, o_iload 3 37),
  (37, o_push (aI 1) 38),
  (38, o_aload 0 39),
  (39, o_getf 12 10 42),
  (42, o_iload 4 44),
  (44, o_iald 45),
  (45, o_sh am_shl 46),
  (46, o_bin am_or 47),
  (47, o_istore 3 48),
  (48, o_iinc 4 1 51),
  (51, o_goto 19),
  (54, o_iload 2 55),
  (55, o_if (fun a => ¬ a = 0) 65 58),
  (58, o_aload 0 59),
  (59, o_getf 12 23 62),
  (62, o_goto 90),
  (65, o_iload 2 66),
  (66, o_push (aI 1) 67),
  (67, o_ic (fun a b => ¬ a = b) 77 70),
  (70, o_aload 0 71),
  (71, o_getf 12 24 74),
  (74, o_goto 90),
  (77, o_iload 2 78),
  (78, o_push (aI 2) 79),
  (79, o_ic (fun a b => ¬ a = b) 89 82),
  (82, o_aload 0 83),
  (83, o_getf 12 25 86),
  (86, o_goto 90),
  (89, o_iload 3 90),
  (90, o_iret)]
def S12_tornOf : am_E := am_S K12_tornOf 5
theorem hdd_12_tornOf : yX12_tornOf.cls ≠ "java/lang/invoke/MethodHandle" ∧ yX12_tornOf.cls ≠ "java/lang/invoke/VarHandle" ∧ (parseMethodDescriptor yX12_tornOf.desc).map (fun d => d.parameters.length) = some 2 := by decide +kernel
set_option maxRecDepth 100000 in
theorem snd_12_tornOf : am_Sound yX12_tornOf cX12_tornOf 5 (some .int) 2 45 S12_tornOf :=
  am_sound_of (own := RX12) (by decide) rfl <|
    fm_c (si_aloadn dX12_tornOf_0 rfl) <|
    fm_c (si_iloadn dX12_tornOf_1 rfl) <|
    fm_c (si_putI (C := RX12) (T := TX12) (N := 34) dX12_tornOf_2 rfl inC_12 tyX12 tyX12_ok nmX12 rfl tw_979 rfl (tyX12_ok 22 (by decide))) <|
    fm_c (si_aloadn dX12_tornOf_5 rfl) <|
    fm_c (si_callv (C := RX12) (T := TX12) (N := 34) snd_12_tears rfl dX12_tornOf_6 tw_1302 tw_1304 tw_50 tw_78 tw_1305 hdd_12_tears ⟨rfl, rfl⟩) <|
    fm_c (si_iconst dX12_tornOf_9 rfl) <|
    fm_c (si_istoren dX12_tornOf_10 rfl rfl) <|
    fm_c (si_aloadn dX12_tornOf_11 rfl) <|
    fm_c (si_getf (C := RX12) (T := TX12) (N := 34) dX12_tornOf_12 rfl inC_12 rfl tw_980) <|
    fm_c (si_iconst dX12_tornOf_15 rfl) <|
    fm_c (si_iadd dX12_tornOf_16) <|
    fm_c (si_istore dX12_tornOf_17 rfl) <|
    fm_c (si_iload dX12_tornOf_19) <|
    fm_c (si_aloadn dX12_tornOf_21 rfl) <|
    fm_c (si_getf (C := RX12) (T := TX12) (N := 34) dX12_tornOf_22 rfl inC_12 rfl tw_966) <|
    fm_c (si_ic_ge dX12_tornOf_25 rfl) <|
    fm_c (si_aloadn dX12_tornOf_28 rfl) <|
    fm_c (si_getf (C := RX12) (T := TX12) (N := 34) dX12_tornOf_29 rfl inC_12 rfl tw_980) <|
    fm_c (si_iconst dX12_tornOf_32 rfl) <|
    fm_c (si_ic_eq dX12_tornOf_33 rfl) <|
    fm_c (si_iloadn dX12_tornOf_36 rfl) <|
    fm_c (si_iconst dX12_tornOf_37 rfl) <|
    fm_c (si_aloadn dX12_tornOf_38 rfl) <|
    fm_c (si_getf (C := RX12) (T := TX12) (N := 34) dX12_tornOf_39 rfl inC_12 rfl tw_967) <|
    fm_c (si_iload dX12_tornOf_42) <|
    fm_c (si_iald dX12_tornOf_44) <|
    fm_c (si_ishl dX12_tornOf_45) <|
    fm_c (si_ior dX12_tornOf_46) <|
    fm_c (si_istoren dX12_tornOf_47 rfl rfl) <|
    fm_c (si_iinc dX12_tornOf_48 rfl rfl) <|
    fm_c (si_goto dX12_tornOf_51 rfl) <|
    fm_c (si_iloadn dX12_tornOf_54 rfl) <|
    fm_c (si_if_ne dX12_tornOf_55 rfl) <|
    fm_c (si_aloadn dX12_tornOf_58 rfl) <|
    fm_c (si_getf (C := RX12) (T := TX12) (N := 34) dX12_tornOf_59 rfl inC_12 rfl tw_980) <|
    fm_c (si_goto dX12_tornOf_62 rfl) <|
    fm_c (si_iloadn dX12_tornOf_65 rfl) <|
    fm_c (si_iconst dX12_tornOf_66 rfl) <|
    fm_c (si_ic_ne dX12_tornOf_67 rfl) <|
    fm_c (si_aloadn dX12_tornOf_70 rfl) <|
    fm_c (si_getf (C := RX12) (T := TX12) (N := 34) dX12_tornOf_71 rfl inC_12 rfl tw_981) <|
    fm_c (si_goto dX12_tornOf_74 rfl) <|
    fm_c (si_iloadn dX12_tornOf_77 rfl) <|
    fm_c (si_iconst dX12_tornOf_78 rfl) <|
    fm_c (si_ic_ne dX12_tornOf_79 rfl) <|
    fm_c (si_aloadn dX12_tornOf_82 rfl) <|
    fm_c (si_getf (C := RX12) (T := TX12) (N := 34) dX12_tornOf_83 rfl inC_12 rfl tw_982) <|
    fm_c (si_goto dX12_tornOf_86 rfl) <|
    fm_c (si_iloadn dX12_tornOf_89 rfl) <|
    fm_c (si_iret rfl dX12_tornOf_90) <|
    fun _ h => absurd h List.not_mem_nil
def K12_fairsOf : List (Nat × am_O) := [(0, o_aload 0 1),
  (1, o_iload 1 2),
  (2, o_putI 12 22 5),
  (5, o_push (aI 0) 6),
  (6, o_istore 3 7),
  (7, o_push (aI 0) 8),
  (8, o_istore 4 10),
  (10, o_iload 4 12),
  (12, o_iload 2 13),
  (13, o_ic (fun a b => b ≤ a) 33 16),
  (16, o_aload 0 17),
  (17, o_callv S12_tears 12 0 true 20),
  (20, o_iload 3 21),
  (21, o_aload 0 22),
  (22, o_getf 12 25 25),
  (25, o_bin (fun a b => w32 (a + b)) 26),
  (26, o_istore 3 27),
  (27, o_iinc 4 1 30),
  (30, o_goto 10),
  (33, o_iload 3 34),
  (34, o_iret)]
def S12_fairsOf : am_E := am_S K12_fairsOf 5
theorem hdd_12_fairsOf : yX12_fairsOf.cls ≠ "java/lang/invoke/MethodHandle" ∧ yX12_fairsOf.cls ≠ "java/lang/invoke/VarHandle" ∧ (parseMethodDescriptor yX12_fairsOf.desc).map (fun d => d.parameters.length) = some 2 := by decide +kernel
set_option maxRecDepth 100000 in
theorem snd_12_fairsOf : am_Sound yX12_fairsOf cX12_fairsOf 5 (some .int) 2 45 S12_fairsOf :=
  am_sound_of (own := RX12) (by decide) rfl <|
    fm_c (si_aloadn dX12_fairsOf_0 rfl) <|
    fm_c (si_iloadn dX12_fairsOf_1 rfl) <|
    fm_c (si_putI (C := RX12) (T := TX12) (N := 34) dX12_fairsOf_2 rfl inC_12 tyX12 tyX12_ok nmX12 rfl tw_979 rfl (tyX12_ok 22 (by decide))) <|
    fm_c (si_iconst dX12_fairsOf_5 rfl) <|
    fm_c (si_istoren dX12_fairsOf_6 rfl rfl) <|
    fm_c (si_iconst dX12_fairsOf_7 rfl) <|
    fm_c (si_istore dX12_fairsOf_8 rfl) <|
    fm_c (si_iload dX12_fairsOf_10) <|
    fm_c (si_iloadn dX12_fairsOf_12 rfl) <|
    fm_c (si_ic_ge dX12_fairsOf_13 rfl) <|
    fm_c (si_aloadn dX12_fairsOf_16 rfl) <|
    fm_c (si_callv (C := RX12) (T := TX12) (N := 34) snd_12_tears rfl dX12_fairsOf_17 tw_1302 tw_1304 tw_50 tw_78 tw_1305 hdd_12_tears ⟨rfl, rfl⟩) <|
    fm_c (si_iloadn dX12_fairsOf_20 rfl) <|
    fm_c (si_aloadn dX12_fairsOf_21 rfl) <|
    fm_c (si_getf (C := RX12) (T := TX12) (N := 34) dX12_fairsOf_22 rfl inC_12 rfl tw_982) <|
    fm_c (si_iadd dX12_fairsOf_25) <|
    fm_c (si_istoren dX12_fairsOf_26 rfl rfl) <|
    fm_c (si_iinc dX12_fairsOf_27 rfl rfl) <|
    fm_c (si_goto dX12_fairsOf_30 rfl) <|
    fm_c (si_iloadn dX12_fairsOf_33 rfl) <|
    fm_c (si_iret rfl dX12_fairsOf_34) <|
    fun _ h => absurd h List.not_mem_nil
def K12_roams : List (Nat × am_O) := [(0, o_push (aI 1) 1),
  (1, o_istore 2 2),
  (2, o_push (aI 0) 3),
  (3, o_istore 3 4),
  (4, o_iload 3 5),
  (5, o_push (aI 4) 6),
  (6, o_ic (fun a b => b ≤ a) 33 9),
  (9, o_iload 2 10),
  (10, o_aload 0 11),
  (11, o_iload 1 12),
  (12, o_iload 3 13),
  (13, o_callv S12_beside 12 2 false 16),
  (16, o_push (aI (-1)) 17),
  (17, o_ic (fun a b => ¬ a = b) 24 20),
  (20, o_push (aI 0) 21),
  (21, o_goto 25),
  (24, o_push (aI 1) 25),
  (25, o_bin (fun a b => w32 (a + b)) 26),
  (26, o_istore 2 27),
  (27, o_iinc 3 1 30),
  (30, o_goto 4),
  (33, o_aload 0 34),
  (34, o_getf 12 26 37),
  (37, o_iload 1 38),
  (38, o_lald 39),
  (39, o_push (aL 60) 42),
  (42, o_binL (fun a b => w64 (a * b)) 43),
  (43, o_iload 2 44),
  (44, o_i2l 45),
  (45, o_ldiv 46),
  (46, o_lstore 3 47),
  (47, o_aload 0 48),
  (48, o_getf 12 27 51),
  (51, o_iload 1 52),
  (52, o_dup2 53),
  (53, o_lald 54),
  (54, o_lload 3 55),
  (55, o_binL (fun a b => w64 (a + b)) 56),
  (56, o_last 57),
  (57, o_push (aI 0) 58),
  (58, o_istore 5 60),
  (60, o_iload 5 62),
  (62, o_push (aI 4) 63),
  (63, o_ic (fun a b => b ≤ a) 98 66),
  (66, o_aload 0 67),
  (67, o_iload 1 68),
  (68, o_iload 5 70),
  (70, o_callv S12_beside 12 2 false 73),
  (73, o_istore 6 75),
  (75, o_iload 6 77),
  (77, o_push (aI (-1)) 78),
  (78, o_ic (fun a b => a = b) 92 81),
  (81, o_aload 0 82),
  (82, o_getf 12 27 85),
  (85, o_iload 6 87),
  (87, o_dup2 88),
  (88, o_lald 89),
  (89, o_lload 3 90),
  (90, o_binL (fun a b => w64 (a + b)) 91),
  (91, o_last 92),
  (92, o_iinc 5 1 95),
  (95, o_goto 60),
  (98, o_vret)]
def S12_roams : am_E := am_S K12_roams 7
theorem hdd_12_roams : yX12_roams.cls ≠ "java/lang/invoke/MethodHandle" ∧ yX12_roams.cls ≠ "java/lang/invoke/VarHandle" ∧ (parseMethodDescriptor yX12_roams.desc).map (fun d => d.parameters.length) = some 1 := by decide +kernel
set_option maxRecDepth 100000 in
theorem snd_12_roams : am_Sound yX12_roams cX12_roams 7 none 2 49 S12_roams :=
  am_sound_of (own := RX12) (by decide) rfl <|
    fm_c (si_iconst dX12_roams_0 rfl) <|
    fm_c (si_istoren dX12_roams_1 rfl rfl) <|
    fm_c (si_iconst dX12_roams_2 rfl) <|
    fm_c (si_istoren dX12_roams_3 rfl rfl) <|
    fm_c (si_iloadn dX12_roams_4 rfl) <|
    fm_c (si_iconst dX12_roams_5 rfl) <|
    fm_c (si_ic_ge dX12_roams_6 rfl) <|
    fm_c (si_iloadn dX12_roams_9 rfl) <|
    fm_c (si_aloadn dX12_roams_10 rfl) <|
    fm_c (si_iloadn dX12_roams_11 rfl) <|
    fm_c (si_iloadn dX12_roams_12 rfl) <|
    fm_c (si_callv (C := RX12) (T := TX12) (N := 34) snd_12_beside rfl dX12_roams_13 tw_1194 tw_1196 tw_38 tw_78 tw_1197 hdd_12_beside ⟨rfl, rfl⟩) <|
    fm_c (si_iconst dX12_roams_16 rfl) <|
    fm_c (si_ic_ne dX12_roams_17 rfl) <|
    fm_c (si_iconst dX12_roams_20 rfl) <|
    fm_c (si_goto dX12_roams_21 rfl) <|
    fm_c (si_iconst dX12_roams_24 rfl) <|
    fm_c (si_iadd dX12_roams_25) <|
    fm_c (si_istoren dX12_roams_26 rfl rfl) <|
    fm_c (si_iinc dX12_roams_27 rfl rfl) <|
    fm_c (si_goto dX12_roams_30 rfl) <|
    fm_c (si_aloadn dX12_roams_33 rfl) <|
    fm_c (si_getf (C := RX12) (T := TX12) (N := 34) dX12_roams_34 rfl inC_12 rfl tw_983) <|
    fm_c (si_iloadn dX12_roams_37 rfl) <|
    fm_c (si_lald dX12_roams_38) <|
    fm_c (si_ldc2 dX12_roams_39 tw_1315 rfl) <|
    fm_c (si_lmul dX12_roams_42) <|
    fm_c (si_iloadn dX12_roams_43 rfl) <|
    fm_c (si_i2l dX12_roams_44) <|
    fm_c (si_ldiv dX12_roams_45) <|
    fm_c (si_lstoren dX12_roams_46 rfl rfl) <|
    fm_c (si_aloadn dX12_roams_47 rfl) <|
    fm_c (si_getf (C := RX12) (T := TX12) (N := 34) dX12_roams_48 rfl inC_12 rfl tw_984) <|
    fm_c (si_iloadn dX12_roams_51 rfl) <|
    fm_c (si_dup2 dX12_roams_52) <|
    fm_c (si_lald dX12_roams_53) <|
    fm_c (si_lloadn dX12_roams_54 rfl) <|
    fm_c (si_ladd dX12_roams_55) <|
    fm_c (si_last dX12_roams_56) <|
    fm_c (si_iconst dX12_roams_57 rfl) <|
    fm_c (si_istore dX12_roams_58 rfl) <|
    fm_c (si_iload dX12_roams_60) <|
    fm_c (si_iconst dX12_roams_62 rfl) <|
    fm_c (si_ic_ge dX12_roams_63 rfl) <|
    fm_c (si_aloadn dX12_roams_66 rfl) <|
    fm_c (si_iloadn dX12_roams_67 rfl) <|
    fm_c (si_iload dX12_roams_68) <|
    fm_c (si_callv (C := RX12) (T := TX12) (N := 34) snd_12_beside rfl dX12_roams_70 tw_1194 tw_1196 tw_38 tw_78 tw_1197 hdd_12_beside ⟨rfl, rfl⟩) <|
    fm_c (si_istore dX12_roams_73 rfl) <|
    fm_c (si_iload dX12_roams_75) <|
    fm_c (si_iconst dX12_roams_77 rfl) <|
    fm_c (si_ic_eq dX12_roams_78 rfl) <|
    fm_c (si_aloadn dX12_roams_81 rfl) <|
    fm_c (si_getf (C := RX12) (T := TX12) (N := 34) dX12_roams_82 rfl inC_12 rfl tw_984) <|
    fm_c (si_iload dX12_roams_85) <|
    fm_c (si_dup2 dX12_roams_87) <|
    fm_c (si_lald dX12_roams_88) <|
    fm_c (si_lloadn dX12_roams_89 rfl) <|
    fm_c (si_ladd dX12_roams_90) <|
    fm_c (si_last dX12_roams_91) <|
    fm_c (si_iinc dX12_roams_92 rfl rfl) <|
    fm_c (si_goto dX12_roams_95 rfl) <|
    fm_c (si_vret rfl dX12_roams_98) <|
    fun _ h => absurd h List.not_mem_nil
