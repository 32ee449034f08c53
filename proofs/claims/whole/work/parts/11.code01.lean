def KJ_bits : List (Nat × am_O) := [(0, o_iload 0 1),
  (1, o_iload 0 2),
  (2, o_push (aI 1) 3),
  (3, o_sh am_ushr 4),
  (4, o_push (aI 1431655765) 7),
  (7, o_bin am_and 8),
  (8, o_bin (fun a b => w32 (a - b)) 9),
  (9, o_istore 0 10),
  (10, o_iload 0 11),
  (11, o_push (aI 858993459) 14),
  (14, o_bin am_and 15),
  (15, o_iload 0 16),
  (16, o_push (aI 2) 17),
  (17, o_sh am_ushr 18),
  (18, o_push (aI 858993459) 21),
  (21, o_bin am_and 22),
  (22, o_bin (fun a b => w32 (a + b)) 23),
  (23, o_istore 0 24),
  (24, o_iload 0 25),
  (25, o_iload 0 26),
  (26, o_push (aI 4) 27),
  (27, o_sh am_ushr 28),
  (28, o_bin (fun a b => w32 (a + b)) 29),
  (29, o_push (aI 252645135) 32),
  (32, o_bin am_and 33),
  (33, o_istore 0 34),
  (34, o_iload 0 35),
  (35, o_iload 0 36),
  (36, o_push (aI 8) 38),
  (38, o_sh am_ushr 39),
  (39, o_bin (fun a b => w32 (a + b)) 40),
  (40, o_istore 0 41),
  (41, o_iload 0 42),
  (42, o_iload 0 43),
  (43, o_push (aI 16) 45),
  (45, o_sh am_ushr 46),
  (46, o_bin (fun a b => w32 (a + b)) 47),
  (47, o_istore 0 48),
  (48, o_iload 0 49),
  (49, o_push (aI 63) 51),
  (51, o_bin am_and 52),
  (52, o_iret)]
def SJ_bits : am_E := am_S KJ_bits 1
theorem hdd_J_bits : yJ6_bitCount_0f7a4.cls ≠ "java/lang/invoke/MethodHandle" ∧ yJ6_bitCount_0f7a4.cls ≠ "java/lang/invoke/VarHandle" ∧ (parseMethodDescriptor yJ6_bitCount_0f7a4.desc).map (fun d => d.parameters.length) = some 1 := by decide +kernel
set_option maxRecDepth 100000 in
theorem snd_J_bits : am_Sound yJ6_bitCount_0f7a4 cJ6_bitCount_0f7a4 1 (some .int) 0 0 SJ_bits :=
  am_sound_of (own := RJ6) (by decide) rfl <|
    fm_c (si_iloadn dJ6_bitCount_0f7a4_0 rfl) <|
    fm_c (si_iloadn dJ6_bitCount_0f7a4_1 rfl) <|
    fm_c (si_iconst dJ6_bitCount_0f7a4_2 rfl) <|
    fm_c (si_iushr dJ6_bitCount_0f7a4_3) <|
    fm_c (si_ldcw dJ6_bitCount_0f7a4_4 tw_631 rfl) <|
    fm_c (si_iand dJ6_bitCount_0f7a4_7) <|
    fm_c (si_isub dJ6_bitCount_0f7a4_8) <|
    fm_c (si_istoren dJ6_bitCount_0f7a4_9 rfl rfl) <|
    fm_c (si_iloadn dJ6_bitCount_0f7a4_10 rfl) <|
    fm_c (si_ldcw dJ6_bitCount_0f7a4_11 tw_632 rfl) <|
    fm_c (si_iand dJ6_bitCount_0f7a4_14) <|
    fm_c (si_iloadn dJ6_bitCount_0f7a4_15 rfl) <|
    fm_c (si_iconst dJ6_bitCount_0f7a4_16 rfl) <|
    fm_c (si_iushr dJ6_bitCount_0f7a4_17) <|
    fm_c (si_ldcw dJ6_bitCount_0f7a4_18 tw_632 rfl) <|
    fm_c (si_iand dJ6_bitCount_0f7a4_21) <|
    fm_c (si_iadd dJ6_bitCount_0f7a4_22) <|
    fm_c (si_istoren dJ6_bitCount_0f7a4_23 rfl rfl) <|
    fm_c (si_iloadn dJ6_bitCount_0f7a4_24 rfl) <|
    fm_c (si_iloadn dJ6_bitCount_0f7a4_25 rfl) <|
    fm_c (si_iconst dJ6_bitCount_0f7a4_26 rfl) <|
    fm_c (si_iushr dJ6_bitCount_0f7a4_27) <|
    fm_c (si_iadd dJ6_bitCount_0f7a4_28) <|
    fm_c (si_ldcw dJ6_bitCount_0f7a4_29 tw_633 rfl) <|
    fm_c (si_iand dJ6_bitCount_0f7a4_32) <|
    fm_c (si_istoren dJ6_bitCount_0f7a4_33 rfl rfl) <|
    fm_c (si_iloadn dJ6_bitCount_0f7a4_34 rfl) <|
    fm_c (si_iloadn dJ6_bitCount_0f7a4_35 rfl) <|
    fm_c (si_bipush dJ6_bitCount_0f7a4_36 rfl) <|
    fm_c (si_iushr dJ6_bitCount_0f7a4_38) <|
    fm_c (si_iadd dJ6_bitCount_0f7a4_39) <|
    fm_c (si_istoren dJ6_bitCount_0f7a4_40 rfl rfl) <|
    fm_c (si_iloadn dJ6_bitCount_0f7a4_41 rfl) <|
    fm_c (si_iloadn dJ6_bitCount_0f7a4_42 rfl) <|
    fm_c (si_bipush dJ6_bitCount_0f7a4_43 rfl) <|
    fm_c (si_iushr dJ6_bitCount_0f7a4_45) <|
    fm_c (si_iadd dJ6_bitCount_0f7a4_46) <|
    fm_c (si_istoren dJ6_bitCount_0f7a4_47 rfl rfl) <|
    fm_c (si_iloadn dJ6_bitCount_0f7a4_48 rfl) <|
    fm_c (si_bipush dJ6_bitCount_0f7a4_49 rfl) <|
    fm_c (si_iand dJ6_bitCount_0f7a4_51) <|
    fm_c (si_iret rfl dJ6_bitCount_0f7a4_52) <|
    fun _ h => absurd h List.not_mem_nil
def KJ_fillI : List (Nat × am_O) := [(0, o_push (aI 0) 1),
  (1, o_istore 2 2),
  (2, o_aload 0 3),
  (3, o_alen 4),
  (4, o_istore 3 5),
  (5, o_iload 2 6),
  (6, o_iload 3 7),
  (7, o_ic (fun a b => b ≤ a) 20 10),
  (10, o_aload 0 11),
  (11, o_iload 2 12),
  (12, o_iload 1 13),
  (13, o_iast 14),
  (14, o_iinc 2 1 17),
  (17, o_goto 5),
  (20, o_vret)]
def SJ_fillI : am_E := am_S KJ_fillI 4
theorem hdd_J_fillI : yJ7_fill_53178.cls ≠ "java/lang/invoke/MethodHandle" ∧ yJ7_fill_53178.cls ≠ "java/lang/invoke/VarHandle" ∧ (parseMethodDescriptor yJ7_fill_53178.desc).map (fun d => d.parameters.length) = some 2 := by decide +kernel
set_option maxRecDepth 100000 in
theorem snd_J_fillI : am_Sound yJ7_fill_53178 cJ7_fill_53178 4 none 0 0 SJ_fillI :=
  am_sound_of (own := RJ7) (by decide) rfl <|
    fm_c (si_iconst dJ7_fill_53178_0 rfl) <|
    fm_c (si_istoren dJ7_fill_53178_1 rfl rfl) <|
    fm_c (si_aloadn dJ7_fill_53178_2 rfl) <|
    fm_c (si_alen dJ7_fill_53178_3) <|
    fm_c (si_istoren dJ7_fill_53178_4 rfl rfl) <|
    fm_c (si_iloadn dJ7_fill_53178_5 rfl) <|
    fm_c (si_iloadn dJ7_fill_53178_6 rfl) <|
    fm_c (si_ic_ge dJ7_fill_53178_7 rfl) <|
    fm_c (si_aloadn dJ7_fill_53178_10 rfl) <|
    fm_c (si_iloadn dJ7_fill_53178_11 rfl) <|
    fm_c (si_iloadn dJ7_fill_53178_12 rfl) <|
    fm_c (si_iast dJ7_fill_53178_13) <|
    fm_c (si_iinc dJ7_fill_53178_14 rfl rfl) <|
    fm_c (si_goto dJ7_fill_53178_17 rfl) <|
    fm_c (si_vret rfl dJ7_fill_53178_20) <|
    fun _ h => absurd h List.not_mem_nil
def KJ_fillL : List (Nat × am_O) := [(0, o_push (aI 0) 1),
  (1, o_istore 3 2),
  (2, o_aload 0 3),
  (3, o_alen 4),
  (4, o_istore 4 6),
  (6, o_iload 3 7),
  (7, o_iload 4 9),
  (9, o_ic (fun a b => b ≤ a) 22 12),
  (12, o_aload 0 13),
  (13, o_iload 3 14),
  (14, o_lload 1 15),
  (15, o_last 16),
  (16, o_iinc 3 1 19),
  (19, o_goto 6),
  (22, o_vret)]
def SJ_fillL : am_E := am_S KJ_fillL 5
theorem hdd_J_fillL : yJ7_fill_d0a16.cls ≠ "java/lang/invoke/MethodHandle" ∧ yJ7_fill_d0a16.cls ≠ "java/lang/invoke/VarHandle" ∧ (parseMethodDescriptor yJ7_fill_d0a16.desc).map (fun d => d.parameters.length) = some 2 := by decide +kernel
set_option maxRecDepth 100000 in
theorem snd_J_fillL : am_Sound yJ7_fill_d0a16 cJ7_fill_d0a16 5 none 0 0 SJ_fillL :=
  am_sound_of (own := RJ7) (by decide) rfl <|
    fm_c (si_iconst dJ7_fill_d0a16_0 rfl) <|
    fm_c (si_istoren dJ7_fill_d0a16_1 rfl rfl) <|
    fm_c (si_aloadn dJ7_fill_d0a16_2 rfl) <|
    fm_c (si_alen dJ7_fill_d0a16_3) <|
    fm_c (si_istore dJ7_fill_d0a16_4 rfl) <|
    fm_c (si_iloadn dJ7_fill_d0a16_6 rfl) <|
    fm_c (si_iload dJ7_fill_d0a16_7) <|
    fm_c (si_ic_ge dJ7_fill_d0a16_9 rfl) <|
    fm_c (si_aloadn dJ7_fill_d0a16_12 rfl) <|
    fm_c (si_iloadn dJ7_fill_d0a16_13 rfl) <|
    fm_c (si_lloadn dJ7_fill_d0a16_14 rfl) <|
    fm_c (si_last dJ7_fill_d0a16_15) <|
    fm_c (si_iinc dJ7_fill_d0a16_16 rfl rfl) <|
    fm_c (si_goto dJ7_fill_d0a16_19 rfl) <|
    fm_c (si_vret rfl dJ7_fill_d0a16_22) <|
    fun _ h => absurd h List.not_mem_nil
def K2_isPlace : List (Nat × am_O) := [(0, o_iload 1 1),
  (1, o_if (fun a => a < 0) 24 4),
  (4, o_iload 1 5),
  (5, o_push (aI 64) 7),
  (7, o_ic (fun a b => b ≤ a) 24 10),
  (10, o_aload 0 11),
  (11, o_getf 2 0 14),
  (14, o_iload 1 15),
  (15, o_iald 16),
  (16, o_push (aI (-1)) 17),
  (17, o_ic (fun a b => a = b) 24 20),
  (20, o_push (aI 1) 21),
  (21, o_goto 25),
  (24, o_push (aI 0) 25),
  (25, o_zret)]
def S2_isPlace : am_E := am_S K2_isPlace 2
theorem hdd_2_isPlace : yX2_isPlace.cls ≠ "java/lang/invoke/MethodHandle" ∧ yX2_isPlace.cls ≠ "java/lang/invoke/VarHandle" ∧ (parseMethodDescriptor yX2_isPlace.desc).map (fun d => d.parameters.length) = some 1 := by decide +kernel
set_option maxRecDepth 100000 in
theorem snd_2_isPlace : am_Sound yX2_isPlace cX2_isPlace 2 (some .boolean) 0 0 S2_isPlace :=
  am_sound_of (own := RX2) (by decide) rfl <|
    fm_c (si_iloadn dX2_isPlace_0 rfl) <|
    fm_c (si_if_lt dX2_isPlace_1 rfl) <|
    fm_c (si_iloadn dX2_isPlace_4 rfl) <|
    fm_c (si_bipush dX2_isPlace_5 rfl) <|
    fm_c (si_ic_ge dX2_isPlace_7 rfl) <|
    fm_c (si_aloadn dX2_isPlace_10 rfl) <|
    fm_c (si_getf (C := RX2) (T := TX2) (N := 3) dX2_isPlace_11 rfl inC_2 rfl tw_124) <|
    fm_c (si_iloadn dX2_isPlace_14 rfl) <|
    fm_c (si_iald dX2_isPlace_15) <|
    fm_c (si_iconst dX2_isPlace_16 rfl) <|
    fm_c (si_ic_eq dX2_isPlace_17 rfl) <|
    fm_c (si_iconst dX2_isPlace_20 rfl) <|
    fm_c (si_goto dX2_isPlace_21 rfl) <|
    fm_c (si_iconst dX2_isPlace_24 rfl) <|
    fm_c (si_zret rfl dX2_isPlace_25) <|
    fun _ h => absurd h List.not_mem_nil
def K2_beside : List (Nat × am_O) := [(0, o_iload 1 1),
  (1, o_push (aI 4) 2),
  (2, o_bin (fun a b => w32 (a * b)) 3),
  (3, o_iload 2 4),
  (4, o_bin (fun a b => w32 (a + b)) 5),
  (5, o_istore 3 6),
  (6, o_iload 3 7),
  (7, o_if (fun a => a < 0) 26 10),
  (10, o_iload 3 11),
  (11, o_push (aI 256) 14),
  (14, o_ic (fun a b => b ≤ a) 26 17),
  (17, o_aload 0 18),
  (18, o_getf 2 1 21),
  (21, o_iload 3 22),
  (22, o_iald 23),
  (23, o_goto 27),
  (26, o_push (aI (-1)) 27),
  (27, o_iret)]
def S2_beside : am_E := am_S K2_beside 4
theorem hdd_2_beside : yX2_beside.cls ≠ "java/lang/invoke/MethodHandle" ∧ yX2_beside.cls ≠ "java/lang/invoke/VarHandle" ∧ (parseMethodDescriptor yX2_beside.desc).map (fun d => d.parameters.length) = some 2 := by decide +kernel
set_option maxRecDepth 100000 in
theorem snd_2_beside : am_Sound yX2_beside cX2_beside 4 (some .int) 0 0 S2_beside :=
  am_sound_of (own := RX2) (by decide) rfl <|
    fm_c (si_iloadn dX2_beside_0 rfl) <|
    fm_c (si_iconst dX2_beside_1 rfl) <|
    fm_c (si_imul dX2_beside_2) <|
    fm_c (si_iloadn dX2_beside_3 rfl) <|
    fm_c (si_iadd dX2_beside_4) <|
    fm_c (si_istoren dX2_beside_5 rfl rfl) <|
    fm_c (si_iloadn dX2_beside_6 rfl) <|
    fm_c (si_if_lt dX2_beside_7 rfl) <|
    fm_c (si_iloadn dX2_beside_10 rfl) <|
    fm_c (si_sipush dX2_beside_11 rfl) <|
    fm_c (si_ic_ge dX2_beside_14 rfl) <|
    fm_c (si_aloadn dX2_beside_17 rfl) <|
    fm_c (si_getf (C := RX2) (T := TX2) (N := 3) dX2_beside_18 rfl inC_2 rfl tw_125) <|
    fm_c (si_iloadn dX2_beside_21 rfl) <|
    fm_c (si_iald dX2_beside_22) <|
    fm_c (si_goto dX2_beside_23 rfl) <|
    fm_c (si_iconst dX2_beside_26 rfl) <|
    fm_c (si_iret rfl dX2_beside_27) <|
    fun _ h => absurd h List.not_mem_nil
def K0_measureFrom : List (Nat × am_O) := [(0, o_aload 0 1),
  (1, o_getf 0 1 4),
  (4, o_push (aI (-1)) 5),
  (5, o_call SJ_fillI 2 true 8),
  (8, o_aload 0 9),
  (9, o_getf 0 0 12),
  (12, o_iload 1 13),
  (13, o_callv S2_isPlace 2 1 false 16),
  (16, o_if (fun a => ¬ a = 0) 20 19),
  (19, o_vret),
  (20, o_aload 0 21),
  (21, o_getf 0 1 24),
  (24, o_iload 1 25),
  (25, o_push (aI 0) 26),
  (26, o_iast 27),
  (27, o_aload 0 28),
  (28, o_getf 0 2 31),
  (31, o_push (aI 0) 32),
  (32, o_iload 1 33),
  (33, o_iast 34),
  (34, o_push (aI 1) 35),
  (35, o_istore 2 36),
  (36, o_push (aI 0) 37),
  (37, o_istore 3 38),
  (38, o_iload 3 39),
  (39, o_iload 2 40),
  (40, o_ic (fun a b => b ≤ a) 147 43),
  (43, o_iload 3 44),
  (44, o_push (aI 64) 46),
  (46, o_ic (fun a b => b ≤ a) 147 49),
  (49, o_aload 0 50),
  (50, o_getf 0 2 53),
  (53, o_iload 3 54),
  (54, o_iald 55),
  (55, o_istore 4 57),
  (57, o_push (aI 0) 58),
  (58, o_istore 5 60),
  (60, o_iload 5 62),
  (62, o_push (aI 4) 63),
  (63, o_ic (fun a b => b ≤ a) 141 66),
  (66, o_aload 0 67),
  (67, o_getf 0 0 70),
  (70, o_iload 4 72),
  (72, o_iload 5 74),
  (74, o_callv S2_beside 2 2 false 77),
  (77, o_istore 6 79),
  (79, o_iload 6 81),
  (81, o_if (fun a => a < 0) 135 84),
  (84, o_iload 6 86),
  (86, o_push (aI 64) 88),
  (88, o_ic (fun a b => b ≤ a) 135 91),
  (91, o_aload 0 92),
  (92, o_getf 0 1 95),
  (95, o_iload 6 97),
  (97, o_iald 98),
  (98, o_push (aI (-1)) 99),
  (99, o_ic (fun a b => ¬ a = b) 135 102),
  (102, o_iload 2 103),
  (103, o_push (aI 64) 105),
  (105, o_ic (fun a b => b ≤ a) 135 108),
  (108, o_aload 0 109),
  (109, o_getf 0 1 112),
  (112, o_iload 6 114),
  (114, o_aload 0 115),
  (115, o_getf 0 1 118),
  (118, o_iload 4 120),
  (120, o_iald 121),
  (121, o_push (aI 1) 122),
  (122, o_bin (fun a b => w32 (a + b)) 123),
  (123, o_iast 124),
  (124, o_aload 0 125),
  (125, o_getf 0 2 128),
  (128, o_iload 2 129),
  (129, o_iload 6 131),
  (131, o_iast 132),
  (132, o_iinc 2 1 135),
  (135, o_iinc 5 1 138),
  (138, o_goto 60),
  (141, o_iinc 3 1 144),
  (144, o_goto 38),
  (147, o_vret)]
def S0_measureFrom : am_E := am_S K0_measureFrom 7
theorem hdd_0_measureFrom : yX0_measureFrom.cls ≠ "java/lang/invoke/MethodHandle" ∧ yX0_measureFrom.cls ≠ "java/lang/invoke/VarHandle" ∧ (parseMethodDescriptor yX0_measureFrom.desc).map (fun d => d.parameters.length) = some 1 := by decide +kernel
set_option maxRecDepth 100000 in
theorem snd_0_measureFrom : am_Sound yX0_measureFrom cX0_measureFrom 7 none 1 23 S0_measureFrom :=
  am_sound_of (own := RX0) (by decide) rfl <|
    fm_c (si_aloadn dX0_measureFrom_0 rfl) <|
    fm_c (si_getf (C := RX0) (T := TX0) (N := 3) dX0_measureFrom_1 rfl inC_0 rfl tw_142) <|
    fm_c (si_iconst dX0_measureFrom_4 rfl) <|
    fm_c (si_call snd_J_fillI dX0_measureFrom_5 tw_538 tw_122 tw_68 tw_123 hdd_J_fillI ⟨rfl, rfl⟩) <|
    fm_c (si_aloadn dX0_measureFrom_8 rfl) <|
    fm_c (si_getf (C := RX0) (T := TX0) (N := 3) dX0_measureFrom_9 rfl inC_0 rfl tw_141) <|
    fm_c (si_iloadn dX0_measureFrom_12 rfl) <|
    fm_c (si_callv (C := RX2) (T := TX2) (N := 3) snd_2_isPlace rfl dX0_measureFrom_13 tw_539 tw_414 tw_415 tw_67 tw_416 hdd_2_isPlace ⟨rfl, rfl⟩) <|
    fm_c (si_if_ne dX0_measureFrom_16 rfl) <|
    fm_c (si_vret rfl dX0_measureFrom_19) <|
    fm_c (si_aloadn dX0_measureFrom_20 rfl) <|
    fm_c (si_getf (C := RX0) (T := TX0) (N := 3) dX0_measureFrom_21 rfl inC_0 rfl tw_142) <|
    fm_c (si_iloadn dX0_measureFrom_24 rfl) <|
    fm_c (si_iconst dX0_measureFrom_25 rfl) <|
    fm_c (si_iast dX0_measureFrom_26) <|
    fm_c (si_aloadn dX0_measureFrom_27 rfl) <|
    fm_c (si_getf (C := RX0) (T := TX0) (N := 3) dX0_measureFrom_28 rfl inC_0 rfl tw_143) <|
    fm_c (si_iconst dX0_measureFrom_31 rfl) <|
    fm_c (si_iloadn dX0_measureFrom_32 rfl) <|
    fm_c (si_iast dX0_measureFrom_33) <|
    fm_c (si_iconst dX0_measureFrom_34 rfl) <|
    fm_c (si_istoren dX0_measureFrom_35 rfl rfl) <|
    fm_c (si_iconst dX0_measureFrom_36 rfl) <|
    fm_c (si_istoren dX0_measureFrom_37 rfl rfl) <|
    fm_c (si_iloadn dX0_measureFrom_38 rfl) <|
    fm_c (si_iloadn dX0_measureFrom_39 rfl) <|
    fm_c (si_ic_ge dX0_measureFrom_40 rfl) <|
    fm_c (si_iloadn dX0_measureFrom_43 rfl) <|
    fm_c (si_bipush dX0_measureFrom_44 rfl) <|
    fm_c (si_ic_ge dX0_measureFrom_46 rfl) <|
    fm_c (si_aloadn dX0_measureFrom_49 rfl) <|
    fm_c (si_getf (C := RX0) (T := TX0) (N := 3) dX0_measureFrom_50 rfl inC_0 rfl tw_143) <|
    fm_c (si_iloadn dX0_measureFrom_53 rfl) <|
    fm_c (si_iald dX0_measureFrom_54) <|
    fm_c (si_istore dX0_measureFrom_55 rfl) <|
    fm_c (si_iconst dX0_measureFrom_57 rfl) <|
    fm_c (si_istore dX0_measureFrom_58 rfl) <|
    fm_c (si_iload dX0_measureFrom_60) <|
    fm_c (si_iconst dX0_measureFrom_62 rfl) <|
    fm_c (si_ic_ge dX0_measureFrom_63 rfl) <|
    fm_c (si_aloadn dX0_measureFrom_66 rfl) <|
    fm_c (si_getf (C := RX0) (T := TX0) (N := 3) dX0_measureFrom_67 rfl inC_0 rfl tw_141) <|
    fm_c (si_iload dX0_measureFrom_70) <|
    fm_c (si_iload dX0_measureFrom_72) <|
    fm_c (si_callv (C := RX2) (T := TX2) (N := 3) snd_2_beside rfl dX0_measureFrom_74 tw_540 tw_426 tw_427 tw_67 tw_428 hdd_2_beside ⟨rfl, rfl⟩) <|
    fm_c (si_istore dX0_measureFrom_77 rfl) <|
    fm_c (si_iload dX0_measureFrom_79) <|
    fm_c (si_if_lt dX0_measureFrom_81 rfl) <|
    fm_c (si_iload dX0_measureFrom_84) <|
    fm_c (si_bipush dX0_measureFrom_86 rfl) <|
    fm_c (si_ic_ge dX0_measureFrom_88 rfl) <|
    fm_c (si_aloadn dX0_measureFrom_91 rfl) <|
    fm_c (si_getf (C := RX0) (T := TX0) (N := 3) dX0_measureFrom_92 rfl inC_0 rfl tw_142) <|
    fm_c (si_iload dX0_measureFrom_95) <|
    fm_c (si_iald dX0_measureFrom_97) <|
    fm_c (si_iconst dX0_measureFrom_98 rfl) <|
    fm_c (si_ic_ne dX0_measureFrom_99 rfl) <|
    fm_c (si_iloadn dX0_measureFrom_102 rfl) <|
    fm_c (si_bipush dX0_measureFrom_103 rfl) <|
    fm_c (si_ic_ge dX0_measureFrom_105 rfl) <|
    fm_c (si_aloadn dX0_measureFrom_108 rfl) <|
    fm_c (si_getf (C := RX0) (T := TX0) (N := 3) dX0_measureFrom_109 rfl inC_0 rfl tw_142) <|
    fm_c (si_iload dX0_measureFrom_112) <|
    fm_c (si_aloadn dX0_measureFrom_114 rfl) <|
    fm_c (si_getf (C := RX0) (T := TX0) (N := 3) dX0_measureFrom_115 rfl inC_0 rfl tw_142) <|
    fm_c (si_iload dX0_measureFrom_118) <|
    fm_c (si_iald dX0_measureFrom_120) <|
    fm_c (si_iconst dX0_measureFrom_121 rfl) <|
    fm_c (si_iadd dX0_measureFrom_122) <|
    fm_c (si_iast dX0_measureFrom_123) <|
    fm_c (si_aloadn dX0_measureFrom_124 rfl) <|
    fm_c (si_getf (C := RX0) (T := TX0) (N := 3) dX0_measureFrom_125 rfl inC_0 rfl tw_143) <|
    fm_c (si_iloadn dX0_measureFrom_128 rfl) <|
    fm_c (si_iload dX0_measureFrom_129) <|
    fm_c (si_iast dX0_measureFrom_131) <|
    fm_c (si_iinc dX0_measureFrom_132 rfl rfl) <|
    fm_c (si_iinc dX0_measureFrom_135 rfl rfl) <|
    fm_c (si_goto dX0_measureFrom_138 rfl) <|
    fm_c (si_iinc dX0_measureFrom_141 rfl rfl) <|
    fm_c (si_goto dX0_measureFrom_144 rfl) <|
    fm_c (si_vret rfl dX0_measureFrom_147) <|
    fun _ h => absurd h List.not_mem_nil
def K0_stepsTo : List (Nat × am_O) := [(0, o_iload 1 1),
  (1, o_if (fun a => a < 0) 19 4),
  (4, o_iload 1 5),
  (5, o_push (aI 64) 7),
  (7, o_ic (fun a b => b ≤ a) 19 10),
  (10, o_aload 0 11),
  (11, o_getf 0 1 14),
  (14, o_iload 1 15),
  (15, o_iald 16),
  (16, o_goto 20),
  (19, o_push (aI (-1)) 20),
  (20, o_iret)]
def S0_stepsTo : am_E := am_S K0_stepsTo 2
theorem hdd_0_stepsTo : yX0_stepsTo.cls ≠ "java/lang/invoke/MethodHandle" ∧ yX0_stepsTo.cls ≠ "java/lang/invoke/VarHandle" ∧ (parseMethodDescriptor yX0_stepsTo.desc).map (fun d => d.parameters.length) = some 1 := by decide +kernel
set_option maxRecDepth 100000 in
theorem snd_0_stepsTo : am_Sound yX0_stepsTo cX0_stepsTo 2 (some .int) 0 0 S0_stepsTo :=
  am_sound_of (own := RX0) (by decide) rfl <|
    fm_c (si_iloadn dX0_stepsTo_0 rfl) <|
    fm_c (si_if_lt dX0_stepsTo_1 rfl) <|
    fm_c (si_iloadn dX0_stepsTo_4 rfl) <|
    fm_c (si_bipush dX0_stepsTo_5 rfl) <|
    fm_c (si_ic_ge dX0_stepsTo_7 rfl) <|
    fm_c (si_aloadn dX0_stepsTo_10 rfl) <|
    fm_c (si_getf (C := RX0) (T := TX0) (N := 3) dX0_stepsTo_11 rfl inC_0 rfl tw_142) <|
    fm_c (si_iloadn dX0_stepsTo_14 rfl) <|
    fm_c (si_iald dX0_stepsTo_15) <|
    fm_c (si_goto dX0_stepsTo_16 rfl) <|
    fm_c (si_iconst dX0_stepsTo_19 rfl) <|
    fm_c (si_iret rfl dX0_stepsTo_20) <|
    fun _ h => absurd h List.not_mem_nil
def K10_directionOf : List (Nat × am_O) := [(0, o_iload 0 1),
  (1, o_lsw [(101, 46), (110, 44), (115, 48), (119, 50)] 52),
  (44, o_push (aI 0) 45),
  (45, o_iret),
  (46, o_push (aI 1) 47),
  (47, o_iret),
  (48, o_push (aI 2) 49),
  (49, o_iret),
  (50, o_push (aI 3) 51),
  (51, o_iret),
  (52, o_push (aI (-1)) 53),
  (53, o_iret)]
def S10_directionOf : am_E := am_S K10_directionOf 1
theorem hdd_10_directionOf : yX10_directionOf.cls ≠ "java/lang/invoke/MethodHandle" ∧ yX10_directionOf.cls ≠ "java/lang/invoke/VarHandle" ∧ (parseMethodDescriptor yX10_directionOf.desc).map (fun d => d.parameters.length) = some 1 := by decide +kernel
set_option maxRecDepth 100000 in
theorem snd_10_directionOf : am_Sound yX10_directionOf cX10_directionOf 1 (some .int) 0 0 S10_directionOf :=
  am_sound_of (own := RX10) (by decide) rfl <|
    fm_c (si_iloadn dX10_directionOf_0 rfl) <|
    fm_c (si_lsw dX10_directionOf_1 rfl rfl rfl) <|
    fm_c (si_iconst dX10_directionOf_44 rfl) <|
    fm_c (si_iret rfl dX10_directionOf_45) <|
    fm_c (si_iconst dX10_directionOf_46 rfl) <|
    fm_c (si_iret rfl dX10_directionOf_47) <|
    fm_c (si_iconst dX10_directionOf_48 rfl) <|
    fm_c (si_iret rfl dX10_directionOf_49) <|
    fm_c (si_iconst dX10_directionOf_50 rfl) <|
    fm_c (si_iret rfl dX10_directionOf_51) <|
    fm_c (si_iconst dX10_directionOf_52 rfl) <|
    fm_c (si_iret rfl dX10_directionOf_53) <|
    fun _ h => absurd h List.not_mem_nil
def K10_placeBehind : List (Nat × am_O) := [(0, o_iload 1 1),
  (1, o_if (fun a => a < 0) 27 4),
  (4, o_iload 1 5),
  (5, o_aload 0 6),
  (6, o_getf 10 4 9),
  (9, o_ic (fun a b => b < a) 27 12),
  (12, o_iload 1 13),
  (13, o_push (aI 40) 15),
  (15, o_ic (fun a b => b < a) 27 18),
  (18, o_aload 0 19),
  (19, o_getf 10 1 22),
  (22, o_iload 1 23),
  (23, o_iald 24),
  (24, o_goto 28),
  (27, o_push (aI (-1)) 28),
  (28, o_iret)]
def S10_placeBehind : am_E := am_S K10_placeBehind 2
theorem hdd_10_placeBehind : yX10_placeBehind.cls ≠ "java/lang/invoke/MethodHandle" ∧ yX10_placeBehind.cls ≠ "java/lang/invoke/VarHandle" ∧ (parseMethodDescriptor yX10_placeBehind.desc).map (fun d => d.parameters.length) = some 1 := by decide +kernel
set_option maxRecDepth 100000 in
theorem snd_10_placeBehind : am_Sound yX10_placeBehind cX10_placeBehind 2 (some .int) 0 0 S10_placeBehind :=
  am_sound_of (own := RX10) (by decide) rfl <|
    fm_c (si_iloadn dX10_placeBehind_0 rfl) <|
    fm_c (si_if_lt dX10_placeBehind_1 rfl) <|
    fm_c (si_iloadn dX10_placeBehind_4 rfl) <|
    fm_c (si_aloadn dX10_placeBehind_5 rfl) <|
    fm_c (si_getf (C := RX10) (T := TX10) (N := 5) dX10_placeBehind_6 rfl inC_10 rfl tw_205) <|
    fm_c (si_ic_gt dX10_placeBehind_9 rfl) <|
    fm_c (si_iloadn dX10_placeBehind_12 rfl) <|
    fm_c (si_bipush dX10_placeBehind_13 rfl) <|
    fm_c (si_ic_gt dX10_placeBehind_15 rfl) <|
    fm_c (si_aloadn dX10_placeBehind_18 rfl) <|
    fm_c (si_getf (C := RX10) (T := TX10) (N := 5) dX10_placeBehind_19 rfl inC_10 rfl tw_200) <|
    fm_c (si_iloadn dX10_placeBehind_22 rfl) <|
    fm_c (si_iald dX10_placeBehind_23) <|
    fm_c (si_goto dX10_placeBehind_24 rfl) <|
    fm_c (si_iconst dX10_placeBehind_27 rfl) <|
    fm_c (si_iret rfl dX10_placeBehind_28) <|
    fun _ h => absurd h List.not_mem_nil
def K10_retrace : List (Nat × am_O) := [(0, o_aload 0 1),
  (1, o_push (aI 0) 2),
  (2, o_putI 10 4 5),
  (5, o_aload 0 6),
  (6, o_getf 10 1 9),
  (9, o_push (aI 0) 10),
  (10, o_aload 0 11),
  (11, o_getf 10 2 14),
  (14, o_iast 15),
  (15, o_push (aI 0) 16),
  (16, o_istore 2 17),
  (17, o_iload 2 18),
  (18, o_aload 0 19),
  (19, o_getf 10 3 22),
  (22, o_ic (fun a b => b ≤ a) 76 25),
  (25, o_iload 2 26),
  (26, o_push (aI 40) 28),
  (28, o_ic (fun a b => b ≤ a) 76 31),
  (31, o_aload 1 32),
  (32, o_aload 0 33),
  (33, o_getf 10 1 36),
  (36, o_iload 2 37),
  (37, o_iald 38),
  (38, o_aload 0 39),
  (39, o_getf 10 0 42),
  (42, o_iload 2 43),
  (43, o_iald 44),
  (44, o_callv S2_beside 2 2 false 47),
  (47, o_istore 3 48),
  (48, o_iload 3 49),
  (49, o_push (aI (-1)) 50),
  (50, o_ic (fun a b => ¬ a = b) 54 53),
  (53, o_vret),
  (54, o_aload 0 55),
  (55, o_getf 10 1 58),
  (58, o_iload 2 59),
  (59, o_push (aI 1) 60),
  (60, o_bin (fun a b => w32 (a + b)) 61),
  (61, o_iload 3 62),
  (62, o_iast 63),
  (63, o_aload 0 64),
  (64, o_iload 2 65),
  (65, o_push (aI 1) 66),
  (66, o_bin (fun a b => w32 (a + b)) 67),
  (67, o_putI 10 4 70),
  (70, o_iinc 2 1 73),
  (73, o_goto 17),
  (76, o_vret)]
def S10_retrace : am_E := am_S K10_retrace 4
theorem hdd_10_retrace : yX10_retrace.cls ≠ "java/lang/invoke/MethodHandle" ∧ yX10_retrace.cls ≠ "java/lang/invoke/VarHandle" ∧ (parseMethodDescriptor yX10_retrace.desc).map (fun d => d.parameters.length) = some 1 := by decide +kernel
set_option maxRecDepth 100000 in
theorem snd_10_retrace : am_Sound yX10_retrace cX10_retrace 4 none 1 23 S10_retrace :=
  am_sound_of (own := RX10) (by decide) rfl <|
    fm_c (si_aloadn dX10_retrace_0 rfl) <|
    fm_c (si_iconst dX10_retrace_1 rfl) <|
    fm_c (si_putI (C := RX10) (T := TX10) (N := 5) dX10_retrace_2 rfl inC_10 tyX10 tyX10_ok nmX10 rfl tw_205 rfl (tyX10_ok 4 (by decide))) <|
    fm_c (si_aloadn dX10_retrace_5 rfl) <|
    fm_c (si_getf (C := RX10) (T := TX10) (N := 5) dX10_retrace_6 rfl inC_10 rfl tw_200) <|
    fm_c (si_iconst dX10_retrace_9 rfl) <|
    fm_c (si_aloadn dX10_retrace_10 rfl) <|
    fm_c (si_getf (C := RX10) (T := TX10) (N := 5) dX10_retrace_11 rfl inC_10 rfl tw_201) <|
    fm_c (si_iast dX10_retrace_14) <|
    fm_c (si_iconst dX10_retrace_15 rfl) <|
    fm_c (si_istoren dX10_retrace_16 rfl rfl) <|
    fm_c (si_iloadn dX10_retrace_17 rfl) <|
    fm_c (si_aloadn dX10_retrace_18 rfl) <|
    fm_c (si_getf (C := RX10) (T := TX10) (N := 5) dX10_retrace_19 rfl inC_10 rfl tw_203) <|
    fm_c (si_ic_ge dX10_retrace_22 rfl) <|
    fm_c (si_iloadn dX10_retrace_25 rfl) <|
    fm_c (si_bipush dX10_retrace_26 rfl) <|
    fm_c (si_ic_ge dX10_retrace_28 rfl) <|
    fm_c (si_aloadn dX10_retrace_31 rfl) <|
    fm_c (si_aloadn dX10_retrace_32 rfl) <|
    fm_c (si_getf (C := RX10) (T := TX10) (N := 5) dX10_retrace_33 rfl inC_10 rfl tw_200) <|
    fm_c (si_iloadn dX10_retrace_36 rfl) <|
    fm_c (si_iald dX10_retrace_37) <|
    fm_c (si_aloadn dX10_retrace_38 rfl) <|
    fm_c (si_getf (C := RX10) (T := TX10) (N := 5) dX10_retrace_39 rfl inC_10 rfl tw_199) <|
    fm_c (si_iloadn dX10_retrace_42 rfl) <|
    fm_c (si_iald dX10_retrace_43) <|
    fm_c (si_callv (C := RX2) (T := TX2) (N := 3) snd_2_beside rfl dX10_retrace_44 tw_425 tw_426 tw_427 tw_67 tw_428 hdd_2_beside ⟨rfl, rfl⟩) <|
    fm_c (si_istoren dX10_retrace_47 rfl rfl) <|
    fm_c (si_iloadn dX10_retrace_48 rfl) <|
    fm_c (si_iconst dX10_retrace_49 rfl) <|
    fm_c (si_ic_ne dX10_retrace_50 rfl) <|
    fm_c (si_vret rfl dX10_retrace_53) <|
    fm_c (si_aloadn dX10_retrace_54 rfl) <|
    fm_c (si_getf (C := RX10) (T := TX10) (N := 5) dX10_retrace_55 rfl inC_10 rfl tw_200) <|
    fm_c (si_iloadn dX10_retrace_58 rfl) <|
    fm_c (si_iconst dX10_retrace_59 rfl) <|
    fm_c (si_iadd dX10_retrace_60) <|
    fm_c (si_iloadn dX10_retrace_61 rfl) <|
    fm_c (si_iast dX10_retrace_62) <|
    fm_c (si_aloadn dX10_retrace_63 rfl) <|
    fm_c (si_iloadn dX10_retrace_64 rfl) <|
    fm_c (si_iconst dX10_retrace_65 rfl) <|
    fm_c (si_iadd dX10_retrace_66) <|
    fm_c (si_putI (C := RX10) (T := TX10) (N := 5) dX10_retrace_67 rfl inC_10 tyX10 tyX10_ok nmX10 rfl tw_205 rfl (tyX10_ok 4 (by decide))) <|
    fm_c (si_iinc dX10_retrace_70 rfl rfl) <|
    fm_c (si_goto dX10_retrace_73 rfl) <|
    fm_c (si_vret rfl dX10_retrace_76) <|
    fun _ h => absurd h List.not_mem_nil
def K9_byteAt : List (Nat × am_O) := [(0, o_iload 1 1),
  (1, o_if (fun a => a < 0) 27 4),
  (4, o_iload 1 5),
  (5, o_aload 0 6),
  (6, o_getf 9 2 9),
  (9, o_ic (fun a b => b ≤ a) 27 12),
  (12, o_iload 1 13),
  (13, o_push (aI 71) 15),
  (15, o_ic (fun a b => b ≤ a) 27 18),
  (18, o_aload 0 19),
  (19, o_getf 9 1 22),
  (22, o_iload 1 23),
  (23, o_iald 24),
  (24, o_goto 28),
  (27, o_push (aI (-1)) 28),
  (28, o_iret)]
def S9_byteAt : am_E := am_S K9_byteAt 2
theorem hdd_9_byteAt : yX9_byteAt.cls ≠ "java/lang/invoke/MethodHandle" ∧ yX9_byteAt.cls ≠ "java/lang/invoke/VarHandle" ∧ (parseMethodDescriptor yX9_byteAt.desc).map (fun d => d.parameters.length) = some 1 := by decide +kernel
set_option maxRecDepth 100000 in
theorem snd_9_byteAt : am_Sound yX9_byteAt cX9_byteAt 2 (some .int) 0 0 S9_byteAt :=
  am_sound_of (own := RX9) (by decide) rfl <|
    fm_c (si_iloadn dX9_byteAt_0 rfl) <|
    fm_c (si_if_lt dX9_byteAt_1 rfl) <|
    fm_c (si_iloadn dX9_byteAt_4 rfl) <|
    fm_c (si_aloadn dX9_byteAt_5 rfl) <|
    fm_c (si_getf (C := RX9) (T := TX9) (N := 4) dX9_byteAt_6 rfl inC_9 rfl tw_98) <|
    fm_c (si_ic_ge dX9_byteAt_9 rfl) <|
    fm_c (si_iloadn dX9_byteAt_12 rfl) <|
    fm_c (si_bipush dX9_byteAt_13 rfl) <|
    fm_c (si_ic_ge dX9_byteAt_15 rfl) <|
    fm_c (si_aloadn dX9_byteAt_18 rfl) <|
    fm_c (si_getf (C := RX9) (T := TX9) (N := 4) dX9_byteAt_19 rfl inC_9 rfl tw_97) <|
    fm_c (si_iloadn dX9_byteAt_22 rfl) <|
    fm_c (si_iald dX9_byteAt_23) <|
    fm_c (si_goto dX9_byteAt_24 rfl) <|
    fm_c (si_iconst dX9_byteAt_27 rfl) <|
    fm_c (si_iret rfl dX9_byteAt_28) <|
    fun _ h => absurd h List.not_mem_nil
def K10_takeText : List (Nat × am_O) := [(0, o_aload 0 1),
  (1, o_push (aI 0) 2),
  (2, o_putI 10 3 5),
  (5, o_push (aI 0) 6),
  (6, o_istore 2 7),
  (7, o_iload 2 8),
  (8, o_aload 1 9),
  (9, o_getf 9 2 12),
  (12, o_ic (fun a b => b ≤ a) 50 15),
  (15, o_aload 1 16),
  (16, o_iload 2 17),
  (17, o_callv S9_byteAt 9 1 false 20),
  (20, o_call S10_directionOf 1 false 23),
  (23, o_istore 3 24),
  (24, o_iload 3 25),
  (25, o_push (aI (-1)) 26),
  (26, o_ic (fun a b => a = b) 35 29),
  (29, o_iload 2 30),
  (30, o_push (aI 40) 32),
  (32, o_ic (fun a b => a < b) 37 35),
  (35, o_iload 2 36),
  (36, o_iret),
  (37, o_aload 0 38),
  (38, o_getf 10 0 41),
  (41, o_iload 2 42),
  (42, o_iload 3 43),
  (43, o_iast 44),
  (44, o_iinc 2 1 47),
  (47, o_goto 7),
  (50, o_aload 0 51),
  (51, o_aload 1 52),
  (52, o_getf 9 2 55),
  (55, o_putI 10 3 58),
  (58, o_push (aI (-1)) 59),
  (59, o_iret)]
def S10_takeText : am_E := am_S K10_takeText 4
theorem hdd_10_takeText : yX10_takeText.cls ≠ "java/lang/invoke/MethodHandle" ∧ yX10_takeText.cls ≠ "java/lang/invoke/VarHandle" ∧ (parseMethodDescriptor yX10_takeText.desc).map (fun d => d.parameters.length) = some 1 := by decide +kernel
set_option maxRecDepth 100000 in
theorem snd_10_takeText : am_Sound yX10_takeText cX10_takeText 4 (some .int) 1 21 S10_takeText :=
  am_sound_of (own := RX10) (by decide) rfl <|
    fm_c (si_aloadn dX10_takeText_0 rfl) <|
    fm_c (si_iconst dX10_takeText_1 rfl) <|
    fm_c (si_putI (C := RX10) (T := TX10) (N := 5) dX10_takeText_2 rfl inC_10 tyX10 tyX10_ok nmX10 rfl tw_203 rfl (tyX10_ok 3 (by decide))) <|
    fm_c (si_iconst dX10_takeText_5 rfl) <|
    fm_c (si_istoren dX10_takeText_6 rfl rfl) <|
    fm_c (si_iloadn dX10_takeText_7 rfl) <|
    fm_c (si_aloadn dX10_takeText_8 rfl) <|
    fm_c (si_getf (C := RX9) (T := TX9) (N := 4) dX10_takeText_9 rfl inC_9 rfl tw_99) <|
    fm_c (si_ic_ge dX10_takeText_12 rfl) <|
    fm_c (si_aloadn dX10_takeText_15 rfl) <|
    fm_c (si_iloadn dX10_takeText_16 rfl) <|
    fm_c (si_callv (C := RX9) (T := TX9) (N := 4) snd_9_byteAt rfl dX10_takeText_17 tw_441 tw_406 tw_407 tw_66 tw_408 hdd_9_byteAt ⟨rfl, rfl⟩) <|
    fm_c (si_call snd_10_directionOf dX10_takeText_20 tw_442 tw_443 tw_72 tw_444 hdd_10_directionOf ⟨rfl, rfl⟩) <|
    fm_c (si_istoren dX10_takeText_23 rfl rfl) <|
    fm_c (si_iloadn dX10_takeText_24 rfl) <|
    fm_c (si_iconst dX10_takeText_25 rfl) <|
    fm_c (si_ic_eq dX10_takeText_26 rfl) <|
    fm_c (si_iloadn dX10_takeText_29 rfl) <|
    fm_c (si_bipush dX10_takeText_30 rfl) <|
    fm_c (si_ic_lt dX10_takeText_32 rfl) <|
    fm_c (si_iloadn dX10_takeText_35 rfl) <|
    fm_c (si_iret rfl dX10_takeText_36) <|
    fm_c (si_aloadn dX10_takeText_37 rfl) <|
    fm_c (si_getf (C := RX10) (T := TX10) (N := 5) dX10_takeText_38 rfl inC_10 rfl tw_199) <|
    fm_c (si_iloadn dX10_takeText_41 rfl) <|
    fm_c (si_iloadn dX10_takeText_42 rfl) <|
    fm_c (si_iast dX10_takeText_43) <|
    fm_c (si_iinc dX10_takeText_44 rfl rfl) <|
    fm_c (si_goto dX10_takeText_47 rfl) <|
    fm_c (si_aloadn dX10_takeText_50 rfl) <|
    fm_c (si_aloadn dX10_takeText_51 rfl) <|
    fm_c (si_getf (C := RX9) (T := TX9) (N := 4) dX10_takeText_52 rfl inC_9 rfl tw_99) <|
    fm_c (si_putI (C := RX10) (T := TX10) (N := 5) dX10_takeText_55 rfl inC_10 tyX10 tyX10_ok nmX10 rfl tw_203 rfl (tyX10_ok 3 (by decide))) <|
    fm_c (si_iconst dX10_takeText_58 rfl) <|
    fm_c (si_iret rfl dX10_takeText_59) <|
    fun _ h => absurd h List.not_mem_nil
def K11_isPart : List (Nat × am_O) := [(0, o_iload 0 1),
  (1, o_if (fun a => a = 0) 9 4),
  (4, o_iload 0 5),
  (5, o_push (aI 1) 6),
  (6, o_ic (fun a b => ¬ a = b) 13 9),
  (9, o_push (aI 1) 10),
  (10, o_goto 14),
  (13, o_push (aI 0) 14),
  (14, o_zret)]
def S11_isPart : am_E := am_S K11_isPart 1
theorem hdd_11_isPart : yX11_isPart.cls ≠ "java/lang/invoke/MethodHandle" ∧ yX11_isPart.cls ≠ "java/lang/invoke/VarHandle" ∧ (parseMethodDescriptor yX11_isPart.desc).map (fun d => d.parameters.length) = some 1 := by decide +kernel
set_option maxRecDepth 100000 in
theorem snd_11_isPart : am_Sound yX11_isPart cX11_isPart 1 (some .boolean) 0 0 S11_isPart :=
  am_sound_of (own := RX11) (by decide) rfl <|
    fm_c (si_iloadn dX11_isPart_0 rfl) <|
    fm_c (si_if_eq dX11_isPart_1 rfl) <|
    fm_c (si_iloadn dX11_isPart_4 rfl) <|
    fm_c (si_iconst dX11_isPart_5 rfl) <|
    fm_c (si_ic_ne dX11_isPart_6 rfl) <|
    fm_c (si_iconst dX11_isPart_9 rfl) <|
    fm_c (si_goto dX11_isPart_10 rfl) <|
    fm_c (si_iconst dX11_isPart_13 rfl) <|
    fm_c (si_zret rfl dX11_isPart_14) <|
    fun _ h => absurd h List.not_mem_nil
def K11_refused : List (Nat × am_O) := [(0, o_push (aL (-9223372036854775808)) 3),
  (3, o_iload 0 4),
  (4, o_i2l 5),
  (5, o_binL (fun a b => w64 (a - b)) 6),
  (6, o_lret)]
def S11_refused : am_E := am_S K11_refused 1
theorem hdd_11_refused : yX11_refused.cls ≠ "java/lang/invoke/MethodHandle" ∧ yX11_refused.cls ≠ "java/lang/invoke/VarHandle" ∧ (parseMethodDescriptor yX11_refused.desc).map (fun d => d.parameters.length) = some 1 := by decide +kernel
set_option maxRecDepth 100000 in
theorem snd_11_refused : am_Sound yX11_refused cX11_refused 1 (some .long) 0 0 S11_refused :=
  am_sound_of (own := RX11) (by decide) rfl <|
    fm_c (si_ldc2 dX11_refused_0 tw_676 rfl) <|
    fm_c (si_iloadn dX11_refused_3 rfl) <|
    fm_c (si_i2l dX11_refused_4) <|
    fm_c (si_lsub dX11_refused_5) <|
    fm_c (si_lret rfl dX11_refused_6) <|
    fun _ h => absurd h List.not_mem_nil
def K3_whoGoes : List (Nat × am_O) := [(0, o_iload 1 1),
  (1, o_if (fun a => a < 0) 26 4),
  (4, o_iload 1 5),
  (5, o_aload 0 6),
  (6, o_getf 3 4 9),
  (9, o_ic (fun a b => b ≤ a) 26 12),
  (12, o_iload 1 13),
  (13, o_push (aI 5) 14),
  (14, o_ic (fun a b => b ≤ a) 26 17),
  (17, o_aload 0 18),
  (18, o_getf 3 3 21),
  (21, o_iload 1 22),
  (22, o_iald 23),
  (23, o_goto 27),
  (26, o_push (aI (-1)) 27),
  (27, o_iret)]
def S3_whoGoes : am_E := am_S K3_whoGoes 2
theorem hdd_3_whoGoes : yX3_whoGoes.cls ≠ "java/lang/invoke/MethodHandle" ∧ yX3_whoGoes.cls ≠ "java/lang/invoke/VarHandle" ∧ (parseMethodDescriptor yX3_whoGoes.desc).map (fun d => d.parameters.length) = some 1 := by decide +kernel
set_option maxRecDepth 100000 in
theorem snd_3_whoGoes : am_Sound yX3_whoGoes cX3_whoGoes 2 (some .int) 0 0 S3_whoGoes :=
  am_sound_of (own := RX3) (by decide) rfl <|
    fm_c (si_iloadn dX3_whoGoes_0 rfl) <|
    fm_c (si_if_lt dX3_whoGoes_1 rfl) <|
    fm_c (si_iloadn dX3_whoGoes_4 rfl) <|
    fm_c (si_aloadn dX3_whoGoes_5 rfl) <|
    fm_c (si_getf (C := RX3) (T := TX3) (N := 5) dX3_whoGoes_6 rfl inC_3 rfl tw_180) <|
    fm_c (si_ic_ge dX3_whoGoes_9 rfl) <|
    fm_c (si_iloadn dX3_whoGoes_12 rfl) <|
    fm_c (si_iconst dX3_whoGoes_13 rfl) <|
    fm_c (si_ic_ge dX3_whoGoes_14 rfl) <|
    fm_c (si_aloadn dX3_whoGoes_17 rfl) <|
    fm_c (si_getf (C := RX3) (T := TX3) (N := 5) dX3_whoGoes_18 rfl inC_3 rfl tw_179) <|
    fm_c (si_iloadn dX3_whoGoes_21 rfl) <|
    fm_c (si_iald dX3_whoGoes_22) <|
    fm_c (si_goto dX3_whoGoes_23 rfl) <|
    fm_c (si_iconst dX3_whoGoes_26 rfl) <|
    fm_c (si_iret rfl dX3_whoGoes_27) <|
    fun _ h => absurd h List.not_mem_nil
def K3_isPerson : List (Nat × am_O) := [(0, o_iload 0 1),
  (1, o_if (fun a => a < 0) 13 4),
  (4, o_iload 0 5),
  (5, o_push (aI 5) 6),
  (6, o_ic (fun a b => b ≤ a) 13 9),
  (9, o_push (aI 1) 10),
  (10, o_goto 14),
  (13, o_push (aI 0) 14),
  (14, o_zret)]
def S3_isPerson : am_E := am_S K3_isPerson 1
theorem hdd_3_isPerson : yX3_isPerson.cls ≠ "java/lang/invoke/MethodHandle" ∧ yX3_isPerson.cls ≠ "java/lang/invoke/VarHandle" ∧ (parseMethodDescriptor yX3_isPerson.desc).map (fun d => d.parameters.length) = some 1 := by decide +kernel
set_option maxRecDepth 100000 in
theorem snd_3_isPerson : am_Sound yX3_isPerson cX3_isPerson 1 (some .boolean) 0 0 S3_isPerson :=
  am_sound_of (own := RX3) (by decide) rfl <|
    fm_c (si_iloadn dX3_isPerson_0 rfl) <|
    fm_c (si_if_lt dX3_isPerson_1 rfl) <|
    fm_c (si_iloadn dX3_isPerson_4 rfl) <|
    fm_c (si_iconst dX3_isPerson_5 rfl) <|
    fm_c (si_ic_ge dX3_isPerson_6 rfl) <|
    fm_c (si_iconst dX3_isPerson_9 rfl) <|
    fm_c (si_goto dX3_isPerson_10 rfl) <|
    fm_c (si_iconst dX3_isPerson_13 rfl) <|
    fm_c (si_zret rfl dX3_isPerson_14) <|
    fun _ h => absurd h List.not_mem_nil
def K3_habitOf : List (Nat × am_O) := [(0, o_iload 1 1),
  (1, o_call S3_isPerson 1 false 4),
  (4, o_if (fun a => a = 0) 16 7),
  (7, o_aload 0 8),
  (8, o_getf 3 1 11),
  (11, o_iload 1 12),
  (12, o_iald 13),
  (13, o_goto 17),
  (16, o_push (aI 0) 17),
  (17, o_iret)]
def S3_habitOf : am_E := am_S K3_habitOf 2
theorem hdd_3_habitOf : yX3_habitOf.cls ≠ "java/lang/invoke/MethodHandle" ∧ yX3_habitOf.cls ≠ "java/lang/invoke/VarHandle" ∧ (parseMethodDescriptor yX3_habitOf.desc).map (fun d => d.parameters.length) = some 1 := by decide +kernel
set_option maxRecDepth 100000 in
theorem snd_3_habitOf : am_Sound yX3_habitOf cX3_habitOf 2 (some .int) 1 20 S3_habitOf :=
  am_sound_of (own := RX3) (by decide) rfl <|
    fm_c (si_iloadn dX3_habitOf_0 rfl) <|
    fm_c (si_call snd_3_isPerson dX3_habitOf_1 tw_434 tw_435 tw_71 tw_436 hdd_3_isPerson ⟨rfl, rfl⟩) <|
    fm_c (si_if_eq dX3_habitOf_4 rfl) <|
    fm_c (si_aloadn dX3_habitOf_7 rfl) <|
    fm_c (si_getf (C := RX3) (T := TX3) (N := 5) dX3_habitOf_8 rfl inC_3 rfl tw_175) <|
    fm_c (si_iloadn dX3_habitOf_11 rfl) <|
    fm_c (si_iald dX3_habitOf_12) <|
    fm_c (si_goto dX3_habitOf_13 rfl) <|
    fm_c (si_iconst dX3_habitOf_16 rfl) <|
    fm_c (si_iret rfl dX3_habitOf_17) <|
    fun _ h => absurd h List.not_mem_nil
def K11_lowest : List (Nat × am_O) := [(0, o_lload 0 1),
  (1, o_lstore 5 3),
  (3, o_lload 2 4),
  (4, o_lstore 7 6),
  (6, o_push (aI 0) 7),
  (7, o_istore 9 9),
  (9, o_iload 9 11),
  (11, o_push (aI 128) 14),
  (14, o_ic (fun a b => b ≤ a) 45 17),
  (17, o_lload 7 19),
  (19, o_push (aL 0) 20),
  (20, o_lcmp 21),
  (21, o_if (fun a => a = 0) 45 24),
  (24, o_lload 5 26),
  (26, o_lload 7 28),
  (28, o_lrem 29),
  (29, o_lstore 10 31),
  (31, o_lload 7 33),
  (33, o_lstore 5 35),
  (35, o_lload 10 37),
  (37, o_lstore 7 39),
  (39, o_iinc 9 1 42),
  (42, o_goto 9),
  (45, o_iload 4 47),
  (47, o_if (fun a => ¬ a = 0) 54 50),
  (50, o_lload 0 51),
  (51, o_goto 55),
  (54, o_lload 2 55),
  (55, o_lstore 9 57),
  (57, o_lload 5 59),
  (59, o_push (aL 0) 60),
  (60, o_lcmp 61),
  (61, o_if (fun a => ¬ a = 0) 69 64),
  (64, o_lload 9 66),
  (66, o_goto 74),
  (69, o_lload 9 71),
  (71, o_lload 5 73),
  (73, o_ldiv 74),
  (74, o_lret)]
def S11_lowest : am_E := am_S K11_lowest 12
theorem hdd_11_lowest : yX11_lowest.cls ≠ "java/lang/invoke/MethodHandle" ∧ yX11_lowest.cls ≠ "java/lang/invoke/VarHandle" ∧ (parseMethodDescriptor yX11_lowest.desc).map (fun d => d.parameters.length) = some 3 := by decide +kernel
set_option maxRecDepth 100000 in
theorem snd_11_lowest : am_Sound yX11_lowest cX11_lowest 12 (some .long) 0 0 S11_lowest :=
  am_sound_of (own := RX11) (by decide) rfl <|
    fm_c (si_lloadn dX11_lowest_0 rfl) <|
    fm_c (si_lstore dX11_lowest_1 rfl) <|
    fm_c (si_lloadn dX11_lowest_3 rfl) <|
    fm_c (si_lstore dX11_lowest_4 rfl) <|
    fm_c (si_iconst dX11_lowest_6 rfl) <|
    fm_c (si_istore dX11_lowest_7 rfl) <|
    fm_c (si_iload dX11_lowest_9) <|
    fm_c (si_sipush dX11_lowest_11 rfl) <|
    fm_c (si_ic_ge dX11_lowest_14 rfl) <|
    fm_c (si_lload dX11_lowest_17) <|
    fm_c (si_lconst0 dX11_lowest_19) <|
    fm_c (si_lcmp dX11_lowest_20) <|
    fm_c (si_if_eq dX11_lowest_21 rfl) <|
    fm_c (si_lload dX11_lowest_24) <|
    fm_c (si_lload dX11_lowest_26) <|
    fm_c (si_lrem dX11_lowest_28) <|
    fm_c (si_lstore dX11_lowest_29 rfl) <|
    fm_c (si_lload dX11_lowest_31) <|
    fm_c (si_lstore dX11_lowest_33 rfl) <|
    fm_c (si_lload dX11_lowest_35) <|
    fm_c (si_lstore dX11_lowest_37 rfl) <|
    fm_c (si_iinc dX11_lowest_39 rfl rfl) <|
    fm_c (si_goto dX11_lowest_42 rfl) <|
    fm_c (si_iload dX11_lowest_45) <|
    fm_c (si_if_ne dX11_lowest_47 rfl) <|
    fm_c (si_lloadn dX11_lowest_50 rfl) <|
    fm_c (si_goto dX11_lowest_51 rfl) <|
    fm_c (si_lloadn dX11_lowest_54 rfl) <|
    fm_c (si_lstore dX11_lowest_55 rfl) <|
    fm_c (si_lload dX11_lowest_57) <|
    fm_c (si_lconst0 dX11_lowest_59) <|
    fm_c (si_lcmp dX11_lowest_60) <|
    fm_c (si_if_ne dX11_lowest_61 rfl) <|
    fm_c (si_lload dX11_lowest_64) <|
    fm_c (si_goto dX11_lowest_66 rfl) <|
    fm_c (si_lload dX11_lowest_69) <|
    fm_c (si_lload dX11_lowest_71) <|
    fm_c (si_ldiv dX11_lowest_73) <|
    fm_c (si_lret rfl dX11_lowest_74) <|
    fun _ h => absurd h List.not_mem_nil
def K11_alike : List (Nat × am_O) := [(0, o_iload 1 1),
  (1, o_call S11_isPart 1 false 4),
  (4, o_if (fun a => ¬ a = 0) 13 7),
  (7, o_push (aI (-2)) 9),
  (9, o_call S11_refused 1 false 12),
  (12, o_lret),
  (13, o_aload 0 14),
  (14, o_getf 11 6 17),
  (17, o_getf 3 4 20),
  (20, o_if (fun a => ¬ a = 0) 25 23),
  (23, o_push (aL 1) 24),
  (24, o_lret),
  (25, o_push (aL 1) 26),
  (26, o_lstore 2 27),
  (27, o_push (aL 1) 28),
  (28, o_lstore 4 30),
  (30, o_push (aL 1) 31),
  (31, o_lstore 6 33),
  (33, o_push (aI 0) 34),
  (34, o_istore 8 36),
  (36, o_iload 8 38),
  (38, o_aload 0 39),
  (39, o_getf 11 6 42),
  (42, o_getf 3 4 45),
  (45, o_ic (fun a b => b ≤ a) 97 48),
  (48, o_aload 0 49),
  (49, o_getf 11 6 52),
  (52, o_aload 0 53),
  (53, o_getf 11 6 56),
  (56, o_iload 8 58),
  (58, o_callv S3_whoGoes 3 1 false 61),
  (61, o_callv S3_habitOf 3 1 false 64),
  (64, o_istore 9 66),
  (66, o_lload 2 67),
  (67, o_iload 9 69),
  (69, o_i2l 70),
  (70, o_binL (fun a b => w64 (a * b)) 71),
  (71, o_lstore 2 72),
  (72, o_lload 4 74),
  (74, o_push (aI 16) 76),
  (76, o_iload 9 78),
  (78, o_bin (fun a b => w32 (a - b)) 79),
  (79, o_i2l 80),
  (80, o_binL (fun a b => w64 (a * b)) 81),
  (81, o_lstore 4 83),
  (83, o_lload 6 85),
  (85, o_push (aL 16) 88),
  (88, o_binL (fun a b => w64 (a * b)) 89),
  (89, o_lstore 6 91),
  (91, o_iinc 8 1 94),
  (94, o_goto 36),
  (97, o_lload 2 98),
  (98, o_lload 4 100),
  (100, o_binL (fun a b => w64 (a + b)) 101),
  (101, o_lload 6 103),
  (103, o_iload 1 104),
  (104, o_call S11_lowest 3 false 107),
  (107, o_lret)]
def S11_alike : am_E := am_S K11_alike 10
theorem hdd_11_alike : yX11_alike.cls ≠ "java/lang/invoke/MethodHandle" ∧ yX11_alike.cls ≠ "java/lang/invoke/VarHandle" ∧ (parseMethodDescriptor yX11_alike.desc).map (fun d => d.parameters.length) = some 1 := by decide +kernel
set_option maxRecDepth 100000 in
theorem snd_11_alike : am_Sound yX11_alike cX11_alike 10 (some .long) 2 41 S11_alike :=
  am_sound_of (own := RX11) (by decide) rfl <|
    fm_c (si_iloadn dX11_alike_0 rfl) <|
    fm_c (si_call snd_11_isPart dX11_alike_1 tw_670 tw_671 tw_65 tw_672 hdd_11_isPart ⟨rfl, rfl⟩) <|
    fm_c (si_if_ne dX11_alike_4 rfl) <|
    fm_c (si_bipush dX11_alike_7 rfl) <|
    fm_c (si_call snd_11_refused dX11_alike_9 tw_673 tw_674 tw_65 tw_675 hdd_11_refused ⟨rfl, rfl⟩) <|
    fm_c (si_lret rfl dX11_alike_12) <|
    fm_c (si_aloadn dX11_alike_13 rfl) <|
    fm_c (si_getf (C := RX11) (T := TX11) (N := 17) dX11_alike_14 rfl inC_11 rfl tw_331) <|
    fm_c (si_getf (C := RX3) (T := TX3) (N := 5) dX11_alike_17 rfl inC_3 rfl tw_181) <|
    fm_c (si_if_ne dX11_alike_20 rfl) <|
    fm_c (si_lconst1 dX11_alike_23) <|
    fm_c (si_lret rfl dX11_alike_24) <|
    fm_c (si_lconst1 dX11_alike_25) <|
    fm_c (si_lstoren dX11_alike_26 rfl rfl) <|
    fm_c (si_lconst1 dX11_alike_27) <|
    fm_c (si_lstore dX11_alike_28 rfl) <|
    fm_c (si_lconst1 dX11_alike_30) <|
    fm_c (si_lstore dX11_alike_31 rfl) <|
    fm_c (si_iconst dX11_alike_33 rfl) <|
    fm_c (si_istore dX11_alike_34 rfl) <|
    fm_c (si_iload dX11_alike_36) <|
    fm_c (si_aloadn dX11_alike_38 rfl) <|
    fm_c (si_getf (C := RX11) (T := TX11) (N := 17) dX11_alike_39 rfl inC_11 rfl tw_331) <|
    fm_c (si_getf (C := RX3) (T := TX3) (N := 5) dX11_alike_42 rfl inC_3 rfl tw_181) <|
    fm_c (si_ic_ge dX11_alike_45 rfl) <|
    fm_c (si_aloadn dX11_alike_48 rfl) <|
    fm_c (si_getf (C := RX11) (T := TX11) (N := 17) dX11_alike_49 rfl inC_11 rfl tw_331) <|
    fm_c (si_aloadn dX11_alike_52 rfl) <|
    fm_c (si_getf (C := RX11) (T := TX11) (N := 17) dX11_alike_53 rfl inC_11 rfl tw_331) <|
    fm_c (si_iload dX11_alike_56) <|
    fm_c (si_callv (C := RX3) (T := TX3) (N := 5) snd_3_whoGoes rfl dX11_alike_58 tw_591 tw_592 tw_593 tw_71 tw_594 hdd_3_whoGoes ⟨rfl, rfl⟩) <|
    fm_c (si_callv (C := RX3) (T := TX3) (N := 5) snd_3_habitOf rfl dX11_alike_61 tw_686 tw_687 tw_688 tw_71 tw_689 hdd_3_habitOf ⟨rfl, rfl⟩) <|
    fm_c (si_istore dX11_alike_64 rfl) <|
    fm_c (si_lloadn dX11_alike_66 rfl) <|
    fm_c (si_iload dX11_alike_67) <|
    fm_c (si_i2l dX11_alike_69) <|
    fm_c (si_lmul dX11_alike_70) <|
    fm_c (si_lstoren dX11_alike_71 rfl rfl) <|
    fm_c (si_lload dX11_alike_72) <|
    fm_c (si_bipush dX11_alike_74 rfl) <|
    fm_c (si_iload dX11_alike_76) <|
    fm_c (si_isub dX11_alike_78) <|
    fm_c (si_i2l dX11_alike_79) <|
    fm_c (si_lmul dX11_alike_80) <|
    fm_c (si_lstore dX11_alike_81 rfl) <|
    fm_c (si_lload dX11_alike_83) <|
    fm_c (si_ldc2 dX11_alike_85 tw_690 rfl) <|
    fm_c (si_lmul dX11_alike_88) <|
    fm_c (si_lstore dX11_alike_89 rfl) <|
    fm_c (si_iinc dX11_alike_91 rfl rfl) <|
    fm_c (si_goto dX11_alike_94 rfl) <|
    fm_c (si_lloadn dX11_alike_97 rfl) <|
    fm_c (si_lload dX11_alike_98) <|
    fm_c (si_ladd dX11_alike_100) <|
    fm_c (si_lload dX11_alike_101) <|
    fm_c (si_iloadn dX11_alike_103 rfl) <|
    fm_c (si_call snd_11_lowest dX11_alike_104 tw_679 tw_680 tw_65 tw_681 hdd_11_lowest ⟨rfl, rfl⟩) <|
    fm_c (si_lret rfl dX11_alike_107) <|
    fun _ h => absurd h List.not_mem_nil
def K11_areMinutes : List (Nat × am_O) := [(0, o_iload 0 1),
  (1, o_if (fun a => a < 0) 13 4),
  (4, o_iload 0 5),
  (5, o_push (aI 5) 6),
  (6, o_ic (fun a b => b < a) 13 9),
  (9, o_push (aI 1) 10),
  (10, o_goto 14),
  (13, o_push (aI 0) 14),
  (14, o_zret)]
def S11_areMinutes : am_E := am_S K11_areMinutes 1
theorem hdd_11_areMinutes : yX11_areMinutes.cls ≠ "java/lang/invoke/MethodHandle" ∧ yX11_areMinutes.cls ≠ "java/lang/invoke/VarHandle" ∧ (parseMethodDescriptor yX11_areMinutes.desc).map (fun d => d.parameters.length) = some 1 := by decide +kernel
set_option maxRecDepth 100000 in
theorem snd_11_areMinutes : am_Sound yX11_areMinutes cX11_areMinutes 1 (some .boolean) 0 0 S11_areMinutes :=
  am_sound_of (own := RX11) (by decide) rfl <|
    fm_c (si_iloadn dX11_areMinutes_0 rfl) <|
    fm_c (si_if_lt dX11_areMinutes_1 rfl) <|
    fm_c (si_iloadn dX11_areMinutes_4 rfl) <|
    fm_c (si_iconst dX11_areMinutes_5 rfl) <|
    fm_c (si_ic_gt dX11_areMinutes_6 rfl) <|
    fm_c (si_iconst dX11_areMinutes_9 rfl) <|
    fm_c (si_goto dX11_areMinutes_10 rfl) <|
    fm_c (si_iconst dX11_areMinutes_13 rfl) <|
    fm_c (si_zret rfl dX11_areMinutes_14) <|
    fun _ h => absurd h List.not_mem_nil
def K11_at : List (Nat × am_O) := [(0, o_iload 1 1),
  (1, o_if (fun a => a < 0) 15 4),
  (4, o_iload 1 5),
  (5, o_aload 0 6),
  (6, o_getf 11 7 9),
  (9, o_getf 10 4 12),
  (12, o_ic (fun a b => a ≤ b) 18 15),
  (15, o_push (aI (-2)) 17),
  (17, o_iret),
  (18, o_aload 0 19),
  (19, o_getf 11 3 22),
  (22, o_aload 0 23),
  (23, o_getf 11 7 26),
  (26, o_getf 10 2 29),
  (29, o_callv S2_isPlace 2 1 false 32),
  (32, o_if (fun a => a = 0) 46 35),
  (35, o_aload 0 36),
  (36, o_getf 11 7 39),
  (39, o_iload 1 40),
  (40, o_callv S10_placeBehind 10 1 false 43),
  (43, o_goto 48),
  (46, o_push (aI (-3)) 48),
  (48, o_iret)]
def S11_at : am_E := am_S K11_at 2
theorem hdd_11_at : yX11_at.cls ≠ "java/lang/invoke/MethodHandle" ∧ yX11_at.cls ≠ "java/lang/invoke/VarHandle" ∧ (parseMethodDescriptor yX11_at.desc).map (fun d => d.parameters.length) = some 1 := by decide +kernel
set_option maxRecDepth 100000 in
theorem snd_11_at : am_Sound yX11_at cX11_at 2 (some .int) 1 21 S11_at :=
  am_sound_of (own := RX11) (by decide) rfl <|
    fm_c (si_iloadn dX11_at_0 rfl) <|
    fm_c (si_if_lt dX11_at_1 rfl) <|
    fm_c (si_iloadn dX11_at_4 rfl) <|
    fm_c (si_aloadn dX11_at_5 rfl) <|
    fm_c (si_getf (C := RX11) (T := TX11) (N := 17) dX11_at_6 rfl inC_11 rfl tw_332) <|
    fm_c (si_getf (C := RX10) (T := TX10) (N := 5) dX11_at_9 rfl inC_10 rfl tw_206) <|
    fm_c (si_ic_le dX11_at_12 rfl) <|
    fm_c (si_bipush dX11_at_15 rfl) <|
    fm_c (si_iret rfl dX11_at_17) <|
    fm_c (si_aloadn dX11_at_18 rfl) <|
    fm_c (si_getf (C := RX11) (T := TX11) (N := 17) dX11_at_19 rfl inC_11 rfl tw_328) <|
    fm_c (si_aloadn dX11_at_22 rfl) <|
    fm_c (si_getf (C := RX11) (T := TX11) (N := 17) dX11_at_23 rfl inC_11 rfl tw_332) <|
    fm_c (si_getf (C := RX10) (T := TX10) (N := 5) dX11_at_26 rfl inC_10 rfl tw_202) <|
    fm_c (si_callv (C := RX2) (T := TX2) (N := 3) snd_2_isPlace rfl dX11_at_29 tw_513 tw_414 tw_415 tw_67 tw_416 hdd_2_isPlace ⟨rfl, rfl⟩) <|
    fm_c (si_if_eq dX11_at_32 rfl) <|
    fm_c (si_aloadn dX11_at_35 rfl) <|
    fm_c (si_getf (C := RX11) (T := TX11) (N := 17) dX11_at_36 rfl inC_11 rfl tw_332) <|
    fm_c (si_iloadn dX11_at_39 rfl) <|
    fm_c (si_callv (C := RX10) (T := TX10) (N := 5) snd_10_placeBehind rfl dX11_at_40 tw_526 tw_527 tw_528 tw_72 tw_529 hdd_10_placeBehind ⟨rfl, rfl⟩) <|
    fm_c (si_goto dX11_at_43 rfl) <|
    fm_c (si_bipush dX11_at_46 rfl) <|
    fm_c (si_iret rfl dX11_at_48) <|
    fun _ h => absurd h List.not_mem_nil
def K3_gripOf : List (Nat × am_O) := [(0, o_iload 1 1),
  (1, o_if (fun a => a < 0) 22 4),
  (4, o_iload 1 5),
  (5, o_push (aI 5) 6),
  (6, o_ic (fun a b => b ≤ a) 22 9),
  (9, o_iload 2 10),
  (10, o_if (fun a => a < 0) 22 13),
  (13, o_iload 2 14),
  (14, o_push (aI 5) 15),
  (15, o_ic (fun a b => b ≤ a) 22 18),
  (18, o_push (aI 1) 19),
  (19, o_goto 23),
  (22, o_push (aI 0) 23),
  (23, o_istore 3 24),
  (24, o_iload 3 25),
  (25, o_if (fun a => a = 0) 41 28),
  (28, o_aload 0 29),
  (29, o_getf 3 0 32),
  (32, o_iload 1 33),
  (33, o_push (aI 5) 34),
  (34, o_bin (fun a b => w32 (a * b)) 35),
  (35, o_iload 2 36),
  (36, o_bin (fun a b => w32 (a + b)) 37),
  (37, o_iald 38),
  (38, o_goto 42),
  (41, o_push (aI 0) 42),
  (42, o_iret)]
def S3_gripOf : am_E := am_S K3_gripOf 4
theorem hdd_3_gripOf : yX3_gripOf.cls ≠ "java/lang/invoke/MethodHandle" ∧ yX3_gripOf.cls ≠ "java/lang/invoke/VarHandle" ∧ (parseMethodDescriptor yX3_gripOf.desc).map (fun d => d.parameters.length) = some 2 := by decide +kernel
set_option maxRecDepth 100000 in
theorem snd_3_gripOf : am_Sound yX3_gripOf cX3_gripOf 4 (some .int) 0 0 S3_gripOf :=
  am_sound_of (own := RX3) (by decide) rfl <|
    fm_c (si_iloadn dX3_gripOf_0 rfl) <|
    fm_c (si_if_lt dX3_gripOf_1 rfl) <|
    fm_c (si_iloadn dX3_gripOf_4 rfl) <|
    fm_c (si_iconst dX3_gripOf_5 rfl) <|
    fm_c (si_ic_ge dX3_gripOf_6 rfl) <|
    fm_c (si_iloadn dX3_gripOf_9 rfl) <|
    fm_c (si_if_lt dX3_gripOf_10 rfl) <|
    fm_c (si_iloadn dX3_gripOf_13 rfl) <|
    fm_c (si_iconst dX3_gripOf_14 rfl) <|
    fm_c (si_ic_ge dX3_gripOf_15 rfl) <|
    fm_c (si_iconst dX3_gripOf_18 rfl) <|
    fm_c (si_goto dX3_gripOf_19 rfl) <|
    fm_c (si_iconst dX3_gripOf_22 rfl) <|
    fm_c (si_istoren dX3_gripOf_23 rfl rfl) <|
    fm_c (si_iloadn dX3_gripOf_24 rfl) <|
    fm_c (si_if_eq dX3_gripOf_25 rfl) <|
    fm_c (si_aloadn dX3_gripOf_28 rfl) <|
    fm_c (si_getf (C := RX3) (T := TX3) (N := 5) dX3_gripOf_29 rfl inC_3 rfl tw_174) <|
    fm_c (si_iloadn dX3_gripOf_32 rfl) <|
    fm_c (si_iconst dX3_gripOf_33 rfl) <|
    fm_c (si_imul dX3_gripOf_34) <|
    fm_c (si_iloadn dX3_gripOf_35 rfl) <|
    fm_c (si_iadd dX3_gripOf_36) <|
    fm_c (si_iald dX3_gripOf_37) <|
    fm_c (si_goto dX3_gripOf_38 rfl) <|
    fm_c (si_iconst dX3_gripOf_41 rfl) <|
    fm_c (si_iret rfl dX3_gripOf_42) <|
    fun _ h => absurd h List.not_mem_nil
def K6_putLeg : List (Nat × am_O) := [(0, o_iload 1 1),
  (1, o_if (fun a => a < 0) 30 4),
  (4, o_iload 1 5),
  (5, o_push (aI 7) 7),
  (7, o_ic (fun a b => b ≤ a) 30 10),
  (10, o_iload 2 11),
  (11, o_if (fun a => a < 0) 30 14),
  (14, o_iload 2 15),
  (15, o_push (aI 5) 16),
  (16, o_ic (fun a b => b ≤ a) 30 19),
  (19, o_aload 0 20),
  (20, o_getf 6 0 23),
  (23, o_iload 1 24),
  (24, o_push (aI 5) 25),
  (25, o_bin (fun a b => w32 (a * b)) 26),
  (26, o_iload 2 27),
  (27, o_bin (fun a b => w32 (a + b)) 28),
  (28, o_iload 3 29),
  (29, o_iast 30),
  (30, o_vret)]
def S6_putLeg : am_E := am_S K6_putLeg 4
theorem hdd_6_putLeg : yX6_putLeg.cls ≠ "java/lang/invoke/MethodHandle" ∧ yX6_putLeg.cls ≠ "java/lang/invoke/VarHandle" ∧ (parseMethodDescriptor yX6_putLeg.desc).map (fun d => d.parameters.length) = some 3 := by decide +kernel
set_option maxRecDepth 100000 in
theorem snd_6_putLeg : am_Sound yX6_putLeg cX6_putLeg 4 none 0 0 S6_putLeg :=
  am_sound_of (own := RX6) (by decide) rfl <|
    fm_c (si_iloadn dX6_putLeg_0 rfl) <|
    fm_c (si_if_lt dX6_putLeg_1 rfl) <|
    fm_c (si_iloadn dX6_putLeg_4 rfl) <|
    fm_c (si_bipush dX6_putLeg_5 rfl) <|
    fm_c (si_ic_ge dX6_putLeg_7 rfl) <|
    fm_c (si_iloadn dX6_putLeg_10 rfl) <|
    fm_c (si_if_lt dX6_putLeg_11 rfl) <|
    fm_c (si_iloadn dX6_putLeg_14 rfl) <|
    fm_c (si_iconst dX6_putLeg_15 rfl) <|
    fm_c (si_ic_ge dX6_putLeg_16 rfl) <|
    fm_c (si_aloadn dX6_putLeg_19 rfl) <|
    fm_c (si_getf (C := RX6) (T := TX6) (N := 3) dX6_putLeg_20 rfl inC_6 rfl tw_295) <|
    fm_c (si_iloadn dX6_putLeg_23 rfl) <|
    fm_c (si_iconst dX6_putLeg_24 rfl) <|
    fm_c (si_imul dX6_putLeg_25) <|
    fm_c (si_iloadn dX6_putLeg_26 rfl) <|
    fm_c (si_iadd dX6_putLeg_27) <|
    fm_c (si_iloadn dX6_putLeg_28 rfl) <|
    fm_c (si_iast dX6_putLeg_29) <|
    fm_c (si_vret rfl dX6_putLeg_30) <|
    fun _ h => absurd h List.not_mem_nil
def K6_layOrders : List (Nat × am_O) := [(0, o_aload 0 1),
  (1, o_getf 6 1 4),
  (4, o_push (aI 1) 5),
  (5, o_call SJ_fillI 2 true 8),
  (8, o_push (aI 0) 9),
  (9, o_istore 2 10),
  (10, o_iload 2 11),
  (11, o_push (aI 5) 12),
  (12, o_ic (fun a b => b ≤ a) 64 15),
  (15, o_push (aI 0) 16),
  (16, o_istore 3 17),
  (17, o_iload 3 18),
  (18, o_push (aI 5) 19),
  (19, o_ic (fun a b => b ≤ a) 43 22),
  (22, o_aload 0 23),
  (23, o_iload 3 24),
  (24, o_iload 2 25),
  (25, o_push (aI 16) 27),
  (27, o_aload 1 28),
  (28, o_iload 3 29),
  (29, o_iload 2 30),
  (30, o_callv S3_gripOf 3 2 false 33),
  (33, o_bin (fun a b => w32 (a - b)) 34),
  (34, o_callv S6_putLeg 6 3 true 37),
  (37, o_iinc 3 1 40),
  (40, o_goto 17),
  (43, o_aload 0 44),
  (44, o_push (aI 5) 45),
  (45, o_iload 2 46),
  (46, o_push (aI 0) 47),
  (47, o_callv S6_putLeg 6 3 true 50),
  (50, o_aload 0 51),
  (51, o_push (aI 6) 53),
  (53, o_iload 2 54),
  (54, o_push (aI 0) 55),
  (55, o_callv S6_putLeg 6 3 true 58),
  (58, o_iinc 2 1 61),
  (61, o_goto 10),
  (64, o_vret)]
def S6_layOrders : am_E := am_S K6_layOrders 4
theorem hdd_6_layOrders : yX6_layOrders.cls ≠ "java/lang/invoke/MethodHandle" ∧ yX6_layOrders.cls ≠ "java/lang/invoke/VarHandle" ∧ (parseMethodDescriptor yX6_layOrders.desc).map (fun d => d.parameters.length) = some 1 := by decide +kernel
set_option maxRecDepth 100000 in
theorem snd_6_layOrders : am_Sound yX6_layOrders cX6_layOrders 4 none 1 23 S6_layOrders :=
  am_sound_of (own := RX6) (by decide) rfl <|
    fm_c (si_aloadn dX6_layOrders_0 rfl) <|
    fm_c (si_getf (C := RX6) (T := TX6) (N := 3) dX6_layOrders_1 rfl inC_6 rfl tw_296) <|
    fm_c (si_iconst dX6_layOrders_4 rfl) <|
    fm_c (si_call snd_J_fillI dX6_layOrders_5 tw_638 tw_122 tw_68 tw_123 hdd_J_fillI ⟨rfl, rfl⟩) <|
    fm_c (si_iconst dX6_layOrders_8 rfl) <|
    fm_c (si_istoren dX6_layOrders_9 rfl rfl) <|
    fm_c (si_iloadn dX6_layOrders_10 rfl) <|
    fm_c (si_iconst dX6_layOrders_11 rfl) <|
    fm_c (si_ic_ge dX6_layOrders_12 rfl) <|
    fm_c (si_iconst dX6_layOrders_15 rfl) <|
    fm_c (si_istoren dX6_layOrders_16 rfl rfl) <|
    fm_c (si_iloadn dX6_layOrders_17 rfl) <|
    fm_c (si_iconst dX6_layOrders_18 rfl) <|
    fm_c (si_ic_ge dX6_layOrders_19 rfl) <|
    fm_c (si_aloadn dX6_layOrders_22 rfl) <|
    fm_c (si_iloadn dX6_layOrders_23 rfl) <|
    fm_c (si_iloadn dX6_layOrders_24 rfl) <|
    fm_c (si_bipush dX6_layOrders_25 rfl) <|
    fm_c (si_aloadn dX6_layOrders_27 rfl) <|
    fm_c (si_iloadn dX6_layOrders_28 rfl) <|
    fm_c (si_iloadn dX6_layOrders_29 rfl) <|
    fm_c (si_callv (C := RX3) (T := TX3) (N := 5) snd_3_gripOf rfl dX6_layOrders_30 tw_639 tw_470 tw_471 tw_71 tw_472 hdd_3_gripOf ⟨rfl, rfl⟩) <|
    fm_c (si_isub dX6_layOrders_33) <|
    fm_c (si_callv (C := RX6) (T := TX6) (N := 3) snd_6_putLeg rfl dX6_layOrders_34 tw_640 tw_641 tw_642 tw_76 tw_643 hdd_6_putLeg ⟨rfl, rfl⟩) <|
    fm_c (si_iinc dX6_layOrders_37 rfl rfl) <|
    fm_c (si_goto dX6_layOrders_40 rfl) <|
    fm_c (si_aloadn dX6_layOrders_43 rfl) <|
    fm_c (si_iconst dX6_layOrders_44 rfl) <|
    fm_c (si_iloadn dX6_layOrders_45 rfl) <|
    fm_c (si_iconst dX6_layOrders_46 rfl) <|
    fm_c (si_callv (C := RX6) (T := TX6) (N := 3) snd_6_putLeg rfl dX6_layOrders_47 tw_640 tw_641 tw_642 tw_76 tw_643 hdd_6_putLeg ⟨rfl, rfl⟩) <|
    fm_c (si_aloadn dX6_layOrders_50 rfl) <|
    fm_c (si_bipush dX6_layOrders_51 rfl) <|
    fm_c (si_iloadn dX6_layOrders_53 rfl) <|
    fm_c (si_iconst dX6_layOrders_54 rfl) <|
    fm_c (si_callv (C := RX6) (T := TX6) (N := 3) snd_6_putLeg rfl dX6_layOrders_55 tw_640 tw_641 tw_642 tw_76 tw_643 hdd_6_putLeg ⟨rfl, rfl⟩) <|
    fm_c (si_iinc dX6_layOrders_58 rfl rfl) <|
    fm_c (si_goto dX6_layOrders_61 rfl) <|
    fm_c (si_vret rfl dX6_layOrders_64) <|
    fun _ h => absurd h List.not_mem_nil
def K6_leastFrom : List (Nat × am_O) := [(0, o_iload 1 1),
  (1, o_if (fun a => a < 0) 24 4),
  (4, o_iload 1 5),
  (5, o_push (aI 7) 7),
  (7, o_ic (fun a b => b ≤ a) 24 10),
  (10, o_iload 2 11),
  (11, o_if (fun a => a < 0) 24 14),
  (14, o_iload 2 15),
  (15, o_push (aI 32) 17),
  (17, o_ic (fun a b => b ≤ a) 24 20),
  (20, o_push (aI 1) 21),
  (21, o_goto 25),
  (24, o_push (aI 0) 25),
  (25, o_istore 3 26),
  (26, o_iload 3 27),
  (27, o_if (fun a => a = 0) 44 30),
  (30, o_aload 0 31),
  (31, o_getf 6 2 34),
  (34, o_iload 2 35),
  (35, o_push (aI 7) 37),
  (37, o_bin (fun a b => w32 (a * b)) 38),
  (38, o_iload 1 39),
  (39, o_bin (fun a b => w32 (a + b)) 40),
  (40, o_iald 41),
  (41, o_goto 45),
  (44, o_push (aI 0) 45),
  (45, o_iret)]
def S6_leastFrom : am_E := am_S K6_leastFrom 4
theorem hdd_6_leastFrom : yX6_leastFrom.cls ≠ "java/lang/invoke/MethodHandle" ∧ yX6_leastFrom.cls ≠ "java/lang/invoke/VarHandle" ∧ (parseMethodDescriptor yX6_leastFrom.desc).map (fun d => d.parameters.length) = some 2 := by decide +kernel
set_option maxRecDepth 100000 in
theorem snd_6_leastFrom : am_Sound yX6_leastFrom cX6_leastFrom 4 (some .int) 0 0 S6_leastFrom :=
  am_sound_of (own := RX6) (by decide) rfl <|
    fm_c (si_iloadn dX6_leastFrom_0 rfl) <|
    fm_c (si_if_lt dX6_leastFrom_1 rfl) <|
    fm_c (si_iloadn dX6_leastFrom_4 rfl) <|
    fm_c (si_bipush dX6_leastFrom_5 rfl) <|
    fm_c (si_ic_ge dX6_leastFrom_7 rfl) <|
    fm_c (si_iloadn dX6_leastFrom_10 rfl) <|
    fm_c (si_if_lt dX6_leastFrom_11 rfl) <|
    fm_c (si_iloadn dX6_leastFrom_14 rfl) <|
    fm_c (si_bipush dX6_leastFrom_15 rfl) <|
    fm_c (si_ic_ge dX6_leastFrom_17 rfl) <|
    fm_c (si_iconst dX6_leastFrom_20 rfl) <|
    fm_c (si_goto dX6_leastFrom_21 rfl) <|
    fm_c (si_iconst dX6_leastFrom_24 rfl) <|
    fm_c (si_istoren dX6_leastFrom_25 rfl rfl) <|
    fm_c (si_iloadn dX6_leastFrom_26 rfl) <|
    fm_c (si_if_eq dX6_leastFrom_27 rfl) <|
    fm_c (si_aloadn dX6_leastFrom_30 rfl) <|
    fm_c (si_getf (C := RX6) (T := TX6) (N := 3) dX6_leastFrom_31 rfl inC_6 rfl tw_297) <|
    fm_c (si_iloadn dX6_leastFrom_34 rfl) <|
    fm_c (si_bipush dX6_leastFrom_35 rfl) <|
    fm_c (si_imul dX6_leastFrom_37) <|
    fm_c (si_iloadn dX6_leastFrom_38 rfl) <|
    fm_c (si_iadd dX6_leastFrom_39) <|
    fm_c (si_iald dX6_leastFrom_40) <|
    fm_c (si_goto dX6_leastFrom_41 rfl) <|
    fm_c (si_iconst dX6_leastFrom_44 rfl) <|
    fm_c (si_iret rfl dX6_leastFrom_45) <|
    fun _ h => absurd h List.not_mem_nil
def K6_costBy : List (Nat × am_O) := [(0, o_iload 1 1),
  (1, o_if (fun a => a < 0) 33 4),
  (4, o_iload 1 5),
  (5, o_push (aI 7) 7),
  (7, o_ic (fun a b => b ≤ a) 33 10),
  (10, o_iload 2 11),
  (11, o_if (fun a => a < 0) 33 14),
  (14, o_iload 2 15),
  (15, o_push (aI 32) 17),
  (17, o_ic (fun a b => b ≤ a) 33 20),
  (20, o_iload 3 21),
  (21, o_if (fun a => a < 0) 33 24),
  (24, o_iload 3 25),
  (25, o_push (aI 5) 26),
  (26, o_ic (fun a b => b ≤ a) 33 29),
  (29, o_push (aI 1) 30),
  (30, o_goto 34),
  (33, o_push (aI 0) 34),
  (34, o_istore 4 36),
  (36, o_iload 4 38),
  (38, o_if (fun a => a = 0) 74 41),
  (41, o_aload 0 42),
  (42, o_getf 6 0 45),
  (45, o_iload 1 46),
  (46, o_push (aI 5) 47),
  (47, o_bin (fun a b => w32 (a * b)) 48),
  (48, o_iload 3 49),
  (49, o_bin (fun a b => w32 (a + b)) 50),
  (50, o_iald 51),
  (51, o_aload 0 52),
  (52, o_getf 6 1 55),
  (55, o_iload 2 56),
  (56, o_iald 57),
  (57, o_bin (fun a b => w32 (a * b)) 58),
  (58, o_aload 0 59),
  (59, o_iload 3 60),
  (60, o_iload 2 61),
  (61, o_push (aI 1) 62),
  (62, o_iload 3 63),
  (63, o_sh am_shl 64),
  (64, o_push (aI (-1)) 65),
  (65, o_bin am_xor 66),
  (66, o_bin am_and 67),
  (67, o_callv S6_leastFrom 6 2 false 70),
  (70, o_bin (fun a b => w32 (a + b)) 71),
  (71, o_goto 75),
  (74, o_push (aI 0) 75),
  (75, o_iret)]
def S6_costBy : am_E := am_S K6_costBy 5
theorem hdd_6_costBy : yX6_costBy.cls ≠ "java/lang/invoke/MethodHandle" ∧ yX6_costBy.cls ≠ "java/lang/invoke/VarHandle" ∧ (parseMethodDescriptor yX6_costBy.desc).map (fun d => d.parameters.length) = some 3 := by decide +kernel
set_option maxRecDepth 100000 in
theorem snd_6_costBy : am_Sound yX6_costBy cX6_costBy 5 (some .int) 1 23 S6_costBy :=
  am_sound_of (own := RX6) (by decide) rfl <|
    fm_c (si_iloadn dX6_costBy_0 rfl) <|
    fm_c (si_if_lt dX6_costBy_1 rfl) <|
    fm_c (si_iloadn dX6_costBy_4 rfl) <|
    fm_c (si_bipush dX6_costBy_5 rfl) <|
    fm_c (si_ic_ge dX6_costBy_7 rfl) <|
    fm_c (si_iloadn dX6_costBy_10 rfl) <|
    fm_c (si_if_lt dX6_costBy_11 rfl) <|
    fm_c (si_iloadn dX6_costBy_14 rfl) <|
    fm_c (si_bipush dX6_costBy_15 rfl) <|
    fm_c (si_ic_ge dX6_costBy_17 rfl) <|
    fm_c (si_iloadn dX6_costBy_20 rfl) <|
    fm_c (si_if_lt dX6_costBy_21 rfl) <|
    fm_c (si_iloadn dX6_costBy_24 rfl) <|
    fm_c (si_iconst dX6_costBy_25 rfl) <|
    fm_c (si_ic_ge dX6_costBy_26 rfl) <|
    fm_c (si_iconst dX6_costBy_29 rfl) <|
    fm_c (si_goto dX6_costBy_30 rfl) <|
    fm_c (si_iconst dX6_costBy_33 rfl) <|
    fm_c (si_istore dX6_costBy_34 rfl) <|
    fm_c (si_iload dX6_costBy_36) <|
    fm_c (si_if_eq dX6_costBy_38 rfl) <|
    fm_c (si_aloadn dX6_costBy_41 rfl) <|
    fm_c (si_getf (C := RX6) (T := TX6) (N := 3) dX6_costBy_42 rfl inC_6 rfl tw_295) <|
    fm_c (si_iloadn dX6_costBy_45 rfl) <|
    fm_c (si_iconst dX6_costBy_46 rfl) <|
    fm_c (si_imul dX6_costBy_47) <|
    fm_c (si_iloadn dX6_costBy_48 rfl) <|
    fm_c (si_iadd dX6_costBy_49) <|
    fm_c (si_iald dX6_costBy_50) <|
    fm_c (si_aloadn dX6_costBy_51 rfl) <|
    fm_c (si_getf (C := RX6) (T := TX6) (N := 3) dX6_costBy_52 rfl inC_6 rfl tw_296) <|
    fm_c (si_iloadn dX6_costBy_55 rfl) <|
    fm_c (si_iald dX6_costBy_56) <|
    fm_c (si_imul dX6_costBy_57) <|
    fm_c (si_aloadn dX6_costBy_58 rfl) <|
    fm_c (si_iloadn dX6_costBy_59 rfl) <|
    fm_c (si_iloadn dX6_costBy_60 rfl) <|
    fm_c (si_iconst dX6_costBy_61 rfl) <|
    fm_c (si_iloadn dX6_costBy_62 rfl) <|
    fm_c (si_ishl dX6_costBy_63) <|
    fm_c (si_iconst dX6_costBy_64 rfl) <|
    fm_c (si_ixor dX6_costBy_65) <|
    fm_c (si_iand dX6_costBy_66) <|
    fm_c (si_callv (C := RX6) (T := TX6) (N := 3) snd_6_leastFrom rfl dX6_costBy_67 tw_656 tw_657 tw_658 tw_76 tw_659 hdd_6_leastFrom ⟨rfl, rfl⟩) <|
    fm_c (si_iadd dX6_costBy_70) <|
    fm_c (si_goto dX6_costBy_71 rfl) <|
    fm_c (si_iconst dX6_costBy_74 rfl) <|
    fm_c (si_iret rfl dX6_costBy_75) <|
    fun _ h => absurd h List.not_mem_nil
def K6_cheapestNext : List (Nat × am_O) := [(0, o_push (aI (-1)) 1),
  (1, o_istore 3 2),
  (2, o_push (aI 0) 3),
  (3, o_istore 4 5),
  (5, o_push (aI 0) 6),
  (6, o_istore 5 8),
  (8, o_iload 5 10),
  (10, o_push (aI 5) 11),
  (11, o_ic (fun a b => b ≤ a) 58 14),
  (14, o_iload 2 15),
  (15, o_iload 5 17),
  (17, o_sh am_shr 18),
  (18, o_push (aI 1) 19),
  (19, o_bin am_and 20),
  (20, o_if (fun a => a = 0) 52 23),
  (23, o_aload 0 24),
  (24, o_iload 1 25),
  (25, o_iload 2 26),
  (26, o_iload 5 28),
  (28, o_callv S6_costBy 6 3 false 31),
  (31, o_istore 6 33),
  (33, o_iload 3 34),
  (34, o_push (aI (-1)) 35),
  (35, o_ic (fun a b => a = b) 45 38),
  (38, o_iload 6 40),
  (40, o_iload 4 42),
  (42, o_ic (fun a b => b ≤ a) 52 45),
  (45, o_iload 5 47),
  (47, o_istore 3 48),
  (48, o_iload 6 50),
  (50, o_istore 4 52),
  (52, o_iinc 5 1 55),
  (55, o_goto 8),
  (58, o_iload 3 59),
  (59, o_iret)]
def S6_cheapestNext : am_E := am_S K6_cheapestNext 7
theorem hdd_6_cheapestNext : yX6_cheapestNext.cls ≠ "java/lang/invoke/MethodHandle" ∧ yX6_cheapestNext.cls ≠ "java/lang/invoke/VarHandle" ∧ (parseMethodDescriptor yX6_cheapestNext.desc).map (fun d => d.parameters.length) = some 2 := by decide +kernel
set_option maxRecDepth 100000 in
theorem snd_6_cheapestNext : am_Sound yX6_cheapestNext cX6_cheapestNext 7 (some .int) 2 47 S6_cheapestNext :=
  am_sound_of (own := RX6) (by decide) rfl <|
    fm_c (si_iconst dX6_cheapestNext_0 rfl) <|
    fm_c (si_istoren dX6_cheapestNext_1 rfl rfl) <|
    fm_c (si_iconst dX6_cheapestNext_2 rfl) <|
    fm_c (si_istore dX6_cheapestNext_3 rfl) <|
    fm_c (si_iconst dX6_cheapestNext_5 rfl) <|
    fm_c (si_istore dX6_cheapestNext_6 rfl) <|
    fm_c (si_iload dX6_cheapestNext_8) <|
    fm_c (si_iconst dX6_cheapestNext_10 rfl) <|
    fm_c (si_ic_ge dX6_cheapestNext_11 rfl) <|
    fm_c (si_iloadn dX6_cheapestNext_14 rfl) <|
    fm_c (si_iload dX6_cheapestNext_15) <|
    fm_c (si_ishr dX6_cheapestNext_17) <|
    fm_c (si_iconst dX6_cheapestNext_18 rfl) <|
    fm_c (si_iand dX6_cheapestNext_19) <|
    fm_c (si_if_eq dX6_cheapestNext_20 rfl) <|
    fm_c (si_aloadn dX6_cheapestNext_23 rfl) <|
    fm_c (si_iloadn dX6_cheapestNext_24 rfl) <|
    fm_c (si_iloadn dX6_cheapestNext_25 rfl) <|
    fm_c (si_iload dX6_cheapestNext_26) <|
    fm_c (si_callv (C := RX6) (T := TX6) (N := 3) snd_6_costBy rfl dX6_cheapestNext_28 tw_652 tw_654 tw_13 tw_76 tw_655 hdd_6_costBy ⟨rfl, rfl⟩) <|
    fm_c (si_istore dX6_cheapestNext_31 rfl) <|
    fm_c (si_iloadn dX6_cheapestNext_33 rfl) <|
    fm_c (si_iconst dX6_cheapestNext_34 rfl) <|
    fm_c (si_ic_eq dX6_cheapestNext_35 rfl) <|
    fm_c (si_iload dX6_cheapestNext_38) <|
    fm_c (si_iload dX6_cheapestNext_40) <|
    fm_c (si_ic_ge dX6_cheapestNext_42 rfl) <|
    fm_c (si_iload dX6_cheapestNext_45) <|
    fm_c (si_istoren dX6_cheapestNext_47 rfl rfl) <|
    fm_c (si_iload dX6_cheapestNext_48) <|
    fm_c (si_istore dX6_cheapestNext_50 rfl) <|
    fm_c (si_iinc dX6_cheapestNext_52 rfl rfl) <|
    fm_c (si_goto dX6_cheapestNext_55 rfl) <|
    fm_c (si_iloadn dX6_cheapestNext_58 rfl) <|
    fm_c (si_iret rfl dX6_cheapestNext_59) <|
    fun _ h => absurd h List.not_mem_nil
def K6_solve : List (Nat × am_O) := [(0, o_aload 0 1),
  (1, o_getf 6 2 4),
  (4, o_push (aI 0) 5),
  (5, o_call SJ_fillI 2 true 8),
  (8, o_push (aI 1) 9),
  (9, o_istore 2 10),
  (10, o_iload 2 11),
  (11, o_push (aI 32) 13),
  (13, o_ic (fun a b => b ≤ a) 67 16),
  (16, o_iload 2 17),
  (17, o_iload 1 18),
  (18, o_push (aI (-1)) 19),
  (19, o_bin am_xor 20),
  (20, o_bin am_and 21),
  (21, o_if (fun a => ¬ a = 0) 61 24),
  (24, o_push (aI 0) 25),
  (25, o_istore 3 26),
  (26, o_iload 3 27),
  (27, o_push (aI 7) 29),
  (29, o_ic (fun a b => b ≤ a) 61 32),
  (32, o_aload 0 33),
  (33, o_getf 6 2 36),
  (36, o_iload 2 37),
  (37, o_push (aI 7) 39),
  (39, o_bin (fun a b => w32 (a * b)) 40),
  (40, o_iload 3 41),
  (41, o_bin (fun a b => w32 (a + b)) 42),
  (42, o_aload 0 43),
  (43, o_iload 3 44),
  (44, o_iload 2 45),
  (45, o_aload 0 46),
  (46, o_iload 3 47),
  (47, o_iload 2 48),
  (48, o_callv S6_cheapestNext 6 2 false 51),
  (51, o_callv S6_costBy 6 3 false 54),
  (54, o_iast 55),
  (55, o_iinc 3 1 58),
  (58, o_goto 26),
  (61, o_iinc 2 1 64),
  (64, o_goto 10),
  (67, o_vret)]
def S6_solve : am_E := am_S K6_solve 4
theorem hdd_6_solve : yX6_solve.cls ≠ "java/lang/invoke/MethodHandle" ∧ yX6_solve.cls ≠ "java/lang/invoke/VarHandle" ∧ (parseMethodDescriptor yX6_solve.desc).map (fun d => d.parameters.length) = some 1 := by decide +kernel
set_option maxRecDepth 100000 in
theorem snd_6_solve : am_Sound yX6_solve cX6_solve 4 none 3 73 S6_solve :=
  am_sound_of (own := RX6) (by decide) rfl <|
    fm_c (si_aloadn dX6_solve_0 rfl) <|
    fm_c (si_getf (C := RX6) (T := TX6) (N := 3) dX6_solve_1 rfl inC_6 rfl tw_297) <|
    fm_c (si_iconst dX6_solve_4 rfl) <|
    fm_c (si_call snd_J_fillI dX6_solve_5 tw_638 tw_122 tw_68 tw_123 hdd_J_fillI ⟨rfl, rfl⟩) <|
    fm_c (si_iconst dX6_solve_8 rfl) <|
    fm_c (si_istoren dX6_solve_9 rfl rfl) <|
    fm_c (si_iloadn dX6_solve_10 rfl) <|
    fm_c (si_bipush dX6_solve_11 rfl) <|
    fm_c (si_ic_ge dX6_solve_13 rfl) <|
    fm_c (si_iloadn dX6_solve_16 rfl) <|
    fm_c (si_iloadn dX6_solve_17 rfl) <|
    fm_c (si_iconst dX6_solve_18 rfl) <|
    fm_c (si_ixor dX6_solve_19) <|
    fm_c (si_iand dX6_solve_20) <|
    fm_c (si_if_ne dX6_solve_21 rfl) <|
    fm_c (si_iconst dX6_solve_24 rfl) <|
    fm_c (si_istoren dX6_solve_25 rfl rfl) <|
    fm_c (si_iloadn dX6_solve_26 rfl) <|
    fm_c (si_bipush dX6_solve_27 rfl) <|
    fm_c (si_ic_ge dX6_solve_29 rfl) <|
    fm_c (si_aloadn dX6_solve_32 rfl) <|
    fm_c (si_getf (C := RX6) (T := TX6) (N := 3) dX6_solve_33 rfl inC_6 rfl tw_297) <|
    fm_c (si_iloadn dX6_solve_36 rfl) <|
    fm_c (si_bipush dX6_solve_37 rfl) <|
    fm_c (si_imul dX6_solve_39) <|
    fm_c (si_iloadn dX6_solve_40 rfl) <|
    fm_c (si_iadd dX6_solve_41) <|
    fm_c (si_aloadn dX6_solve_42 rfl) <|
    fm_c (si_iloadn dX6_solve_43 rfl) <|
    fm_c (si_iloadn dX6_solve_44 rfl) <|
    fm_c (si_aloadn dX6_solve_45 rfl) <|
    fm_c (si_iloadn dX6_solve_46 rfl) <|
    fm_c (si_iloadn dX6_solve_47 rfl) <|
    fm_c (si_callv (C := RX6) (T := TX6) (N := 3) snd_6_cheapestNext rfl dX6_solve_48 tw_648 tw_650 tw_12 tw_76 tw_651 hdd_6_cheapestNext ⟨rfl, rfl⟩) <|
    fm_c (si_callv (C := RX6) (T := TX6) (N := 3) snd_6_costBy rfl dX6_solve_51 tw_652 tw_654 tw_13 tw_76 tw_655 hdd_6_costBy ⟨rfl, rfl⟩) <|
    fm_c (si_iast dX6_solve_54) <|
    fm_c (si_iinc dX6_solve_55 rfl rfl) <|
    fm_c (si_goto dX6_solve_58 rfl) <|
    fm_c (si_iinc dX6_solve_61 rfl rfl) <|
    fm_c (si_goto dX6_solve_64 rfl) <|
    fm_c (si_vret rfl dX6_solve_67) <|
    fun _ h => absurd h List.not_mem_nil
def K6_stopAt : List (Nat × am_O) := [(0, o_push (aI 5) 1),
  (1, o_istore 3 2),
  (2, o_iload 1 3),
  (3, o_istore 4 5),
  (5, o_push (aI 0) 6),
  (6, o_istore 5 8),
  (8, o_iload 5 10),
  (10, o_push (aI 5) 11),
  (11, o_ic (fun a b => b ≤ a) 63 14),
  (14, o_iload 4 16),
  (16, o_if (fun a => a = 0) 63 19),
  (19, o_aload 0 20),
  (20, o_iload 3 21),
  (21, o_iload 4 23),
  (23, o_callv S6_cheapestNext 6 2 false 26),
  (26, o_istore 6 28),
  (28, o_iload 6 30),
  (30, o_push (aI (-1)) 31),
  (31, o_ic (fun a b => a = b) 40 34),
  (34, o_iload 5 36),
  (36, o_iload 2 37),
  (37, o_ic (fun a b => ¬ a = b) 43 40),
  (40, o_iload 6 42),
  (42, o_iret),
  (43, o_iload 4 45),
  (45, o_push (aI 1) 46),
  (46, o_iload 6 48),
  (48, o_sh am_shl 49),
  (49, o_push (aI (-1)) 50),
  (50, o_bin am_xor 51),
  (51, o_bin am_and 52),
  (52, o_istore 4 54),
  (54, o_iload 6 56),
  (56, o_istore 3 57),
  (57, o_iinc 5 1 60),
  (60, o_goto 8),
  (63, o_push (aI (-1)) 64),
  (64, o_iret)]
def S6_stopAt : am_E := am_S K6_stopAt 7
theorem hdd_6_stopAt : yX6_stopAt.cls ≠ "java/lang/invoke/MethodHandle" ∧ yX6_stopAt.cls ≠ "java/lang/invoke/VarHandle" ∧ (parseMethodDescriptor yX6_stopAt.desc).map (fun d => d.parameters.length) = some 2 := by decide +kernel
set_option maxRecDepth 100000 in
theorem snd_6_stopAt : am_Sound yX6_stopAt cX6_stopAt 7 (some .int) 3 73 S6_stopAt :=
  am_sound_of (own := RX6) (by decide) rfl <|
    fm_c (si_iconst dX6_stopAt_0 rfl) <|
    fm_c (si_istoren dX6_stopAt_1 rfl rfl) <|
    fm_c (si_iloadn dX6_stopAt_2 rfl) <|
    fm_c (si_istore dX6_stopAt_3 rfl) <|
    fm_c (si_iconst dX6_stopAt_5 rfl) <|
    fm_c (si_istore dX6_stopAt_6 rfl) <|
    fm_c (si_iload dX6_stopAt_8) <|
    fm_c (si_iconst dX6_stopAt_10 rfl) <|
    fm_c (si_ic_ge dX6_stopAt_11 rfl) <|
    fm_c (si_iload dX6_stopAt_14) <|
    fm_c (si_if_eq dX6_stopAt_16 rfl) <|
    fm_c (si_aloadn dX6_stopAt_19 rfl) <|
    fm_c (si_iloadn dX6_stopAt_20 rfl) <|
    fm_c (si_iload dX6_stopAt_21) <|
    fm_c (si_callv (C := RX6) (T := TX6) (N := 3) snd_6_cheapestNext rfl dX6_stopAt_23 tw_648 tw_650 tw_12 tw_76 tw_651 hdd_6_cheapestNext ⟨rfl, rfl⟩) <|
    fm_c (si_istore dX6_stopAt_26 rfl) <|
    fm_c (si_iload dX6_stopAt_28) <|
    fm_c (si_iconst dX6_stopAt_30 rfl) <|
    fm_c (si_ic_eq dX6_stopAt_31 rfl) <|
    fm_c (si_iload dX6_stopAt_34) <|
    fm_c (si_iloadn dX6_stopAt_36 rfl) <|
    fm_c (si_ic_ne dX6_stopAt_37 rfl) <|
    fm_c (si_iload dX6_stopAt_40) <|
    fm_c (si_iret rfl dX6_stopAt_42) <|
    fm_c (si_iload dX6_stopAt_43) <|
    fm_c (si_iconst dX6_stopAt_45 rfl) <|
    fm_c (si_iload dX6_stopAt_46) <|
    fm_c (si_ishl dX6_stopAt_48) <|
    fm_c (si_iconst dX6_stopAt_49 rfl) <|
    fm_c (si_ixor dX6_stopAt_50) <|
    fm_c (si_iand dX6_stopAt_51) <|
    fm_c (si_istore dX6_stopAt_52 rfl) <|
    fm_c (si_iload dX6_stopAt_54) <|
    fm_c (si_istoren dX6_stopAt_56 rfl rfl) <|
    fm_c (si_iinc dX6_stopAt_57 rfl rfl) <|
    fm_c (si_goto dX6_stopAt_60 rfl) <|
    fm_c (si_iconst dX6_stopAt_63 rfl) <|
    fm_c (si_iret rfl dX6_stopAt_64) <|
    fun _ h => absurd h List.not_mem_nil
def K11_best : List (Nat × am_O) := [(0, o_iload 1 1),
  (1, o_if (fun a => a < 0) 28 4),
  (4, o_iload 1 5),
  (5, o_push (aI 31) 7),
  (7, o_ic (fun a b => b < a) 28 10),
  (10, o_iload 1 11),
  (11, o_call SJ_bits 1 false 14),
  (14, o_push (aI 2) 15),
  (15, o_ic (fun a b => a < b) 28 18),
  (18, o_iload 2 19),
  (19, o_push (aI (-1)) 20),
  (20, o_ic (fun a b => a < b) 28 23),
  (23, o_iload 2 24),
  (24, o_push (aI 5) 25),
  (25, o_ic (fun a b => a < b) 31 28),
  (28, o_push (aI (-2)) 30),
  (30, o_iret),
  (31, o_aload 0 32),
  (32, o_getf 11 11 35),
  (35, o_aload 0 36),
  (36, o_getf 11 6 39),
  (39, o_callv S6_layOrders 6 1 true 42),
  (42, o_aload 0 43),
  (43, o_getf 11 11 46),
  (46, o_iload 1 47),
  (47, o_callv S6_solve 6 1 true 50),
  (50, o_iload 2 51),
  (51, o_push (aI (-1)) 52),
  (52, o_ic (fun a b => ¬ a = b) 67 55),
  (55, o_aload 0 56),
  (56, o_getf 11 11 59),
  (59, o_push (aI 5) 60),
  (60, o_iload 1 61),
  (61, o_callv S6_leastFrom 6 2 false 64),
  (64, o_goto 76),
  (67, o_aload 0 68),
  (68, o_getf 11 11 71),
  (71, o_iload 1 72),
  (72, o_iload 2 73),
  (73, o_callv S6_stopAt 6 2 false 76),
  (76, o_iret)]
def S11_best : am_E := am_S K11_best 3
theorem hdd_11_best : yX11_best.cls ≠ "java/lang/invoke/MethodHandle" ∧ yX11_best.cls ≠ "java/lang/invoke/VarHandle" ∧ (parseMethodDescriptor yX11_best.desc).map (fun d => d.parameters.length) = some 2 := by decide +kernel
set_option maxRecDepth 100000 in
theorem snd_11_best : am_Sound yX11_best cX11_best 3 (some .int) 4 99 S11_best :=
  am_sound_of (own := RX11) (by decide) rfl <|
    fm_c (si_iloadn dX11_best_0 rfl) <|
    fm_c (si_if_lt dX11_best_1 rfl) <|
    fm_c (si_iloadn dX11_best_4 rfl) <|
    fm_c (si_bipush dX11_best_5 rfl) <|
    fm_c (si_ic_gt dX11_best_7 rfl) <|
    fm_c (si_iloadn dX11_best_10 rfl) <|
    fm_c (si_call snd_J_bits dX11_best_11 tw_628 tw_629 tw_80 tw_630 hdd_J_bits ⟨rfl, rfl⟩) <|
    fm_c (si_iconst dX11_best_14 rfl) <|
    fm_c (si_ic_lt dX11_best_15 rfl) <|
    fm_c (si_iloadn dX11_best_18 rfl) <|
    fm_c (si_iconst dX11_best_19 rfl) <|
    fm_c (si_ic_lt dX11_best_20 rfl) <|
    fm_c (si_iloadn dX11_best_23 rfl) <|
    fm_c (si_iconst dX11_best_24 rfl) <|
    fm_c (si_ic_lt dX11_best_25 rfl) <|
    fm_c (si_bipush dX11_best_28 rfl) <|
    fm_c (si_iret rfl dX11_best_30) <|
    fm_c (si_aloadn dX11_best_31 rfl) <|
    fm_c (si_getf (C := RX11) (T := TX11) (N := 17) dX11_best_32 rfl inC_11 rfl tw_336) <|
    fm_c (si_aloadn dX11_best_35 rfl) <|
    fm_c (si_getf (C := RX11) (T := TX11) (N := 17) dX11_best_36 rfl inC_11 rfl tw_331) <|
    fm_c (si_callv (C := RX6) (T := TX6) (N := 3) snd_6_layOrders rfl dX11_best_39 tw_634 tw_635 tw_636 tw_76 tw_637 hdd_6_layOrders ⟨rfl, rfl⟩) <|
    fm_c (si_aloadn dX11_best_42 rfl) <|
    fm_c (si_getf (C := RX11) (T := TX11) (N := 17) dX11_best_43 rfl inC_11 rfl tw_336) <|
    fm_c (si_iloadn dX11_best_46 rfl) <|
    fm_c (si_callv (C := RX6) (T := TX6) (N := 3) snd_6_solve rfl dX11_best_47 tw_644 tw_645 tw_646 tw_76 tw_647 hdd_6_solve ⟨rfl, rfl⟩) <|
    fm_c (si_iloadn dX11_best_50 rfl) <|
    fm_c (si_iconst dX11_best_51 rfl) <|
    fm_c (si_ic_ne dX11_best_52 rfl) <|
    fm_c (si_aloadn dX11_best_55 rfl) <|
    fm_c (si_getf (C := RX11) (T := TX11) (N := 17) dX11_best_56 rfl inC_11 rfl tw_336) <|
    fm_c (si_iconst dX11_best_59 rfl) <|
    fm_c (si_iloadn dX11_best_60 rfl) <|
    fm_c (si_callv (C := RX6) (T := TX6) (N := 3) snd_6_leastFrom rfl dX11_best_61 tw_660 tw_657 tw_658 tw_76 tw_659 hdd_6_leastFrom ⟨rfl, rfl⟩) <|
    fm_c (si_goto dX11_best_64 rfl) <|
    fm_c (si_aloadn dX11_best_67 rfl) <|
    fm_c (si_getf (C := RX11) (T := TX11) (N := 17) dX11_best_68 rfl inC_11 rfl tw_336) <|
    fm_c (si_iloadn dX11_best_71 rfl) <|
    fm_c (si_iloadn dX11_best_72 rfl) <|
    fm_c (si_callv (C := RX6) (T := TX6) (N := 3) snd_6_stopAt rfl dX11_best_73 tw_661 tw_662 tw_663 tw_76 tw_664 hdd_6_stopAt ⟨rfl, rfl⟩) <|
    fm_c (si_iret rfl dX11_best_76) <|
    fun _ h => absurd h List.not_mem_nil
def K4_weightOf : List (Nat × am_O) := [(0, o_push (aI 0) 1),
  (1, o_istore 2 2),
  (2, o_push (aI 0) 3),
  (3, o_istore 3 4),
  (4, o_iload 3 5),
  (5, o_aload 0 6),
  (6, o_getf 4 2 9),
  (9, o_ic (fun a b => b ≤ a) 38 12),
  (12, o_iload 3 13),
  (13, o_push (aI 5) 14),
  (14, o_ic (fun a b => b ≤ a) 38 17),
  (17, o_iload 2 18),
  (18, o_iload 1 19),
  (19, o_iload 3 20),
  (20, o_sh am_shr 21),
  (21, o_push (aI 1) 22),
  (22, o_bin am_and 23),
  (23, o_aload 0 24),
  (24, o_getf 4 1 27),
  (27, o_iload 3 28),
  (28, o_iald 29),
  (29, o_bin (fun a b => w32 (a * b)) 30),
  (30, o_bin (fun a b => w32 (a + b)) 31),
  (31, o_istore 2 32),
  (32, o_iinc 3 1 35),
  (35, o_goto 4),
  (38, o_iload 2 39),
  (39, o_iret)]
def S4_weightOf : am_E := am_S K4_weightOf 4
theorem hdd_4_weightOf : yX4_weightOf.cls ≠ "java/lang/invoke/MethodHandle" ∧ yX4_weightOf.cls ≠ "java/lang/invoke/VarHandle" ∧ (parseMethodDescriptor yX4_weightOf.desc).map (fun d => d.parameters.length) = some 1 := by decide +kernel
set_option maxRecDepth 100000 in
theorem snd_4_weightOf : am_Sound yX4_weightOf cX4_weightOf 4 (some .int) 0 0 S4_weightOf :=
  am_sound_of (own := RX4) (by decide) rfl <|
    fm_c (si_iconst dX4_weightOf_0 rfl) <|
    fm_c (si_istoren dX4_weightOf_1 rfl rfl) <|
    fm_c (si_iconst dX4_weightOf_2 rfl) <|
    fm_c (si_istoren dX4_weightOf_3 rfl rfl) <|
    fm_c (si_iloadn dX4_weightOf_4 rfl) <|
    fm_c (si_aloadn dX4_weightOf_5 rfl) <|
    fm_c (si_getf (C := RX4) (T := TX4) (N := 3) dX4_weightOf_6 rfl inC_4 rfl tw_280) <|
    fm_c (si_ic_ge dX4_weightOf_9 rfl) <|
    fm_c (si_iloadn dX4_weightOf_12 rfl) <|
    fm_c (si_iconst dX4_weightOf_13 rfl) <|
    fm_c (si_ic_ge dX4_weightOf_14 rfl) <|
    fm_c (si_iloadn dX4_weightOf_17 rfl) <|
    fm_c (si_iloadn dX4_weightOf_18 rfl) <|
    fm_c (si_iloadn dX4_weightOf_19 rfl) <|
    fm_c (si_ishr dX4_weightOf_20) <|
    fm_c (si_iconst dX4_weightOf_21 rfl) <|
    fm_c (si_iand dX4_weightOf_22) <|
    fm_c (si_aloadn dX4_weightOf_23 rfl) <|
    fm_c (si_getf (C := RX4) (T := TX4) (N := 3) dX4_weightOf_24 rfl inC_4 rfl tw_279) <|
    fm_c (si_iloadn dX4_weightOf_27 rfl) <|
    fm_c (si_iald dX4_weightOf_28) <|
    fm_c (si_imul dX4_weightOf_29) <|
    fm_c (si_iadd dX4_weightOf_30) <|
    fm_c (si_istoren dX4_weightOf_31 rfl rfl) <|
    fm_c (si_iinc dX4_weightOf_32 rfl rfl) <|
    fm_c (si_goto dX4_weightOf_35 rfl) <|
    fm_c (si_iloadn dX4_weightOf_38 rfl) <|
    fm_c (si_iret rfl dX4_weightOf_39) <|
    fun _ h => absurd h List.not_mem_nil
def K6_layWeights : List (Nat × am_O) := [(0, o_push (aI 0) 1),
  (1, o_istore 2 2),
  (2, o_iload 2 3),
  (3, o_push (aI 32) 5),
  (5, o_ic (fun a b => b ≤ a) 25 8),
  (8, o_aload 0 9),
  (9, o_getf 6 1 12),
  (12, o_iload 2 13),
  (13, o_aload 1 14),
  (14, o_iload 2 15),
  (15, o_callv S4_weightOf 4 1 false 18),
  (18, o_iast 19),
  (19, o_iinc 2 1 22),
  (22, o_goto 2),
  (25, o_vret)]
def S6_layWeights : am_E := am_S K6_layWeights 3
theorem hdd_6_layWeights : yX6_layWeights.cls ≠ "java/lang/invoke/MethodHandle" ∧ yX6_layWeights.cls ≠ "java/lang/invoke/VarHandle" ∧ (parseMethodDescriptor yX6_layWeights.desc).map (fun d => d.parameters.length) = some 1 := by decide +kernel
set_option maxRecDepth 100000 in
theorem snd_6_layWeights : am_Sound yX6_layWeights cX6_layWeights 3 none 1 23 S6_layWeights :=
  am_sound_of (own := RX6) (by decide) rfl <|
    fm_c (si_iconst dX6_layWeights_0 rfl) <|
    fm_c (si_istoren dX6_layWeights_1 rfl rfl) <|
    fm_c (si_iloadn dX6_layWeights_2 rfl) <|
    fm_c (si_bipush dX6_layWeights_3 rfl) <|
    fm_c (si_ic_ge dX6_layWeights_5 rfl) <|
    fm_c (si_aloadn dX6_layWeights_8 rfl) <|
    fm_c (si_getf (C := RX6) (T := TX6) (N := 3) dX6_layWeights_9 rfl inC_6 rfl tw_296) <|
    fm_c (si_iloadn dX6_layWeights_12 rfl) <|
    fm_c (si_aloadn dX6_layWeights_13 rfl) <|
    fm_c (si_iloadn dX6_layWeights_14 rfl) <|
    fm_c (si_callv (C := RX4) (T := TX4) (N := 3) snd_4_weightOf rfl dX6_layWeights_15 tw_798 tw_799 tw_800 tw_75 tw_801 hdd_4_weightOf ⟨rfl, rfl⟩) <|
    fm_c (si_iast dX6_layWeights_18) <|
    fm_c (si_iinc dX6_layWeights_19 rfl rfl) <|
    fm_c (si_goto dX6_layWeights_22 rfl) <|
    fm_c (si_vret rfl dX6_layWeights_25) <|
    fun _ h => absurd h List.not_mem_nil
def K4_placeOf : List (Nat × am_O) := [(0, o_iload 1 1),
  (1, o_if (fun a => a < 0) 26 4),
  (4, o_iload 1 5),
  (5, o_aload 0 6),
  (6, o_getf 4 2 9),
  (9, o_ic (fun a b => b ≤ a) 26 12),
  (12, o_iload 1 13),
  (13, o_push (aI 5) 14),
  (14, o_ic (fun a b => b ≤ a) 26 17),
  (17, o_aload 0 18),
  (18, o_getf 4 0 21),
  (21, o_iload 1 22),
  (22, o_iald 23),
  (23, o_goto 27),
  (26, o_push (aI (-1)) 27),
  (27, o_iret)]
def S4_placeOf : am_E := am_S K4_placeOf 2
theorem hdd_4_placeOf : yX4_placeOf.cls ≠ "java/lang/invoke/MethodHandle" ∧ yX4_placeOf.cls ≠ "java/lang/invoke/VarHandle" ∧ (parseMethodDescriptor yX4_placeOf.desc).map (fun d => d.parameters.length) = some 1 := by decide +kernel
set_option maxRecDepth 100000 in
theorem snd_4_placeOf : am_Sound yX4_placeOf cX4_placeOf 2 (some .int) 0 0 S4_placeOf :=
  am_sound_of (own := RX4) (by decide) rfl <|
    fm_c (si_iloadn dX4_placeOf_0 rfl) <|
    fm_c (si_if_lt dX4_placeOf_1 rfl) <|
    fm_c (si_iloadn dX4_placeOf_4 rfl) <|
    fm_c (si_aloadn dX4_placeOf_5 rfl) <|
    fm_c (si_getf (C := RX4) (T := TX4) (N := 3) dX4_placeOf_6 rfl inC_4 rfl tw_280) <|
    fm_c (si_ic_ge dX4_placeOf_9 rfl) <|
    fm_c (si_iloadn dX4_placeOf_12 rfl) <|
    fm_c (si_iconst dX4_placeOf_13 rfl) <|
    fm_c (si_ic_ge dX4_placeOf_14 rfl) <|
    fm_c (si_aloadn dX4_placeOf_17 rfl) <|
    fm_c (si_getf (C := RX4) (T := TX4) (N := 3) dX4_placeOf_18 rfl inC_4 rfl tw_278) <|
    fm_c (si_iloadn dX4_placeOf_21 rfl) <|
    fm_c (si_iald dX4_placeOf_22) <|
    fm_c (si_goto dX4_placeOf_23 rfl) <|
    fm_c (si_iconst dX4_placeOf_26 rfl) <|
    fm_c (si_iret rfl dX4_placeOf_27) <|
    fun _ h => absurd h List.not_mem_nil
def K11_layLegs : List (Nat × am_O) := [(0, o_push (aI 1) 1),
  (1, o_istore 3 2),
  (2, o_aload 0 3),
  (3, o_getf 11 4 6),
  (6, o_iload 2 7),
  (7, o_callv S0_measureFrom 0 1 true 10),
  (10, o_push (aI 0) 11),
  (11, o_istore 4 13),
  (13, o_iload 4 15),
  (15, o_aload 0 16),
  (16, o_getf 11 10 19),
  (19, o_getf 4 2 22),
  (22, o_ic (fun a b => b ≤ a) 77 25),
  (25, o_aload 0 26),
  (26, o_getf 11 4 29),
  (29, o_aload 0 30),
  (30, o_getf 11 10 33),
  (33, o_iload 4 35),
  (35, o_callv S4_placeOf 4 1 false 38),
  (38, o_callv S0_stepsTo 0 1 false 41),
  (41, o_istore 5 43),
  (43, o_aload 0 44),
  (44, o_getf 11 11 47),
  (47, o_iload 1 48),
  (48, o_iload 4 50),
  (50, o_iload 5 52),
  (52, o_callv S6_putLeg 6 3 true 55),
  (55, o_iload 3 56),
  (56, o_if (fun a => a = 0) 69 59),
  (59, o_iload 5 61),
  (61, o_push (aI (-1)) 62),
  (62, o_ic (fun a b => a = b) 69 65),
  (65, o_push (aI 1) 66),
  (66, o_goto 70),
  (69, o_push (aI 0) 70),
  (70, o_istore 3 71),
  (71, o_iinc 4 1 74),
  (74, o_goto 13),
  (77, o_iload 3 78),
  (78, o_zret)]
def S11_layLegs : am_E := am_S K11_layLegs 6
theorem hdd_11_layLegs : yX11_layLegs.cls ≠ "java/lang/invoke/MethodHandle" ∧ yX11_layLegs.cls ≠ "java/lang/invoke/VarHandle" ∧ (parseMethodDescriptor yX11_layLegs.desc).map (fun d => d.parameters.length) = some 2 := by decide +kernel
set_option maxRecDepth 100000 in
theorem snd_11_layLegs : am_Sound yX11_layLegs cX11_layLegs 6 (some .boolean) 2 49 S11_layLegs :=
  am_sound_of (own := RX11) (by decide) rfl <|
    fm_c (si_iconst dX11_layLegs_0 rfl) <|
    fm_c (si_istoren dX11_layLegs_1 rfl rfl) <|
    fm_c (si_aloadn dX11_layLegs_2 rfl) <|
    fm_c (si_getf (C := RX11) (T := TX11) (N := 17) dX11_layLegs_3 rfl inC_11 rfl tw_329) <|
    fm_c (si_iloadn dX11_layLegs_6 rfl) <|
    fm_c (si_callv (C := RX0) (T := TX0) (N := 3) snd_0_measureFrom rfl dX11_layLegs_7 tw_534 tw_535 tw_536 tw_69 tw_537 hdd_0_measureFrom ⟨rfl, rfl⟩) <|
    fm_c (si_iconst dX11_layLegs_10 rfl) <|
    fm_c (si_istore dX11_layLegs_11 rfl) <|
    fm_c (si_iload dX11_layLegs_13) <|
    fm_c (si_aloadn dX11_layLegs_15 rfl) <|
    fm_c (si_getf (C := RX11) (T := TX11) (N := 17) dX11_layLegs_16 rfl inC_11 rfl tw_335) <|
    fm_c (si_getf (C := RX4) (T := TX4) (N := 3) dX11_layLegs_19 rfl inC_4 rfl tw_281) <|
    fm_c (si_ic_ge dX11_layLegs_22 rfl) <|
    fm_c (si_aloadn dX11_layLegs_25 rfl) <|
    fm_c (si_getf (C := RX11) (T := TX11) (N := 17) dX11_layLegs_26 rfl inC_11 rfl tw_329) <|
    fm_c (si_aloadn dX11_layLegs_29 rfl) <|
    fm_c (si_getf (C := RX11) (T := TX11) (N := 17) dX11_layLegs_30 rfl inC_11 rfl tw_335) <|
    fm_c (si_iload dX11_layLegs_33) <|
    fm_c (si_callv (C := RX4) (T := TX4) (N := 3) snd_4_placeOf rfl dX11_layLegs_35 tw_802 tw_803 tw_804 tw_75 tw_805 hdd_4_placeOf ⟨rfl, rfl⟩) <|
    fm_c (si_callv (C := RX0) (T := TX0) (N := 3) snd_0_stepsTo rfl dX11_layLegs_38 tw_541 tw_542 tw_543 tw_69 tw_544 hdd_0_stepsTo ⟨rfl, rfl⟩) <|
    fm_c (si_istore dX11_layLegs_41 rfl) <|
    fm_c (si_aloadn dX11_layLegs_43 rfl) <|
    fm_c (si_getf (C := RX11) (T := TX11) (N := 17) dX11_layLegs_44 rfl inC_11 rfl tw_336) <|
    fm_c (si_iloadn dX11_layLegs_47 rfl) <|
    fm_c (si_iload dX11_layLegs_48) <|
    fm_c (si_iload dX11_layLegs_50) <|
    fm_c (si_callv (C := RX6) (T := TX6) (N := 3) snd_6_putLeg rfl dX11_layLegs_52 tw_810 tw_641 tw_642 tw_76 tw_643 hdd_6_putLeg ⟨rfl, rfl⟩) <|
    fm_c (si_iloadn dX11_layLegs_55 rfl) <|
    fm_c (si_if_eq dX11_layLegs_56 rfl) <|
    fm_c (si_iload dX11_layLegs_59) <|
    fm_c (si_iconst dX11_layLegs_61 rfl) <|
    fm_c (si_ic_eq dX11_layLegs_62 rfl) <|
    fm_c (si_iconst dX11_layLegs_65 rfl) <|
    fm_c (si_goto dX11_layLegs_66 rfl) <|
    fm_c (si_iconst dX11_layLegs_69 rfl) <|
    fm_c (si_istoren dX11_layLegs_70 rfl rfl) <|
    fm_c (si_iinc dX11_layLegs_71 rfl rfl) <|
    fm_c (si_goto dX11_layLegs_74 rfl) <|
    fm_c (si_iloadn dX11_layLegs_77 rfl) <|
    fm_c (si_zret rfl dX11_layLegs_78) <|
    fun _ h => absurd h List.not_mem_nil
def K3_standOf : List (Nat × am_O) := [(0, o_iload 1 1),
  (1, o_call S3_isPerson 1 false 4),
  (4, o_if (fun a => a = 0) 16 7),
  (7, o_aload 0 8),
  (8, o_getf 3 2 11),
  (11, o_iload 1 12),
  (12, o_iald 13),
  (13, o_goto 17),
  (16, o_push (aI (-1)) 17),
  (17, o_iret)]
def S3_standOf : am_E := am_S K3_standOf 2
theorem hdd_3_standOf : yX3_standOf.cls ≠ "java/lang/invoke/MethodHandle" ∧ yX3_standOf.cls ≠ "java/lang/invoke/VarHandle" ∧ (parseMethodDescriptor yX3_standOf.desc).map (fun d => d.parameters.length) = some 1 := by decide +kernel
set_option maxRecDepth 100000 in
theorem snd_3_standOf : am_Sound yX3_standOf cX3_standOf 2 (some .int) 1 20 S3_standOf :=
  am_sound_of (own := RX3) (by decide) rfl <|
    fm_c (si_iloadn dX3_standOf_0 rfl) <|
    fm_c (si_call snd_3_isPerson dX3_standOf_1 tw_434 tw_435 tw_71 tw_436 hdd_3_isPerson ⟨rfl, rfl⟩) <|
    fm_c (si_if_eq dX3_standOf_4 rfl) <|
    fm_c (si_aloadn dX3_standOf_7 rfl) <|
    fm_c (si_getf (C := RX3) (T := TX3) (N := 5) dX3_standOf_8 rfl inC_3 rfl tw_177) <|
    fm_c (si_iloadn dX3_standOf_11 rfl) <|
    fm_c (si_iald dX3_standOf_12) <|
    fm_c (si_goto dX3_standOf_13 rfl) <|
    fm_c (si_iconst dX3_standOf_16 rfl) <|
    fm_c (si_iret rfl dX3_standOf_17) <|
    fun _ h => absurd h List.not_mem_nil
def K11_canSeek : List (Nat × am_O) := [(0, o_aload 0 1),
  (1, o_getf 11 10 4),
  (4, o_getf 4 2 7),
  (7, o_if (fun a => ¬ a = 0) 12 10),
  (10, o_push (aI 0) 11),
  (11, o_zret),
  (12, o_aload 0 13),
  (13, o_getf 11 11 16),
  (16, o_aload 0 17),
  (17, o_getf 11 10 20),
  (20, o_callv S6_layWeights 6 1 true 23),
  (23, o_push (aI 0) 24),
  (24, o_istore 3 25),
  (25, o_iload 3 26),
  (26, o_aload 0 27),
  (27, o_getf 11 10 30),
  (30, o_getf 4 2 33),
  (33, o_ic (fun a b => b ≤ a) 56 36),
  (36, o_aload 0 37),
  (37, o_iload 3 38),
  (38, o_aload 0 39),
  (39, o_getf 11 10 42),
  (42, o_iload 3 43),
  (43, o_callv S4_placeOf 4 1 false 46),
  (46, o_callv S11_layLegs 11 2 false 49),
  (49, o_pop 50),
  (50, o_iinc 3 1 53),
  (53, o_goto 25),
  (56, o_aload 0 57),
  (57, o_push (aI 5) 58),
  (58, o_aload 0 59),
  (59, o_getf 11 6 62),
  (62, o_iload 1 63),
  (63, o_callv S3_standOf 3 1 false 66),
  (66, o_callv S11_layLegs 11 2 false 69),
  (69, o_if (fun a => a = 0) 93 72),
  (72, o_aload 0 73),
  (73, o_push (aI 6) 75),
  (75, o_aload 0 76),
  (76, o_getf 11 6 79),
  (79, o_iload 2 80),
  (80, o_callv S3_standOf 3 1 false 83),
  (83, o_callv S11_layLegs 11 2 false 86),
  (86, o_if (fun a => a = 0) 93 89),
  (89, o_push (aI 1) 90),
  (90, o_goto 94),
  (93, o_push (aI 0) 94),
  (94, o_zret)]
def S11_canSeek : am_E := am_S K11_canSeek 4
theorem hdd_11_canSeek : yX11_canSeek.cls ≠ "java/lang/invoke/MethodHandle" ∧ yX11_canSeek.cls ≠ "java/lang/invoke/VarHandle" ∧ (parseMethodDescriptor yX11_canSeek.desc).map (fun d => d.parameters.length) = some 2 := by decide +kernel
set_option maxRecDepth 100000 in
theorem snd_11_canSeek : am_Sound yX11_canSeek cX11_canSeek 4 (some .boolean) 3 74 S11_canSeek :=
  am_sound_of (own := RX11) (by decide) rfl <|
    fm_c (si_aloadn dX11_canSeek_0 rfl) <|
    fm_c (si_getf (C := RX11) (T := TX11) (N := 17) dX11_canSeek_1 rfl inC_11 rfl tw_335) <|
    fm_c (si_getf (C := RX4) (T := TX4) (N := 3) dX11_canSeek_4 rfl inC_4 rfl tw_281) <|
    fm_c (si_if_ne dX11_canSeek_7 rfl) <|
    fm_c (si_iconst dX11_canSeek_10 rfl) <|
    fm_c (si_zret rfl dX11_canSeek_11) <|
    fm_c (si_aloadn dX11_canSeek_12 rfl) <|
    fm_c (si_getf (C := RX11) (T := TX11) (N := 17) dX11_canSeek_13 rfl inC_11 rfl tw_336) <|
    fm_c (si_aloadn dX11_canSeek_16 rfl) <|
    fm_c (si_getf (C := RX11) (T := TX11) (N := 17) dX11_canSeek_17 rfl inC_11 rfl tw_335) <|
    fm_c (si_callv (C := RX6) (T := TX6) (N := 3) snd_6_layWeights rfl dX11_canSeek_20 tw_794 tw_795 tw_796 tw_76 tw_797 hdd_6_layWeights ⟨rfl, rfl⟩) <|
    fm_c (si_iconst dX11_canSeek_23 rfl) <|
    fm_c (si_istoren dX11_canSeek_24 rfl rfl) <|
    fm_c (si_iloadn dX11_canSeek_25 rfl) <|
    fm_c (si_aloadn dX11_canSeek_26 rfl) <|
    fm_c (si_getf (C := RX11) (T := TX11) (N := 17) dX11_canSeek_27 rfl inC_11 rfl tw_335) <|
    fm_c (si_getf (C := RX4) (T := TX4) (N := 3) dX11_canSeek_30 rfl inC_4 rfl tw_281) <|
    fm_c (si_ic_ge dX11_canSeek_33 rfl) <|
    fm_c (si_aloadn dX11_canSeek_36 rfl) <|
    fm_c (si_iloadn dX11_canSeek_37 rfl) <|
    fm_c (si_aloadn dX11_canSeek_38 rfl) <|
    fm_c (si_getf (C := RX11) (T := TX11) (N := 17) dX11_canSeek_39 rfl inC_11 rfl tw_335) <|
    fm_c (si_iloadn dX11_canSeek_42 rfl) <|
    fm_c (si_callv (C := RX4) (T := TX4) (N := 3) snd_4_placeOf rfl dX11_canSeek_43 tw_802 tw_803 tw_804 tw_75 tw_805 hdd_4_placeOf ⟨rfl, rfl⟩) <|
    fm_c (si_callv (C := RX11) (T := TX11) (N := 17) snd_11_layLegs rfl dX11_canSeek_46 tw_806 tw_808 tw_20 tw_65 tw_809 hdd_11_layLegs ⟨rfl, rfl⟩) <|
    fm_c (si_pop dX11_canSeek_49) <|
    fm_c (si_iinc dX11_canSeek_50 rfl rfl) <|
    fm_c (si_goto dX11_canSeek_53 rfl) <|
    fm_c (si_aloadn dX11_canSeek_56 rfl) <|
    fm_c (si_iconst dX11_canSeek_57 rfl) <|
    fm_c (si_aloadn dX11_canSeek_58 rfl) <|
    fm_c (si_getf (C := RX11) (T := TX11) (N := 17) dX11_canSeek_59 rfl inC_11 rfl tw_331) <|
    fm_c (si_iloadn dX11_canSeek_62 rfl) <|
    fm_c (si_callv (C := RX3) (T := TX3) (N := 5) snd_3_standOf rfl dX11_canSeek_63 tw_811 tw_812 tw_813 tw_71 tw_814 hdd_3_standOf ⟨rfl, rfl⟩) <|
    fm_c (si_callv (C := RX11) (T := TX11) (N := 17) snd_11_layLegs rfl dX11_canSeek_66 tw_806 tw_808 tw_20 tw_65 tw_809 hdd_11_layLegs ⟨rfl, rfl⟩) <|
    fm_c (si_if_eq dX11_canSeek_69 rfl) <|
    fm_c (si_aloadn dX11_canSeek_72 rfl) <|
    fm_c (si_bipush dX11_canSeek_73 rfl) <|
    fm_c (si_aloadn dX11_canSeek_75 rfl) <|
    fm_c (si_getf (C := RX11) (T := TX11) (N := 17) dX11_canSeek_76 rfl inC_11 rfl tw_331) <|
    fm_c (si_iloadn dX11_canSeek_79 rfl) <|
    fm_c (si_callv (C := RX3) (T := TX3) (N := 5) snd_3_standOf rfl dX11_canSeek_80 tw_811 tw_812 tw_813 tw_71 tw_814 hdd_3_standOf ⟨rfl, rfl⟩) <|
    fm_c (si_callv (C := RX11) (T := TX11) (N := 17) snd_11_layLegs rfl dX11_canSeek_83 tw_806 tw_808 tw_20 tw_65 tw_809 hdd_11_layLegs ⟨rfl, rfl⟩) <|
    fm_c (si_if_eq dX11_canSeek_86 rfl) <|
    fm_c (si_iconst dX11_canSeek_89 rfl) <|
    fm_c (si_goto dX11_canSeek_90 rfl) <|
    fm_c (si_iconst dX11_canSeek_93 rfl) <|
    fm_c (si_zret rfl dX11_canSeek_94) <|
    fun _ h => absurd h List.not_mem_nil
def K11_comeFrom : List (Nat × am_O) := [(0, o_aload 0 1),
  (1, o_getf 11 4 4),
  (4, o_iload 1 5),
  (5, o_callv S0_measureFrom 0 1 true 8),
  (8, o_push (aI 0) 9),
  (9, o_istore 2 10),
  (10, o_iload 2 11),
  (11, o_push (aI 64) 13),
  (13, o_ic (fun a b => b ≤ a) 78 16),
  (16, o_aload 0 17),
  (17, o_getf 11 4 20),
  (20, o_iload 2 21),
  (21, o_callv S0_stepsTo 0 1 false 24),
  (24, o_istore 3 25),
  (25, o_iload 3 26),
  (26, o_push (aI (-1)) 27),
  (27, o_ic (fun a b => a = b) 40 30),
  (30, o_aload 0 31),
  (31, o_getf 11 13 34),
  (34, o_iload 2 35),
  (35, o_iald 36),
  (36, o_push (aI (-1)) 37),
  (37, o_ic (fun a b => ¬ a = b) 44 40),
  (40, o_push (aI 1) 41),
  (41, o_goto 45),
  (44, o_push (aI 0) 45),
  (45, o_istore 4 47),
  (47, o_aload 0 48),
  (48, o_getf 11 13 51),
  (51, o_iload 2 52),
  (52, o_iload 4 54),
  (54, o_if (fun a => a = 0) 61 57),
  (57, o_push (aI (-1)) 58),
  (58, o_goto 71),
  (61, o_aload 0 62),
  (62, o_getf 11 13 65),
  (65, o_iload 2 66),
  (66, o_iald 67),
  (67, o_iload 3 68),
  (68, o_max 71),
  (71, o_iast 72),
  (72, o_iinc 2 1 75),
  (75, o_goto 10),
  (78, o_vret)]
def S11_comeFrom : am_E := am_S K11_comeFrom 5
theorem hdd_11_comeFrom : yX11_comeFrom.cls ≠ "java/lang/invoke/MethodHandle" ∧ yX11_comeFrom.cls ≠ "java/lang/invoke/VarHandle" ∧ (parseMethodDescriptor yX11_comeFrom.desc).map (fun d => d.parameters.length) = some 1 := by decide +kernel
set_option maxRecDepth 100000 in
theorem snd_11_comeFrom : am_Sound yX11_comeFrom cX11_comeFrom 5 none 2 49 S11_comeFrom :=
  am_sound_of (own := RX11) (by decide) rfl <|
    fm_c (si_aloadn dX11_comeFrom_0 rfl) <|
    fm_c (si_getf (C := RX11) (T := TX11) (N := 17) dX11_comeFrom_1 rfl inC_11 rfl tw_329) <|
    fm_c (si_iloadn dX11_comeFrom_4 rfl) <|
    fm_c (si_callv (C := RX0) (T := TX0) (N := 3) snd_0_measureFrom rfl dX11_comeFrom_5 tw_534 tw_535 tw_536 tw_69 tw_537 hdd_0_measureFrom ⟨rfl, rfl⟩) <|
    fm_c (si_iconst dX11_comeFrom_8 rfl) <|
    fm_c (si_istoren dX11_comeFrom_9 rfl rfl) <|
    fm_c (si_iloadn dX11_comeFrom_10 rfl) <|
    fm_c (si_bipush dX11_comeFrom_11 rfl) <|
    fm_c (si_ic_ge dX11_comeFrom_13 rfl) <|
    fm_c (si_aloadn dX11_comeFrom_16 rfl) <|
    fm_c (si_getf (C := RX11) (T := TX11) (N := 17) dX11_comeFrom_17 rfl inC_11 rfl tw_329) <|
    fm_c (si_iloadn dX11_comeFrom_20 rfl) <|
    fm_c (si_callv (C := RX0) (T := TX0) (N := 3) snd_0_stepsTo rfl dX11_comeFrom_21 tw_541 tw_542 tw_543 tw_69 tw_544 hdd_0_stepsTo ⟨rfl, rfl⟩) <|
    fm_c (si_istoren dX11_comeFrom_24 rfl rfl) <|
    fm_c (si_iloadn dX11_comeFrom_25 rfl) <|
    fm_c (si_iconst dX11_comeFrom_26 rfl) <|
    fm_c (si_ic_eq dX11_comeFrom_27 rfl) <|
    fm_c (si_aloadn dX11_comeFrom_30 rfl) <|
    fm_c (si_getf (C := RX11) (T := TX11) (N := 17) dX11_comeFrom_31 rfl inC_11 rfl tw_338) <|
    fm_c (si_iloadn dX11_comeFrom_34 rfl) <|
    fm_c (si_iald dX11_comeFrom_35) <|
    fm_c (si_iconst dX11_comeFrom_36 rfl) <|
    fm_c (si_ic_ne dX11_comeFrom_37 rfl) <|
    fm_c (si_iconst dX11_comeFrom_40 rfl) <|
    fm_c (si_goto dX11_comeFrom_41 rfl) <|
    fm_c (si_iconst dX11_comeFrom_44 rfl) <|
    fm_c (si_istore dX11_comeFrom_45 rfl) <|
    fm_c (si_aloadn dX11_comeFrom_47 rfl) <|
    fm_c (si_getf (C := RX11) (T := TX11) (N := 17) dX11_comeFrom_48 rfl inC_11 rfl tw_338) <|
    fm_c (si_iloadn dX11_comeFrom_51 rfl) <|
    fm_c (si_iload dX11_comeFrom_52) <|
    fm_c (si_if_eq dX11_comeFrom_54 rfl) <|
    fm_c (si_iconst dX11_comeFrom_57 rfl) <|
    fm_c (si_goto dX11_comeFrom_58 rfl) <|
    fm_c (si_aloadn dX11_comeFrom_61 rfl) <|
    fm_c (si_getf (C := RX11) (T := TX11) (N := 17) dX11_comeFrom_62 rfl inC_11 rfl tw_338) <|
    fm_c (si_iloadn dX11_comeFrom_65 rfl) <|
    fm_c (si_iald dX11_comeFrom_66) <|
    fm_c (si_iloadn dX11_comeFrom_67 rfl) <|
    fm_c (si_max dX11_comeFrom_68 tw_842 tw_608 tw_79 tw_609 ⟨rfl, rfl⟩) <|
    fm_c (si_iast dX11_comeFrom_71) <|
    fm_c (si_iinc dX11_comeFrom_72 rfl rfl) <|
    fm_c (si_goto dX11_comeFrom_75 rfl) <|
    fm_c (si_vret rfl dX11_comeFrom_78) <|
    fun _ h => absurd h List.not_mem_nil
def K11_sheetOf : List (Nat × am_O) := [(0, o_iload 1 1),
  (1, o_if (fun a => a < 0) 18 4),
  (4, o_iload 1 5),
  (5, o_push (aI 4) 6),
  (6, o_ic (fun a b => b ≤ a) 18 9),
  (9, o_aload 0 10),
  (10, o_getf 11 12 13),
  (13, o_iload 1 14),
  (14, o_aald 15),
  (15, o_goto 19),
  (18, o_push aN 19),
  (19, o_aret)]
def S11_sheetOf : am_E := am_S K11_sheetOf 2
theorem hdd_11_sheetOf : yX11_sheetOf.cls ≠ "java/lang/invoke/MethodHandle" ∧ yX11_sheetOf.cls ≠ "java/lang/invoke/VarHandle" ∧ (parseMethodDescriptor yX11_sheetOf.desc).map (fun d => d.parameters.length) = some 1 := by decide +kernel
set_option maxRecDepth 100000 in
theorem snd_11_sheetOf : am_Sound yX11_sheetOf cX11_sheetOf 2 (some (.object "HandInHand$Sheet")) 0 0 S11_sheetOf :=
  am_sound_of (own := RX11) (by decide) rfl <|
    fm_c (si_iloadn dX11_sheetOf_0 rfl) <|
    fm_c (si_if_lt dX11_sheetOf_1 rfl) <|
    fm_c (si_iloadn dX11_sheetOf_4 rfl) <|
    fm_c (si_iconst dX11_sheetOf_5 rfl) <|
    fm_c (si_ic_ge dX11_sheetOf_6 rfl) <|
    fm_c (si_aloadn dX11_sheetOf_9 rfl) <|
    fm_c (si_getf (C := RX11) (T := TX11) (N := 17) dX11_sheetOf_10 rfl inC_11 rfl tw_337) <|
    fm_c (si_iloadn dX11_sheetOf_13 rfl) <|
    fm_c (si_aald dX11_sheetOf_14) <|
    fm_c (si_goto dX11_sheetOf_15 rfl) <|
    fm_c (si_null dX11_sheetOf_18) <|
    fm_c (si_aret rfl dX11_sheetOf_19) <|
    fun _ h => absurd h List.not_mem_nil
def K7_isLost : List (Nat × am_O) := [(0, o_aload 0 1),
  (1, o_getf 7 1 4),
  (4, o_push (aI (-1)) 5),
  (5, o_ic (fun a b => ¬ a = b) 12 8),
  (8, o_push (aI 1) 9),
  (9, o_goto 13),
  (12, o_push (aI 0) 13),
  (13, o_zret)]
def S7_isLost : am_E := am_S K7_isLost 1
theorem hdd_7_isLost : yX7_isLost.cls ≠ "java/lang/invoke/MethodHandle" ∧ yX7_isLost.cls ≠ "java/lang/invoke/VarHandle" ∧ (parseMethodDescriptor yX7_isLost.desc).map (fun d => d.parameters.length) = some 0 := by decide +kernel
set_option maxRecDepth 100000 in
theorem snd_7_isLost : am_Sound yX7_isLost cX7_isLost 1 (some .boolean) 0 0 S7_isLost :=
  am_sound_of (own := RX7) (by decide) rfl <|
    fm_c (si_aloadn dX7_isLost_0 rfl) <|
    fm_c (si_getf (C := RX7) (T := TX7) (N := 3) dX7_isLost_1 rfl inC_7 rfl tw_314) <|
    fm_c (si_iconst dX7_isLost_4 rfl) <|
    fm_c (si_ic_ne dX7_isLost_5 rfl) <|
    fm_c (si_iconst dX7_isLost_8 rfl) <|
    fm_c (si_goto dX7_isLost_9 rfl) <|
    fm_c (si_iconst dX7_isLost_12 rfl) <|
    fm_c (si_zret rfl dX7_isLost_13) <|
    fun _ h => absurd h List.not_mem_nil
def K11_found : List (Nat × am_O) := [(0, o_aload 0 1),
  (1, o_iload 1 2),
  (2, o_putI 11 16 5),
  (5, o_push (aI (-10)) 7),
  (7, o_iload 1 8),
  (8, o_bin (fun a b => w32 (a - b)) 9),
  (9, o_iret)]
def S11_found : am_E := am_S K11_found 2
theorem hdd_11_found : yX11_found.cls ≠ "java/lang/invoke/MethodHandle" ∧ yX11_found.cls ≠ "java/lang/invoke/VarHandle" ∧ (parseMethodDescriptor yX11_found.desc).map (fun d => d.parameters.length) = some 1 := by decide +kernel
set_option maxRecDepth 100000 in
theorem snd_11_found : am_Sound yX11_found cX11_found 2 (some .int) 0 0 S11_found :=
  am_sound_of (own := RX11) (by decide) rfl <|
    fm_c (si_aloadn dX11_found_0 rfl) <|
    fm_c (si_iloadn dX11_found_1 rfl) <|
    fm_c (si_putI (C := RX11) (T := TX11) (N := 17) dX11_found_2 rfl inC_11 tyX11 tyX11_ok nmX11 rfl tw_341 rfl (tyX11_ok 16 (by decide))) <|
    fm_c (si_bipush dX11_found_5 rfl) <|
    fm_c (si_iloadn dX11_found_7 rfl) <|
    fm_c (si_isub dX11_found_8) <|
    fm_c (si_iret rfl dX11_found_9) <|
    fun _ h => absurd h List.not_mem_nil
def K7_hasRun : List (Nat × am_O) := [(0, o_iload 1 1),
  (1, o_if (fun a => a < 0) 22 4),
  (4, o_iload 2 5),
  (5, o_if (fun a => a < 0) 22 8),
  (8, o_iload 1 9),
  (9, o_aload 0 10),
  (10, o_getf 7 2 13),
  (13, o_iload 2 14),
  (14, o_bin (fun a b => w32 (a - b)) 15),
  (15, o_ic (fun a b => b < a) 22 18),
  (18, o_push (aI 1) 19),
  (19, o_goto 23),
  (22, o_push (aI 0) 23),
  (23, o_zret)]
def S7_hasRun : am_E := am_S K7_hasRun 3
theorem hdd_7_hasRun : yX7_hasRun.cls ≠ "java/lang/invoke/MethodHandle" ∧ yX7_hasRun.cls ≠ "java/lang/invoke/VarHandle" ∧ (parseMethodDescriptor yX7_hasRun.desc).map (fun d => d.parameters.length) = some 2 := by decide +kernel
set_option maxRecDepth 100000 in
theorem snd_7_hasRun : am_Sound yX7_hasRun cX7_hasRun 3 (some .boolean) 0 0 S7_hasRun :=
  am_sound_of (own := RX7) (by decide) rfl <|
    fm_c (si_iloadn dX7_hasRun_0 rfl) <|
    fm_c (si_if_lt dX7_hasRun_1 rfl) <|
    fm_c (si_iloadn dX7_hasRun_4 rfl) <|
    fm_c (si_if_lt dX7_hasRun_5 rfl) <|
    fm_c (si_iloadn dX7_hasRun_8 rfl) <|
    fm_c (si_aloadn dX7_hasRun_9 rfl) <|
    fm_c (si_getf (C := RX7) (T := TX7) (N := 3) dX7_hasRun_10 rfl inC_7 rfl tw_316) <|
    fm_c (si_iloadn dX7_hasRun_13 rfl) <|
    fm_c (si_isub dX7_hasRun_14) <|
    fm_c (si_ic_gt dX7_hasRun_15 rfl) <|
    fm_c (si_iconst dX7_hasRun_18 rfl) <|
    fm_c (si_goto dX7_hasRun_19 rfl) <|
    fm_c (si_iconst dX7_hasRun_22 rfl) <|
    fm_c (si_zret rfl dX7_hasRun_23) <|
    fun _ h => absurd h List.not_mem_nil
def K11_copy : List (Nat × am_O) := [(0, o_aload 0 1),
  (1, o_iload 1 2),
  (2, o_callv S11_sheetOf 11 1 false 5),
  (5, o_astore 6 7),
  (7, o_aload 0 8),
  (8, o_iload 3 9),
  (9, o_callv S11_sheetOf 11 1 false 12),
  (12, o_astore 7 14),
  (14, o_aload 6 16),
  (16, o_nul 24 19),
  (19, o_aload 7 21),
  (21, o_nul 24 27),
  (24, o_push (aI (-2)) 26),
  (26, o_iret),
  (27, o_aload 6 29),
  (29, o_callv S7_isLost 7 0 false 32),
  (32, o_if (fun a => ¬ a = 0) 43 35),
  (35, o_aload 7 37),
  (37, o_callv S7_isLost 7 0 false 40),
  (40, o_if (fun a => a = 0) 49 43),
  (43, o_aload 0 44),
  (44, o_push (aI 1) 45),
  (45, o_callv S11_found 11 1 false 48),
  (48, o_iret),
  (49, o_aload 6 51),
  (51, o_getf 7 1 54),
  (54, o_aload 7 56),
  (56, o_getf 7 1 59),
  (59, o_ic (fun a b => a = b) 68 62),
  (62, o_aload 0 63),
  (63, o_push (aI 4) 64),
  (64, o_callv S11_found 11 1 false 67),
  (67, o_iret),
  (68, o_aload 6 70),
  (70, o_iload 2 71),
  (71, o_iload 5 73),
  (73, o_callv S7_hasRun 7 2 false 76),
  (76, o_if (fun a => a = 0) 91 79),
  (79, o_aload 7 81),
  (81, o_iload 4 83),
  (83, o_iload 5 85),
  (85, o_callv S7_hasRun 7 2 false 88),
  (88, o_if (fun a => ¬ a = 0) 97 91),
  (91, o_aload 0 92),
  (92, o_push (aI 2) 93),
  (93, o_callv S11_found 11 1 false 96),
  (96, o_iret),
  (97, o_aload 6 99),
  (99, o_getf 7 0 102),
  (102, o_iload 2 103),
  (103, o_aload 7 105),
  (105, o_getf 7 0 108),
  (108, o_iload 4 110),
  (110, o_iload 5 112),
  (112, o_acpy 0 115),
  (115, o_push (aI 1) 116),
  (116, o_iret)]
def S11_copy : am_E := am_S K11_copy 8
theorem hdd_11_copy : yX11_copy.cls ≠ "java/lang/invoke/MethodHandle" ∧ yX11_copy.cls ≠ "java/lang/invoke/VarHandle" ∧ (parseMethodDescriptor yX11_copy.desc).map (fun d => d.parameters.length) = some 5 := by decide +kernel
set_option maxRecDepth 100000 in
theorem snd_11_copy : am_Sound yX11_copy cX11_copy 8 (some .int) 1 26 S11_copy :=
  am_sound_of (own := RX11) (by decide) rfl <|
    fm_c (si_aloadn dX11_copy_0 rfl) <|
    fm_c (si_iloadn dX11_copy_1 rfl) <|
    fm_c (si_callv (C := RX11) (T := TX11) (N := 17) snd_11_sheetOf rfl dX11_copy_2 tw_488 tw_490 tw_5 tw_65 tw_491 hdd_11_sheetOf ⟨rfl, rfl⟩) <|
    fm_c (si_astore dX11_copy_5 rfl) <|
    fm_c (si_aloadn dX11_copy_7 rfl) <|
    fm_c (si_iloadn dX11_copy_8 rfl) <|
    fm_c (si_callv (C := RX11) (T := TX11) (N := 17) snd_11_sheetOf rfl dX11_copy_9 tw_488 tw_490 tw_5 tw_65 tw_491 hdd_11_sheetOf ⟨rfl, rfl⟩) <|
    fm_c (si_astore dX11_copy_12 rfl) <|
    fm_c (si_aload dX11_copy_14) <|
    fm_c (si_ifnull dX11_copy_16 rfl) <|
    fm_c (si_aload dX11_copy_19) <|
    fm_c (si_ifnonnull dX11_copy_21 rfl) <|
    fm_c (si_bipush dX11_copy_24 rfl) <|
    fm_c (si_iret rfl dX11_copy_26) <|
    fm_c (si_aload dX11_copy_27) <|
    fm_c (si_callv (C := RX7) (T := TX7) (N := 3) snd_7_isLost rfl dX11_copy_29 tw_492 tw_493 tw_494 tw_77 tw_495 hdd_7_isLost ⟨rfl, rfl⟩) <|
    fm_c (si_if_ne dX11_copy_32 rfl) <|
    fm_c (si_aload dX11_copy_35) <|
    fm_c (si_callv (C := RX7) (T := TX7) (N := 3) snd_7_isLost rfl dX11_copy_37 tw_492 tw_493 tw_494 tw_77 tw_495 hdd_7_isLost ⟨rfl, rfl⟩) <|
    fm_c (si_if_eq dX11_copy_40 rfl) <|
    fm_c (si_aloadn dX11_copy_43 rfl) <|
    fm_c (si_iconst dX11_copy_44 rfl) <|
    fm_c (si_callv (C := RX11) (T := TX11) (N := 17) snd_11_found rfl dX11_copy_45 tw_496 tw_498 tw_6 tw_65 tw_499 hdd_11_found ⟨rfl, rfl⟩) <|
    fm_c (si_iret rfl dX11_copy_48) <|
    fm_c (si_aload dX11_copy_49) <|
    fm_c (si_getf (C := RX7) (T := TX7) (N := 3) dX11_copy_51 rfl inC_7 rfl tw_315) <|
    fm_c (si_aload dX11_copy_54) <|
    fm_c (si_getf (C := RX7) (T := TX7) (N := 3) dX11_copy_56 rfl inC_7 rfl tw_315) <|
    fm_c (si_ic_eq dX11_copy_59 rfl) <|
    fm_c (si_aloadn dX11_copy_62 rfl) <|
    fm_c (si_iconst dX11_copy_63 rfl) <|
    fm_c (si_callv (C := RX11) (T := TX11) (N := 17) snd_11_found rfl dX11_copy_64 tw_496 tw_498 tw_6 tw_65 tw_499 hdd_11_found ⟨rfl, rfl⟩) <|
    fm_c (si_iret rfl dX11_copy_67) <|
    fm_c (si_aload dX11_copy_68) <|
    fm_c (si_iloadn dX11_copy_70 rfl) <|
    fm_c (si_iload dX11_copy_71) <|
    fm_c (si_callv (C := RX7) (T := TX7) (N := 3) snd_7_hasRun rfl dX11_copy_73 tw_896 tw_897 tw_898 tw_77 tw_899 hdd_7_hasRun ⟨rfl, rfl⟩) <|
    fm_c (si_if_eq dX11_copy_76 rfl) <|
    fm_c (si_aload dX11_copy_79) <|
    fm_c (si_iload dX11_copy_81) <|
    fm_c (si_iload dX11_copy_83) <|
    fm_c (si_callv (C := RX7) (T := TX7) (N := 3) snd_7_hasRun rfl dX11_copy_85 tw_896 tw_897 tw_898 tw_77 tw_899 hdd_7_hasRun ⟨rfl, rfl⟩) <|
    fm_c (si_if_ne dX11_copy_88 rfl) <|
    fm_c (si_aloadn dX11_copy_91 rfl) <|
    fm_c (si_iconst dX11_copy_92 rfl) <|
    fm_c (si_callv (C := RX11) (T := TX11) (N := 17) snd_11_found rfl dX11_copy_93 tw_496 tw_498 tw_6 tw_65 tw_499 hdd_11_found ⟨rfl, rfl⟩) <|
    fm_c (si_iret rfl dX11_copy_96) <|
    fm_c (si_aload dX11_copy_97) <|
    fm_c (si_getf (C := RX7) (T := TX7) (N := 3) dX11_copy_99 rfl inC_7 rfl tw_313) <|
    fm_c (si_iloadn dX11_copy_102 rfl) <|
    fm_c (si_aload dX11_copy_103) <|
    fm_c (si_getf (C := RX7) (T := TX7) (N := 3) dX11_copy_105 rfl inC_7 rfl tw_313) <|
    fm_c (si_iload dX11_copy_108) <|
    fm_c (si_iload dX11_copy_110) <|
    fm_c (si_acpyI dX11_copy_112 tw_900 tw_754 tw_753 tw_81 ⟨rfl, rfl⟩) <|
    fm_c (si_iconst dX11_copy_115 rfl) <|
    fm_c (si_iret rfl dX11_copy_116) <|
    fun _ h => absurd h List.not_mem_nil
def K11_count : List (Nat × am_O) := [(0, o_iload 1 1),
  (1, o_tsw 0 8 [52, 60, 68, 76, 84, 92, 100, 108, 116] 121),
  (52, o_aload 0 53),
  (53, o_getf 11 3 56),
  (56, o_getf 2 2 59),
  (59, o_iret),
  (60, o_aload 0 61),
  (61, o_getf 11 6 64),
  (64, o_getf 3 4 67),
  (67, o_iret),
  (68, o_aload 0 69),
  (69, o_getf 11 7 72),
  (72, o_getf 10 3 75),
  (75, o_iret),
  (76, o_aload 0 77),
  (77, o_getf 11 7 80),
  (80, o_getf 10 4 83),
  (83, o_iret),
  (84, o_aload 0 85),
  (85, o_getf 11 0 88),
  (88, o_getf 9 2 91),
  (91, o_iret),
  (92, o_aload 0 93),
  (93, o_getf 11 1 96),
  (96, o_getf 9 2 99),
  (99, o_iret),
  (100, o_aload 0 101),
  (101, o_getf 11 2 104),
  (104, o_getf 9 2 107),
  (107, o_iret),
  (108, o_aload 0 109),
  (109, o_getf 11 10 112),
  (112, o_getf 4 2 115),
  (115, o_iret),
  (116, o_aload 0 117),
  (117, o_getf 11 16 120),
  (120, o_iret),
  (121, o_push (aI (-2)) 123),
  (123, o_iret)]
def S11_count : am_E := am_S K11_count 2
theorem hdd_11_count : yX11_count.cls ≠ "java/lang/invoke/MethodHandle" ∧ yX11_count.cls ≠ "java/lang/invoke/VarHandle" ∧ (parseMethodDescriptor yX11_count.desc).map (fun d => d.parameters.length) = some 1 := by decide +kernel
set_option maxRecDepth 100000 in
theorem snd_11_count : am_Sound yX11_count cX11_count 2 (some .int) 0 0 S11_count :=
  am_sound_of (own := RX11) (by decide) rfl <|
    fm_c (si_iloadn dX11_count_0 rfl) <|
    fm_c (si_tsw dX11_count_1 rfl rfl rfl) <|
    fm_c (si_aloadn dX11_count_52 rfl) <|
    fm_c (si_getf (C := RX11) (T := TX11) (N := 17) dX11_count_53 rfl inC_11 rfl tw_328) <|
    fm_c (si_getf (C := RX2) (T := TX2) (N := 3) dX11_count_56 rfl inC_2 rfl tw_127) <|
    fm_c (si_iret rfl dX11_count_59) <|
    fm_c (si_aloadn dX11_count_60 rfl) <|
    fm_c (si_getf (C := RX11) (T := TX11) (N := 17) dX11_count_61 rfl inC_11 rfl tw_331) <|
    fm_c (si_getf (C := RX3) (T := TX3) (N := 5) dX11_count_64 rfl inC_3 rfl tw_181) <|
    fm_c (si_iret rfl dX11_count_67) <|
    fm_c (si_aloadn dX11_count_68 rfl) <|
    fm_c (si_getf (C := RX11) (T := TX11) (N := 17) dX11_count_69 rfl inC_11 rfl tw_332) <|
    fm_c (si_getf (C := RX10) (T := TX10) (N := 5) dX11_count_72 rfl inC_10 rfl tw_204) <|
    fm_c (si_iret rfl dX11_count_75) <|
    fm_c (si_aloadn dX11_count_76 rfl) <|
    fm_c (si_getf (C := RX11) (T := TX11) (N := 17) dX11_count_77 rfl inC_11 rfl tw_332) <|
    fm_c (si_getf (C := RX10) (T := TX10) (N := 5) dX11_count_80 rfl inC_10 rfl tw_206) <|
    fm_c (si_iret rfl dX11_count_83) <|
    fm_c (si_aloadn dX11_count_84 rfl) <|
    fm_c (si_getf (C := RX11) (T := TX11) (N := 17) dX11_count_85 rfl inC_11 rfl tw_325) <|
    fm_c (si_getf (C := RX9) (T := TX9) (N := 4) dX11_count_88 rfl inC_9 rfl tw_100) <|
    fm_c (si_iret rfl dX11_count_91) <|
    fm_c (si_aloadn dX11_count_92 rfl) <|
    fm_c (si_getf (C := RX11) (T := TX11) (N := 17) dX11_count_93 rfl inC_11 rfl tw_326) <|
    fm_c (si_getf (C := RX9) (T := TX9) (N := 4) dX11_count_96 rfl inC_9 rfl tw_100) <|
    fm_c (si_iret rfl dX11_count_99) <|
    fm_c (si_aloadn dX11_count_100 rfl) <|
    fm_c (si_getf (C := RX11) (T := TX11) (N := 17) dX11_count_101 rfl inC_11 rfl tw_327) <|
    fm_c (si_getf (C := RX9) (T := TX9) (N := 4) dX11_count_104 rfl inC_9 rfl tw_100) <|
    fm_c (si_iret rfl dX11_count_107) <|
    fm_c (si_aloadn dX11_count_108 rfl) <|
    fm_c (si_getf (C := RX11) (T := TX11) (N := 17) dX11_count_109 rfl inC_11 rfl tw_335) <|
    fm_c (si_getf (C := RX4) (T := TX4) (N := 3) dX11_count_112 rfl inC_4 rfl tw_281) <|
    fm_c (si_iret rfl dX11_count_115) <|
    fm_c (si_aloadn dX11_count_116 rfl) <|
    fm_c (si_getf (C := RX11) (T := TX11) (N := 17) dX11_count_117 rfl inC_11 rfl tw_341) <|
    fm_c (si_iret rfl dX11_count_120) <|
    fm_c (si_bipush dX11_count_121 rfl) <|
    fm_c (si_iret rfl dX11_count_123) <|
    fun _ h => absurd h List.not_mem_nil
def K11_counts : List (Nat × am_O) := [(0, o_iload 1 1),
  (1, o_push (aI 1) 2),
  (2, o_ic (fun a b => a < b) 31 5),
  (5, o_iload 1 6),
  (6, o_push (aI 99) 8),
  (8, o_ic (fun a b => b < a) 31 11),
  (11, o_iload 2 12),
  (12, o_if (fun a => a < 0) 31 15),
  (15, o_iload 2 16),
  (16, o_push (aI 99) 18),
  (18, o_ic (fun a b => b < a) 31 21),
  (21, o_iload 3 22),
  (22, o_if (fun a => a < 0) 31 25),
  (25, o_iload 3 26),
  (26, o_push (aI 99) 28),
  (28, o_ic (fun a b => a ≤ b) 34 31),
  (31, o_push (aI (-2)) 33),
  (33, o_iret),
  (34, o_push (aI 1) 35),
  (35, o_istore 4 37),
  (37, o_iload 2 38),
  (38, o_iload 1 39),
  (39, o_bin (fun a b => w32 (a * b)) 40),
  (40, o_istore 5 42),
  (42, o_push (aI 2) 43),
  (43, o_istore 6 45),
  (45, o_iload 6 47),
  (47, o_push (aI 60) 49),
  (49, o_ic (fun a b => b < a) 93 52),
  (52, o_iload 2 53),
  (53, o_iload 1 54),
  (54, o_iload 6 56),
  (56, o_bin (fun a b => w32 (a + b)) 57),
  (57, o_push (aI 1) 58),
  (58, o_bin (fun a b => w32 (a - b)) 59),
  (59, o_iload 6 61),
  (61, o_idiv 62),
  (62, o_bin (fun a b => w32 (a * b)) 63),
  (63, o_iload 3 64),
  (64, o_iload 6 66),
  (66, o_push (aI 1) 67),
  (67, o_bin (fun a b => w32 (a - b)) 68),
  (68, o_bin (fun a b => w32 (a * b)) 69),
  (69, o_bin (fun a b => w32 (a + b)) 70),
  (70, o_istore 7 72),
  (72, o_iload 7 74),
  (74, o_iload 5 76),
  (76, o_ic (fun a b => b ≤ a) 87 79),
  (79, o_iload 6 81),
  (81, o_istore 4 83),
  (83, o_iload 7 85),
  (85, o_istore 5 87),
  (87, o_iinc 6 1 90),
  (90, o_goto 45),
  (93, o_iload 4 95),
  (95, o_iret)]
def S11_counts : am_E := am_S K11_counts 8
theorem hdd_11_counts : yX11_counts.cls ≠ "java/lang/invoke/MethodHandle" ∧ yX11_counts.cls ≠ "java/lang/invoke/VarHandle" ∧ (parseMethodDescriptor yX11_counts.desc).map (fun d => d.parameters.length) = some 3 := by decide +kernel
set_option maxRecDepth 100000 in
theorem snd_11_counts : am_Sound yX11_counts cX11_counts 8 (some .int) 0 0 S11_counts :=
  am_sound_of (own := RX11) (by decide) rfl <|
    fm_c (si_iloadn dX11_counts_0 rfl) <|
    fm_c (si_iconst dX11_counts_1 rfl) <|
    fm_c (si_ic_lt dX11_counts_2 rfl) <|
    fm_c (si_iloadn dX11_counts_5 rfl) <|
    fm_c (si_bipush dX11_counts_6 rfl) <|
    fm_c (si_ic_gt dX11_counts_8 rfl) <|
    fm_c (si_iloadn dX11_counts_11 rfl) <|
    fm_c (si_if_lt dX11_counts_12 rfl) <|
    fm_c (si_iloadn dX11_counts_15 rfl) <|
    fm_c (si_bipush dX11_counts_16 rfl) <|
    fm_c (si_ic_gt dX11_counts_18 rfl) <|
    fm_c (si_iloadn dX11_counts_21 rfl) <|
    fm_c (si_if_lt dX11_counts_22 rfl) <|
    fm_c (si_iloadn dX11_counts_25 rfl) <|
    fm_c (si_bipush dX11_counts_26 rfl) <|
    fm_c (si_ic_le dX11_counts_28 rfl) <|
    fm_c (si_bipush dX11_counts_31 rfl) <|
    fm_c (si_iret rfl dX11_counts_33) <|
    fm_c (si_iconst dX11_counts_34 rfl) <|
    fm_c (si_istore dX11_counts_35 rfl) <|
    fm_c (si_iloadn dX11_counts_37 rfl) <|
    fm_c (si_iloadn dX11_counts_38 rfl) <|
    fm_c (si_imul dX11_counts_39) <|
    fm_c (si_istore dX11_counts_40 rfl) <|
    fm_c (si_iconst dX11_counts_42 rfl) <|
    fm_c (si_istore dX11_counts_43 rfl) <|
    fm_c (si_iload dX11_counts_45) <|
    fm_c (si_bipush dX11_counts_47 rfl) <|
    fm_c (si_ic_gt dX11_counts_49 rfl) <|
    fm_c (si_iloadn dX11_counts_52 rfl) <|
    fm_c (si_iloadn dX11_counts_53 rfl) <|
    fm_c (si_iload dX11_counts_54) <|
    fm_c (si_iadd dX11_counts_56) <|
    fm_c (si_iconst dX11_counts_57 rfl) <|
    fm_c (si_isub dX11_counts_58) <|
    fm_c (si_iload dX11_counts_59) <|
    fm_c (si_idiv dX11_counts_61) <|
    fm_c (si_imul dX11_counts_62) <|
    fm_c (si_iloadn dX11_counts_63 rfl) <|
    fm_c (si_iload dX11_counts_64) <|
    fm_c (si_iconst dX11_counts_66 rfl) <|
    fm_c (si_isub dX11_counts_67) <|
    fm_c (si_imul dX11_counts_68) <|
    fm_c (si_iadd dX11_counts_69) <|
    fm_c (si_istore dX11_counts_70 rfl) <|
    fm_c (si_iload dX11_counts_72) <|
    fm_c (si_iload dX11_counts_74) <|
    fm_c (si_ic_ge dX11_counts_76 rfl) <|
    fm_c (si_iload dX11_counts_79) <|
    fm_c (si_istore dX11_counts_81 rfl) <|
    fm_c (si_iload dX11_counts_83) <|
    fm_c (si_istore dX11_counts_85 rfl) <|
    fm_c (si_iinc dX11_counts_87 rfl rfl) <|
    fm_c (si_goto dX11_counts_90 rfl) <|
    fm_c (si_iload dX11_counts_93) <|
    fm_c (si_iret rfl dX11_counts_95) <|
    fun _ h => absurd h List.not_mem_nil
def K2_densityOf : List (Nat × am_O) := [(0, o_iload 1 1),
  (1, o_if (fun a => a < 0) 29 4),
  (4, o_iload 1 5),
  (5, o_push (aI 64) 7),
  (7, o_ic (fun a b => b ≤ a) 29 10),
  (10, o_aload 0 11),
  (11, o_getf 2 0 14),
  (14, o_iload 1 15),
  (15, o_iald 16),
  (16, o_push (aI (-1)) 17),
  (17, o_ic (fun a b => a = b) 29 20),
  (20, o_aload 0 21),
  (21, o_getf 2 0 24),
  (24, o_iload 1 25),
  (25, o_iald 26),
  (26, o_goto 30),
  (29, o_push (aI 0) 30),
  (30, o_iret)]
def S2_densityOf : am_E := am_S K2_densityOf 2
theorem hdd_2_densityOf : yX2_densityOf.cls ≠ "java/lang/invoke/MethodHandle" ∧ yX2_densityOf.cls ≠ "java/lang/invoke/VarHandle" ∧ (parseMethodDescriptor yX2_densityOf.desc).map (fun d => d.parameters.length) = some 1 := by decide +kernel
set_option maxRecDepth 100000 in
theorem snd_2_densityOf : am_Sound yX2_densityOf cX2_densityOf 2 (some .int) 0 0 S2_densityOf :=
  am_sound_of (own := RX2) (by decide) rfl <|
    fm_c (si_iloadn dX2_densityOf_0 rfl) <|
    fm_c (si_if_lt dX2_densityOf_1 rfl) <|
    fm_c (si_iloadn dX2_densityOf_4 rfl) <|
    fm_c (si_bipush dX2_densityOf_5 rfl) <|
    fm_c (si_ic_ge dX2_densityOf_7 rfl) <|
    fm_c (si_aloadn dX2_densityOf_10 rfl) <|
    fm_c (si_getf (C := RX2) (T := TX2) (N := 3) dX2_densityOf_11 rfl inC_2 rfl tw_124) <|
    fm_c (si_iloadn dX2_densityOf_14 rfl) <|
    fm_c (si_iald dX2_densityOf_15) <|
    fm_c (si_iconst dX2_densityOf_16 rfl) <|
    fm_c (si_ic_eq dX2_densityOf_17 rfl) <|
    fm_c (si_aloadn dX2_densityOf_20 rfl) <|
    fm_c (si_getf (C := RX2) (T := TX2) (N := 3) dX2_densityOf_21 rfl inC_2 rfl tw_124) <|
    fm_c (si_iloadn dX2_densityOf_24 rfl) <|
    fm_c (si_iald dX2_densityOf_25) <|
    fm_c (si_goto dX2_densityOf_26 rfl) <|
    fm_c (si_iconst dX2_densityOf_29 rfl) <|
    fm_c (si_iret rfl dX2_densityOf_30) <|
    fun _ h => absurd h List.not_mem_nil
def K11_dense : List (Nat × am_O) := [(0, o_aload 0 1),
  (1, o_getf 11 3 4),
  (4, o_iload 1 5),
  (5, o_callv S2_isPlace 2 1 false 8),
  (8, o_if (fun a => a = 0) 22 11),
  (11, o_aload 0 12),
  (12, o_getf 11 3 15),
  (15, o_iload 1 16),
  (16, o_callv S2_densityOf 2 1 false 19),
  (19, o_goto 24),
  (22, o_push (aI (-2)) 24),
  (24, o_iret)]
def S11_dense : am_E := am_S K11_dense 2
theorem hdd_11_dense : yX11_dense.cls ≠ "java/lang/invoke/MethodHandle" ∧ yX11_dense.cls ≠ "java/lang/invoke/VarHandle" ∧ (parseMethodDescriptor yX11_dense.desc).map (fun d => d.parameters.length) = some 1 := by decide +kernel
set_option maxRecDepth 100000 in
theorem snd_11_dense : am_Sound yX11_dense cX11_dense 2 (some .int) 1 21 S11_dense :=
  am_sound_of (own := RX11) (by decide) rfl <|
    fm_c (si_aloadn dX11_dense_0 rfl) <|
    fm_c (si_getf (C := RX11) (T := TX11) (N := 17) dX11_dense_1 rfl inC_11 rfl tw_328) <|
    fm_c (si_iloadn dX11_dense_4 rfl) <|
    fm_c (si_callv (C := RX2) (T := TX2) (N := 3) snd_2_isPlace rfl dX11_dense_5 tw_513 tw_414 tw_415 tw_67 tw_416 hdd_2_isPlace ⟨rfl, rfl⟩) <|
    fm_c (si_if_eq dX11_dense_8 rfl) <|
    fm_c (si_aloadn dX11_dense_11 rfl) <|
    fm_c (si_getf (C := RX11) (T := TX11) (N := 17) dX11_dense_12 rfl inC_11 rfl tw_328) <|
    fm_c (si_iloadn dX11_dense_15 rfl) <|
    fm_c (si_callv (C := RX2) (T := TX2) (N := 3) snd_2_densityOf rfl dX11_dense_16 tw_514 tw_515 tw_516 tw_67 tw_517 hdd_2_densityOf ⟨rfl, rfl⟩) <|
    fm_c (si_goto dX11_dense_19 rfl) <|
    fm_c (si_bipush dX11_dense_22 rfl) <|
    fm_c (si_iret rfl dX11_dense_24) <|
    fun _ h => absurd h List.not_mem_nil
def K11_densityOfStep : List (Nat × am_O) := [(0, o_aload 0 1),
  (1, o_getf 11 3 4),
  (4, o_aload 0 5),
  (5, o_getf 11 7 8),
  (8, o_iload 1 9),
  (9, o_push (aI 1) 10),
  (10, o_bin (fun a b => w32 (a + b)) 11),
  (11, o_callv S10_placeBehind 10 1 false 14),
  (14, o_callv S2_densityOf 2 1 false 17),
  (17, o_iret)]
def S11_densityOfStep : am_E := am_S K11_densityOfStep 2
theorem hdd_11_densityOfStep : yX11_densityOfStep.cls ≠ "java/lang/invoke/MethodHandle" ∧ yX11_densityOfStep.cls ≠ "java/lang/invoke/VarHandle" ∧ (parseMethodDescriptor yX11_densityOfStep.desc).map (fun d => d.parameters.length) = some 1 := by decide +kernel
set_option maxRecDepth 100000 in
theorem snd_11_densityOfStep : am_Sound yX11_densityOfStep cX11_densityOfStep 2 (some .int) 1 21 S11_densityOfStep :=
  am_sound_of (own := RX11) (by decide) rfl <|
    fm_c (si_aloadn dX11_densityOfStep_0 rfl) <|
    fm_c (si_getf (C := RX11) (T := TX11) (N := 17) dX11_densityOfStep_1 rfl inC_11 rfl tw_328) <|
    fm_c (si_aloadn dX11_densityOfStep_4 rfl) <|
    fm_c (si_getf (C := RX11) (T := TX11) (N := 17) dX11_densityOfStep_5 rfl inC_11 rfl tw_332) <|
    fm_c (si_iloadn dX11_densityOfStep_8 rfl) <|
    fm_c (si_iconst dX11_densityOfStep_9 rfl) <|
    fm_c (si_iadd dX11_densityOfStep_10) <|
    fm_c (si_callv (C := RX10) (T := TX10) (N := 5) snd_10_placeBehind rfl dX11_densityOfStep_11 tw_526 tw_527 tw_528 tw_72 tw_529 hdd_10_placeBehind ⟨rfl, rfl⟩) <|
    fm_c (si_callv (C := RX2) (T := TX2) (N := 3) snd_2_densityOf rfl dX11_densityOfStep_14 tw_514 tw_515 tw_516 tw_67 tw_517 hdd_2_densityOf ⟨rfl, rfl⟩) <|
    fm_c (si_iret rfl dX11_densityOfStep_17) <|
    fun _ h => absurd h List.not_mem_nil
def K11_textOf : List (Nat × am_O) := [(0, o_iload 1 1),
  (1, o_tsw 0 2 [28, 33, 38] 43),
  (28, o_aload 0 29),
  (29, o_getf 11 0 32),
  (32, o_aret),
  (33, o_aload 0 34),
  (34, o_getf 11 1 37),
  (37, o_aret),
  (38, o_aload 0 39),
  (39, o_getf 11 2 42),
  (42, o_aret),
  (43, o_push aN 44),
  (44, o_aret)]
def S11_textOf : am_E := am_S K11_textOf 2
theorem hdd_11_textOf : yX11_textOf.cls ≠ "java/lang/invoke/MethodHandle" ∧ yX11_textOf.cls ≠ "java/lang/invoke/VarHandle" ∧ (parseMethodDescriptor yX11_textOf.desc).map (fun d => d.parameters.length) = some 1 := by decide +kernel
set_option maxRecDepth 100000 in
theorem snd_11_textOf : am_Sound yX11_textOf cX11_textOf 2 (some (.object "HandInHand$Text")) 0 0 S11_textOf :=
  am_sound_of (own := RX11) (by decide) rfl <|
    fm_c (si_iloadn dX11_textOf_0 rfl) <|
    fm_c (si_tsw dX11_textOf_1 rfl rfl rfl) <|
    fm_c (si_aloadn dX11_textOf_28 rfl) <|
    fm_c (si_getf (C := RX11) (T := TX11) (N := 17) dX11_textOf_29 rfl inC_11 rfl tw_325) <|
    fm_c (si_aret rfl dX11_textOf_32) <|
    fm_c (si_aloadn dX11_textOf_33 rfl) <|
    fm_c (si_getf (C := RX11) (T := TX11) (N := 17) dX11_textOf_34 rfl inC_11 rfl tw_326) <|
    fm_c (si_aret rfl dX11_textOf_37) <|
    fm_c (si_aloadn dX11_textOf_38 rfl) <|
    fm_c (si_getf (C := RX11) (T := TX11) (N := 17) dX11_textOf_39 rfl inC_11 rfl tw_327) <|
    fm_c (si_aret rfl dX11_textOf_42) <|
    fm_c (si_null dX11_textOf_43) <|
    fm_c (si_aret rfl dX11_textOf_44) <|
    fun _ h => absurd h List.not_mem_nil
def K11_fault : List (Nat × am_O) := [(0, o_aload 0 1),
  (1, o_iload 1 2),
  (2, o_callv S11_textOf 11 1 false 5),
  (5, o_astore 2 6),
  (6, o_aload 2 7),
  (7, o_nul 10 15),
  (10, o_push (aI (-2)) 12),
  (12, o_goto 19),
  (15, o_aload 2 16),
  (16, o_getf 9 3 19),
  (19, o_iret)]
def S11_fault : am_E := am_S K11_fault 3
theorem hdd_11_fault : yX11_fault.cls ≠ "java/lang/invoke/MethodHandle" ∧ yX11_fault.cls ≠ "java/lang/invoke/VarHandle" ∧ (parseMethodDescriptor yX11_fault.desc).map (fun d => d.parameters.length) = some 1 := by decide +kernel
set_option maxRecDepth 100000 in
theorem snd_11_fault : am_Sound yX11_fault cX11_fault 3 (some .int) 1 21 S11_fault :=
  am_sound_of (own := RX11) (by decide) rfl <|
    fm_c (si_aloadn dX11_fault_0 rfl) <|
    fm_c (si_iloadn dX11_fault_1 rfl) <|
    fm_c (si_callv (C := RX11) (T := TX11) (N := 17) snd_11_textOf rfl dX11_fault_2 tw_381 tw_383 tw_0 tw_65 tw_384 hdd_11_textOf ⟨rfl, rfl⟩) <|
    fm_c (si_astoren dX11_fault_5 rfl rfl) <|
    fm_c (si_aloadn dX11_fault_6 rfl) <|
    fm_c (si_ifnonnull dX11_fault_7 rfl) <|
    fm_c (si_bipush dX11_fault_10 rfl) <|
    fm_c (si_goto dX11_fault_12 rfl) <|
    fm_c (si_aloadn dX11_fault_15 rfl) <|
    fm_c (si_getf (C := RX9) (T := TX9) (N := 4) dX11_fault_16 rfl inC_9 rfl tw_104) <|
    fm_c (si_iret rfl dX11_fault_19) <|
    fun _ h => absurd h List.not_mem_nil
def K11_judged : List (Nat × am_O) := [(0, o_aload 0 1),
  (1, o_getf 11 7 4),
  (4, o_getf 10 4 7),
  (7, o_aload 0 8),
  (8, o_getf 11 7 11),
  (11, o_getf 10 3 14),
  (14, o_ic (fun a b => b ≤ a) 27 17),
  (17, o_aload 0 18),
  (18, o_getf 11 7 21),
  (21, o_getf 10 4 24),
  (24, o_goto 28),
  (27, o_push (aI (-1)) 28),
  (28, o_iret)]
def S11_judged : am_E := am_S K11_judged 1
theorem hdd_11_judged : yX11_judged.cls ≠ "java/lang/invoke/MethodHandle" ∧ yX11_judged.cls ≠ "java/lang/invoke/VarHandle" ∧ (parseMethodDescriptor yX11_judged.desc).map (fun d => d.parameters.length) = some 0 := by decide +kernel
set_option maxRecDepth 100000 in
theorem snd_11_judged : am_Sound yX11_judged cX11_judged 1 (some .int) 0 0 S11_judged :=
  am_sound_of (own := RX11) (by decide) rfl <|
    fm_c (si_aloadn dX11_judged_0 rfl) <|
    fm_c (si_getf (C := RX11) (T := TX11) (N := 17) dX11_judged_1 rfl inC_11 rfl tw_332) <|
    fm_c (si_getf (C := RX10) (T := TX10) (N := 5) dX11_judged_4 rfl inC_10 rfl tw_206) <|
    fm_c (si_aloadn dX11_judged_7 rfl) <|
    fm_c (si_getf (C := RX11) (T := TX11) (N := 17) dX11_judged_8 rfl inC_11 rfl tw_332) <|
    fm_c (si_getf (C := RX10) (T := TX10) (N := 5) dX11_judged_11 rfl inC_10 rfl tw_204) <|
    fm_c (si_ic_ge dX11_judged_14 rfl) <|
    fm_c (si_aloadn dX11_judged_17 rfl) <|
    fm_c (si_getf (C := RX11) (T := TX11) (N := 17) dX11_judged_18 rfl inC_11 rfl tw_332) <|
    fm_c (si_getf (C := RX10) (T := TX10) (N := 5) dX11_judged_21 rfl inC_10 rfl tw_206) <|
    fm_c (si_goto dX11_judged_24 rfl) <|
    fm_c (si_iconst dX11_judged_27 rfl) <|
    fm_c (si_iret rfl dX11_judged_28) <|
    fun _ h => absurd h List.not_mem_nil
def K3_joints : List (Nat × am_O) := [(0, o_aload 0 1),
  (1, o_getf 3 4 4),
  (4, o_push (aI 1) 5),
  (5, o_bin (fun a b => w32 (a - b)) 6),
  (6, o_push (aI 0) 7),
  (7, o_max 10),
  (10, o_iret)]
def S3_joints : am_E := am_S K3_joints 1
theorem hdd_3_joints : yX3_joints.cls ≠ "java/lang/invoke/MethodHandle" ∧ yX3_joints.cls ≠ "java/lang/invoke/VarHandle" ∧ (parseMethodDescriptor yX3_joints.desc).map (fun d => d.parameters.length) = some 0 := by decide +kernel
set_option maxRecDepth 100000 in
theorem snd_3_joints : am_Sound yX3_joints cX3_joints 1 (some .int) 1 21 S3_joints :=
  am_sound_of (own := RX3) (by decide) rfl <|
    fm_c (si_aloadn dX3_joints_0 rfl) <|
    fm_c (si_getf (C := RX3) (T := TX3) (N := 5) dX3_joints_1 rfl inC_3 rfl tw_180) <|
    fm_c (si_iconst dX3_joints_4 rfl) <|
    fm_c (si_isub dX3_joints_5) <|
    fm_c (si_iconst dX3_joints_6 rfl) <|
    fm_c (si_max dX3_joints_7 tw_607 tw_608 tw_79 tw_609 ⟨rfl, rfl⟩) <|
    fm_c (si_iret rfl dX3_joints_10) <|
    fun _ h => absurd h List.not_mem_nil
def K3_gripOfJoint : List (Nat × am_O) := [(0, o_aload 0 1),
  (1, o_aload 0 2),
  (2, o_iload 1 3),
  (3, o_callv S3_whoGoes 3 1 false 6),
  (6, o_aload 0 7),
  (7, o_iload 1 8),
  (8, o_push (aI 1) 9),
  (9, o_bin (fun a b => w32 (a + b)) 10),
  (10, o_callv S3_whoGoes 3 1 false 13),
  (13, o_callv S3_gripOf 3 2 false 16),
  (16, o_iret)]
def S3_gripOfJoint : am_E := am_S K3_gripOfJoint 2
theorem hdd_3_gripOfJoint : yX3_gripOfJoint.cls ≠ "java/lang/invoke/MethodHandle" ∧ yX3_gripOfJoint.cls ≠ "java/lang/invoke/VarHandle" ∧ (parseMethodDescriptor yX3_gripOfJoint.desc).map (fun d => d.parameters.length) = some 1 := by decide +kernel
set_option maxRecDepth 100000 in
theorem snd_3_gripOfJoint : am_Sound yX3_gripOfJoint cX3_gripOfJoint 2 (some .int) 1 23 S3_gripOfJoint :=
  am_sound_of (own := RX3) (by decide) rfl <|
    fm_c (si_aloadn dX3_gripOfJoint_0 rfl) <|
    fm_c (si_aloadn dX3_gripOfJoint_1 rfl) <|
    fm_c (si_iloadn dX3_gripOfJoint_2 rfl) <|
    fm_c (si_callv (C := RX3) (T := TX3) (N := 5) snd_3_whoGoes rfl dX3_gripOfJoint_3 tw_614 tw_592 tw_593 tw_71 tw_594 hdd_3_whoGoes ⟨rfl, rfl⟩) <|
    fm_c (si_aloadn dX3_gripOfJoint_6 rfl) <|
    fm_c (si_iloadn dX3_gripOfJoint_7 rfl) <|
    fm_c (si_iconst dX3_gripOfJoint_8 rfl) <|
    fm_c (si_iadd dX3_gripOfJoint_9) <|
    fm_c (si_callv (C := RX3) (T := TX3) (N := 5) snd_3_whoGoes rfl dX3_gripOfJoint_10 tw_614 tw_592 tw_593 tw_71 tw_594 hdd_3_whoGoes ⟨rfl, rfl⟩) <|
    fm_c (si_callv (C := RX3) (T := TX3) (N := 5) snd_3_gripOf rfl dX3_gripOfJoint_13 tw_615 tw_470 tw_471 tw_71 tw_472 hdd_3_gripOf ⟨rfl, rfl⟩) <|
    fm_c (si_iret rfl dX3_gripOfJoint_16) <|
    fun _ h => absurd h List.not_mem_nil
def K3_looseness : List (Nat × am_O) := [(0, o_push (aI 0) 1),
  (1, o_istore 1 2),
  (2, o_push (aI 0) 3),
  (3, o_istore 2 4),
  (4, o_iload 2 5),
  (5, o_aload 0 6),
  (6, o_callv S3_joints 3 0 false 9),
  (9, o_ic (fun a b => b ≤ a) 29 12),
  (12, o_iload 1 13),
  (13, o_push (aI 16) 15),
  (15, o_aload 0 16),
  (16, o_iload 2 17),
  (17, o_callv S3_gripOfJoint 3 1 false 20),
  (20, o_bin (fun a b => w32 (a - b)) 21),
  (21, o_bin (fun a b => w32 (a + b)) 22),
  (22, o_istore 1 23),
  (23, o_iinc 2 1 26),
  (26, o_goto 4),
  (29, o_iload 1 30),
  (30, o_iret)]
def S3_looseness : am_E := am_S K3_looseness 3
theorem hdd_3_looseness : yX3_looseness.cls ≠ "java/lang/invoke/MethodHandle" ∧ yX3_looseness.cls ≠ "java/lang/invoke/VarHandle" ∧ (parseMethodDescriptor yX3_looseness.desc).map (fun d => d.parameters.length) = some 0 := by decide +kernel
set_option maxRecDepth 100000 in
theorem snd_3_looseness : am_Sound yX3_looseness cX3_looseness 3 (some .int) 2 44 S3_looseness :=
  am_sound_of (own := RX3) (by decide) rfl <|
    fm_c (si_iconst dX3_looseness_0 rfl) <|
    fm_c (si_istoren dX3_looseness_1 rfl rfl) <|
    fm_c (si_iconst dX3_looseness_2 rfl) <|
    fm_c (si_istoren dX3_looseness_3 rfl rfl) <|
    fm_c (si_iloadn dX3_looseness_4 rfl) <|
    fm_c (si_aloadn dX3_looseness_5 rfl) <|
    fm_c (si_callv (C := RX3) (T := TX3) (N := 5) snd_3_joints rfl dX3_looseness_6 tw_603 tw_604 tw_605 tw_71 tw_606 hdd_3_joints ⟨rfl, rfl⟩) <|
    fm_c (si_ic_ge dX3_looseness_9 rfl) <|
    fm_c (si_iloadn dX3_looseness_12 rfl) <|
    fm_c (si_bipush dX3_looseness_13 rfl) <|
    fm_c (si_aloadn dX3_looseness_15 rfl) <|
    fm_c (si_iloadn dX3_looseness_16 rfl) <|
    fm_c (si_callv (C := RX3) (T := TX3) (N := 5) snd_3_gripOfJoint rfl dX3_looseness_17 tw_610 tw_611 tw_612 tw_71 tw_613 hdd_3_gripOfJoint ⟨rfl, rfl⟩) <|
    fm_c (si_isub dX3_looseness_20) <|
    fm_c (si_iadd dX3_looseness_21) <|
    fm_c (si_istoren dX3_looseness_22 rfl rfl) <|
    fm_c (si_iinc dX3_looseness_23 rfl rfl) <|
    fm_c (si_goto dX3_looseness_26 rfl) <|
    fm_c (si_iloadn dX3_looseness_29 rfl) <|
    fm_c (si_iret rfl dX3_looseness_30) <|
    fun _ h => absurd h List.not_mem_nil
def K11_loose : List (Nat × am_O) := [(0, o_aload 0 1),
  (1, o_getf 11 6 4),
  (4, o_callv S3_looseness 3 0 false 7),
  (7, o_iret)]
def S11_loose : am_E := am_S K11_loose 1
theorem hdd_11_loose : yX11_loose.cls ≠ "java/lang/invoke/MethodHandle" ∧ yX11_loose.cls ≠ "java/lang/invoke/VarHandle" ∧ (parseMethodDescriptor yX11_loose.desc).map (fun d => d.parameters.length) = some 0 := by decide +kernel
set_option maxRecDepth 100000 in
theorem snd_11_loose : am_Sound yX11_loose cX11_loose 1 (some .int) 3 66 S11_loose :=
  am_sound_of (own := RX11) (by decide) rfl <|
    fm_c (si_aloadn dX11_loose_0 rfl) <|
    fm_c (si_getf (C := RX11) (T := TX11) (N := 17) dX11_loose_1 rfl inC_11 rfl tw_331) <|
    fm_c (si_callv (C := RX3) (T := TX3) (N := 5) snd_3_looseness rfl dX11_loose_4 tw_599 tw_600 tw_601 tw_71 tw_602 hdd_3_looseness ⟨rfl, rfl⟩) <|
    fm_c (si_iret rfl dX11_loose_7) <|
    fun _ h => absurd h List.not_mem_nil
def K11_risk : List (Nat × am_O) := [(0, o_push (aI 0) 1),
  (1, o_istore 1 2),
  (2, o_push (aI 0) 3),
  (3, o_istore 2 4),
  (4, o_iload 2 5),
  (5, o_aload 0 6),
  (6, o_getf 11 7 9),
  (9, o_getf 10 4 12),
  (12, o_ic (fun a b => b ≤ a) 29 15),
  (15, o_iload 1 16),
  (16, o_aload 0 17),
  (17, o_iload 2 18),
  (18, o_callv S11_densityOfStep 11 1 false 21),
  (21, o_bin (fun a b => w32 (a + b)) 22),
  (22, o_istore 1 23),
  (23, o_iinc 2 1 26),
  (26, o_goto 4),
  (29, o_iload 1 30),
  (30, o_aload 0 31),
  (31, o_getf 11 6 34),
  (34, o_callv S3_looseness 3 0 false 37),
  (37, o_bin (fun a b => w32 (a * b)) 38),
  (38, o_iret)]
def S11_risk : am_E := am_S K11_risk 3
theorem hdd_11_risk : yX11_risk.cls ≠ "java/lang/invoke/MethodHandle" ∧ yX11_risk.cls ≠ "java/lang/invoke/VarHandle" ∧ (parseMethodDescriptor yX11_risk.desc).map (fun d => d.parameters.length) = some 0 := by decide +kernel
set_option maxRecDepth 100000 in
theorem snd_11_risk : am_Sound yX11_risk cX11_risk 3 (some .int) 3 66 S11_risk :=
  am_sound_of (own := RX11) (by decide) rfl <|
    fm_c (si_iconst dX11_risk_0 rfl) <|
    fm_c (si_istoren dX11_risk_1 rfl rfl) <|
    fm_c (si_iconst dX11_risk_2 rfl) <|
    fm_c (si_istoren dX11_risk_3 rfl rfl) <|
    fm_c (si_iloadn dX11_risk_4 rfl) <|
    fm_c (si_aloadn dX11_risk_5 rfl) <|
    fm_c (si_getf (C := RX11) (T := TX11) (N := 17) dX11_risk_6 rfl inC_11 rfl tw_332) <|
    fm_c (si_getf (C := RX10) (T := TX10) (N := 5) dX11_risk_9 rfl inC_10 rfl tw_206) <|
    fm_c (si_ic_ge dX11_risk_12 rfl) <|
    fm_c (si_iloadn dX11_risk_15 rfl) <|
    fm_c (si_aloadn dX11_risk_16 rfl) <|
    fm_c (si_iloadn dX11_risk_17 rfl) <|
    fm_c (si_callv (C := RX11) (T := TX11) (N := 17) snd_11_densityOfStep rfl dX11_risk_18 tw_620 tw_622 tw_11 tw_65 tw_623 hdd_11_densityOfStep ⟨rfl, rfl⟩) <|
    fm_c (si_iadd dX11_risk_21) <|
    fm_c (si_istoren dX11_risk_22 rfl rfl) <|
    fm_c (si_iinc dX11_risk_23 rfl rfl) <|
    fm_c (si_goto dX11_risk_26 rfl) <|
    fm_c (si_iloadn dX11_risk_29 rfl) <|
    fm_c (si_aloadn dX11_risk_30 rfl) <|
    fm_c (si_getf (C := RX11) (T := TX11) (N := 17) dX11_risk_31 rfl inC_11 rfl tw_331) <|
    fm_c (si_callv (C := RX3) (T := TX3) (N := 5) snd_3_looseness rfl dX11_risk_34 tw_599 tw_600 tw_601 tw_71 tw_602 hdd_3_looseness ⟨rfl, rfl⟩) <|
    fm_c (si_imul dX11_risk_37) <|
    fm_c (si_iret rfl dX11_risk_38) <|
    fun _ h => absurd h List.not_mem_nil
def K11_order : List (Nat × am_O) := [(0, o_iload 1 1),
  (1, o_call S3_isPerson 1 false 4),
  (4, o_if (fun a => a = 0) 18 7),
  (7, o_aload 0 8),
  (8, o_getf 11 6 11),
  (11, o_iload 1 12),
  (12, o_callv S3_whoGoes 3 1 false 15),
  (15, o_goto 20),
  (18, o_push (aI (-2)) 20),
  (20, o_iret)]
def S11_order : am_E := am_S K11_order 2
theorem hdd_11_order : yX11_order.cls ≠ "java/lang/invoke/MethodHandle" ∧ yX11_order.cls ≠ "java/lang/invoke/VarHandle" ∧ (parseMethodDescriptor yX11_order.desc).map (fun d => d.parameters.length) = some 1 := by decide +kernel
set_option maxRecDepth 100000 in
theorem snd_11_order : am_Sound yX11_order cX11_order 2 (some .int) 1 21 S11_order :=
  am_sound_of (own := RX11) (by decide) rfl <|
    fm_c (si_iloadn dX11_order_0 rfl) <|
    fm_c (si_call snd_3_isPerson dX11_order_1 tw_465 tw_435 tw_71 tw_436 hdd_3_isPerson ⟨rfl, rfl⟩) <|
    fm_c (si_if_eq dX11_order_4 rfl) <|
    fm_c (si_aloadn dX11_order_7 rfl) <|
    fm_c (si_getf (C := RX11) (T := TX11) (N := 17) dX11_order_8 rfl inC_11 rfl tw_331) <|
    fm_c (si_iloadn dX11_order_11 rfl) <|
    fm_c (si_callv (C := RX3) (T := TX3) (N := 5) snd_3_whoGoes rfl dX11_order_12 tw_591 tw_592 tw_593 tw_71 tw_594 hdd_3_whoGoes ⟨rfl, rfl⟩) <|
    fm_c (si_goto dX11_order_15 rfl) <|
    fm_c (si_bipush dX11_order_18 rfl) <|
    fm_c (si_iret rfl dX11_order_20) <|
    fun _ h => absurd h List.not_mem_nil
def K4_asBits : List (Nat × am_O) := [(0, o_push (aI 1) 1),
  (1, o_aload 0 2),
  (2, o_getf 4 2 5),
  (5, o_sh am_shl 6),
  (6, o_push (aI 1) 7),
  (7, o_bin (fun a b => w32 (a - b)) 8),
  (8, o_iret)]
def S4_asBits : am_E := am_S K4_asBits 1
theorem hdd_4_asBits : yX4_asBits.cls ≠ "java/lang/invoke/MethodHandle" ∧ yX4_asBits.cls ≠ "java/lang/invoke/VarHandle" ∧ (parseMethodDescriptor yX4_asBits.desc).map (fun d => d.parameters.length) = some 0 := by decide +kernel
set_option maxRecDepth 100000 in
theorem snd_4_asBits : am_Sound yX4_asBits cX4_asBits 1 (some .int) 0 0 S4_asBits :=
  am_sound_of (own := RX4) (by decide) rfl <|
    fm_c (si_iconst dX4_asBits_0 rfl) <|
    fm_c (si_aloadn dX4_asBits_1 rfl) <|
    fm_c (si_getf (C := RX4) (T := TX4) (N := 3) dX4_asBits_2 rfl inC_4 rfl tw_280) <|
    fm_c (si_ishl dX4_asBits_5) <|
    fm_c (si_iconst dX4_asBits_6 rfl) <|
    fm_c (si_isub dX4_asBits_7) <|
    fm_c (si_iret rfl dX4_asBits_8) <|
    fun _ h => absurd h List.not_mem_nil
def K11_seek : List (Nat × am_O) := [(0, o_iload 1 1),
  (1, o_call S3_isPerson 1 false 4),
  (4, o_if (fun a => a = 0) 18 7),
  (7, o_iload 2 8),
  (8, o_push (aI (-2)) 10),
  (10, o_ic (fun a b => a < b) 18 13),
  (13, o_iload 2 14),
  (14, o_push (aI 5) 15),
  (15, o_ic (fun a b => a < b) 24 18),
  (18, o_push (aI (-2)) 20),
  (20, o_call S11_refused 1 false 23),
  (23, o_lret),
  (24, o_aload 0 25),
  (25, o_iload 1 26),
  (26, o_iload 1 27),
  (27, o_callv S11_canSeek 11 2 false 30),
  (30, o_if (fun a => ¬ a = 0) 39 33),
  (33, o_push (aI (-3)) 35),
  (35, o_call S11_refused 1 false 38),
  (38, o_lret),
  (39, o_aload 0 40),
  (40, o_getf 11 10 43),
  (43, o_callv S4_asBits 4 0 false 46),
  (46, o_istore 3 47),
  (47, o_aload 0 48),
  (48, o_getf 11 11 51),
  (51, o_iload 3 52),
  (52, o_callv S6_solve 6 1 true 55),
  (55, o_iload 2 56),
  (56, o_if (fun a => a < 0) 70 59),
  (59, o_aload 0 60),
  (60, o_getf 11 11 63),
  (63, o_iload 3 64),
  (64, o_iload 2 65),
  (65, o_callv S6_stopAt 6 2 false 68),
  (68, o_i2l 69),
  (69, o_lret),
  (70, o_aload 0 71),
  (71, o_getf 11 11 74),
  (74, o_push (aI 5) 75),
  (75, o_iload 3 76),
  (76, o_callv S6_leastFrom 6 2 false 79),
  (79, o_i2l 80),
  (80, o_aload 0 81),
  (81, o_getf 11 10 84),
  (84, o_iload 3 85),
  (85, o_callv S4_weightOf 4 1 false 88),
  (88, o_i2l 89),
  (89, o_iload 2 90),
  (90, o_push (aI 2) 91),
  (91, o_bin (fun a b => w32 (a + b)) 92),
  (92, o_call S11_lowest 3 false 95),
  (95, o_lret)]
def S11_seek : am_E := am_S K11_seek 4
theorem hdd_11_seek : yX11_seek.cls ≠ "java/lang/invoke/MethodHandle" ∧ yX11_seek.cls ≠ "java/lang/invoke/VarHandle" ∧ (parseMethodDescriptor yX11_seek.desc).map (fun d => d.parameters.length) = some 2 := by decide +kernel
set_option maxRecDepth 100000 in
theorem snd_11_seek : am_Sound yX11_seek cX11_seek 4 (some .long) 4 99 S11_seek :=
  am_sound_of (own := RX11) (by decide) rfl <|
    fm_c (si_iloadn dX11_seek_0 rfl) <|
    fm_c (si_call snd_3_isPerson dX11_seek_1 tw_465 tw_435 tw_71 tw_436 hdd_3_isPerson ⟨rfl, rfl⟩) <|
    fm_c (si_if_eq dX11_seek_4 rfl) <|
    fm_c (si_iloadn dX11_seek_7 rfl) <|
    fm_c (si_bipush dX11_seek_8 rfl) <|
    fm_c (si_ic_lt dX11_seek_10 rfl) <|
    fm_c (si_iloadn dX11_seek_13 rfl) <|
    fm_c (si_iconst dX11_seek_14 rfl) <|
    fm_c (si_ic_lt dX11_seek_15 rfl) <|
    fm_c (si_bipush dX11_seek_18 rfl) <|
    fm_c (si_call snd_11_refused dX11_seek_20 tw_673 tw_674 tw_65 tw_675 hdd_11_refused ⟨rfl, rfl⟩) <|
    fm_c (si_lret rfl dX11_seek_23) <|
    fm_c (si_aloadn dX11_seek_24 rfl) <|
    fm_c (si_iloadn dX11_seek_25 rfl) <|
    fm_c (si_iloadn dX11_seek_26 rfl) <|
    fm_c (si_callv (C := RX11) (T := TX11) (N := 17) snd_11_canSeek rfl dX11_seek_27 tw_790 tw_792 tw_19 tw_65 tw_793 hdd_11_canSeek ⟨rfl, rfl⟩) <|
    fm_c (si_if_ne dX11_seek_30 rfl) <|
    fm_c (si_bipush dX11_seek_33 rfl) <|
    fm_c (si_call snd_11_refused dX11_seek_35 tw_673 tw_674 tw_65 tw_675 hdd_11_refused ⟨rfl, rfl⟩) <|
    fm_c (si_lret rfl dX11_seek_38) <|
    fm_c (si_aloadn dX11_seek_39 rfl) <|
    fm_c (si_getf (C := RX11) (T := TX11) (N := 17) dX11_seek_40 rfl inC_11 rfl tw_335) <|
    fm_c (si_callv (C := RX4) (T := TX4) (N := 3) snd_4_asBits rfl dX11_seek_43 tw_815 tw_816 tw_817 tw_75 tw_818 hdd_4_asBits ⟨rfl, rfl⟩) <|
    fm_c (si_istoren dX11_seek_46 rfl rfl) <|
    fm_c (si_aloadn dX11_seek_47 rfl) <|
    fm_c (si_getf (C := RX11) (T := TX11) (N := 17) dX11_seek_48 rfl inC_11 rfl tw_336) <|
    fm_c (si_iloadn dX11_seek_51 rfl) <|
    fm_c (si_callv (C := RX6) (T := TX6) (N := 3) snd_6_solve rfl dX11_seek_52 tw_644 tw_645 tw_646 tw_76 tw_647 hdd_6_solve ⟨rfl, rfl⟩) <|
    fm_c (si_iloadn dX11_seek_55 rfl) <|
    fm_c (si_if_lt dX11_seek_56 rfl) <|
    fm_c (si_aloadn dX11_seek_59 rfl) <|
    fm_c (si_getf (C := RX11) (T := TX11) (N := 17) dX11_seek_60 rfl inC_11 rfl tw_336) <|
    fm_c (si_iloadn dX11_seek_63 rfl) <|
    fm_c (si_iloadn dX11_seek_64 rfl) <|
    fm_c (si_callv (C := RX6) (T := TX6) (N := 3) snd_6_stopAt rfl dX11_seek_65 tw_661 tw_662 tw_663 tw_76 tw_664 hdd_6_stopAt ⟨rfl, rfl⟩) <|
    fm_c (si_i2l dX11_seek_68) <|
    fm_c (si_lret rfl dX11_seek_69) <|
    fm_c (si_aloadn dX11_seek_70 rfl) <|
    fm_c (si_getf (C := RX11) (T := TX11) (N := 17) dX11_seek_71 rfl inC_11 rfl tw_336) <|
    fm_c (si_iconst dX11_seek_74 rfl) <|
    fm_c (si_iloadn dX11_seek_75 rfl) <|
    fm_c (si_callv (C := RX6) (T := TX6) (N := 3) snd_6_leastFrom rfl dX11_seek_76 tw_660 tw_657 tw_658 tw_76 tw_659 hdd_6_leastFrom ⟨rfl, rfl⟩) <|
    fm_c (si_i2l dX11_seek_79) <|
    fm_c (si_aloadn dX11_seek_80 rfl) <|
    fm_c (si_getf (C := RX11) (T := TX11) (N := 17) dX11_seek_81 rfl inC_11 rfl tw_335) <|
    fm_c (si_iloadn dX11_seek_84 rfl) <|
    fm_c (si_callv (C := RX4) (T := TX4) (N := 3) snd_4_weightOf rfl dX11_seek_85 tw_819 tw_799 tw_800 tw_75 tw_801 hdd_4_weightOf ⟨rfl, rfl⟩) <|
    fm_c (si_i2l dX11_seek_88) <|
    fm_c (si_iloadn dX11_seek_89 rfl) <|
    fm_c (si_iconst dX11_seek_90 rfl) <|
    fm_c (si_iadd dX11_seek_91) <|
    fm_c (si_call snd_11_lowest dX11_seek_92 tw_679 tw_680 tw_65 tw_681 hdd_11_lowest ⟨rfl, rfl⟩) <|
    fm_c (si_lret rfl dX11_seek_95) <|
    fun _ h => absurd h List.not_mem_nil
