def K11_withPersons : List (Nat × am_O) := [(0, o_lload 1 1),
  (1, o_lstore 3 2),
  (2, o_push (aI 0) 3),
  (3, o_istore 5 5),
  (5, o_iload 5 7),
  (7, o_push (aI 5) 8),
  (8, o_ic (fun a b => b ≤ a) 61 11),
  (11, o_push (aL 31) 14),
  (14, o_lload 3 15),
  (15, o_binL (fun a b => w64 (a * b)) 16),
  (16, o_aload 0 17),
  (17, o_iload 5 19),
  (19, o_callv S11_order 11 1 false 22),
  (22, o_i2l 23),
  (23, o_binL (fun a b => w64 (a + b)) 24),
  (24, o_lstore 3 25),
  (25, o_push (aI (-2)) 27),
  (27, o_istore 6 29),
  (29, o_iload 6 31),
  (31, o_if (fun a => 0 < a) 55 34),
  (34, o_push (aL 31) 37),
  (37, o_lload 3 38),
  (38, o_binL (fun a b => w64 (a * b)) 39),
  (39, o_aload 0 40),
  (40, o_iload 5 42),
  (42, o_iload 6 44),
  (44, o_callv S11_seek 11 2 false 47),
  (47, o_binL (fun a b => w64 (a + b)) 48),
  (48, o_lstore 3 49),
  (49, o_iinc 6 1 52),
  (52, o_goto 29),
  (55, o_iinc 5 1 58),
  (58, o_goto 5),
  (61, o_lload 3 62),
  (62, o_lret)]
def S11_withPersons : am_E := am_S K11_withPersons 7
theorem hdd_11_withPersons : yX11_withPersons.cls ≠ "java/lang/invoke/MethodHandle" ∧ yX11_withPersons.cls ≠ "java/lang/invoke/VarHandle" ∧ (parseMethodDescriptor yX11_withPersons.desc).map (fun d => d.parameters.length) = some 1 := by decide +kernel
set_option maxRecDepth 100000 in
theorem snd_11_withPersons : am_Sound yX11_withPersons cX11_withPersons 7 (some .long) 5 122 S11_withPersons :=
  am_sound_of (own := RX11) (by decide) rfl <|
    fm_c (si_lloadn dX11_withPersons_0 rfl) <|
    fm_c (si_lstoren dX11_withPersons_1 rfl rfl) <|
    fm_c (si_iconst dX11_withPersons_2 rfl) <|
    fm_c (si_istore dX11_withPersons_3 rfl) <|
    fm_c (si_iload dX11_withPersons_5) <|
    fm_c (si_iconst dX11_withPersons_7 rfl) <|
    fm_c (si_ic_ge dX11_withPersons_8 rfl) <|
    fm_c (si_ldc2 dX11_withPersons_11 tw_914 rfl) <|
    fm_c (si_lloadn dX11_withPersons_14 rfl) <|
    fm_c (si_lmul dX11_withPersons_15) <|
    fm_c (si_aloadn dX11_withPersons_16 rfl) <|
    fm_c (si_iload dX11_withPersons_17) <|
    fm_c (si_callv (C := RX11) (T := TX11) (N := 17) snd_11_order rfl dX11_withPersons_19 tw_926 tw_588 tw_589 tw_65 tw_590 hdd_11_order ⟨rfl, rfl⟩) <|
    fm_c (si_i2l dX11_withPersons_22) <|
    fm_c (si_ladd dX11_withPersons_23) <|
    fm_c (si_lstoren dX11_withPersons_24 rfl rfl) <|
    fm_c (si_bipush dX11_withPersons_25 rfl) <|
    fm_c (si_istore dX11_withPersons_27 rfl) <|
    fm_c (si_iload dX11_withPersons_29) <|
    fm_c (si_if_gt dX11_withPersons_31 rfl) <|
    fm_c (si_ldc2 dX11_withPersons_34 tw_914 rfl) <|
    fm_c (si_lloadn dX11_withPersons_37 rfl) <|
    fm_c (si_lmul dX11_withPersons_38) <|
    fm_c (si_aloadn dX11_withPersons_39 rfl) <|
    fm_c (si_iload dX11_withPersons_40) <|
    fm_c (si_iload dX11_withPersons_42) <|
    fm_c (si_callv (C := RX11) (T := TX11) (N := 17) snd_11_seek rfl dX11_withPersons_44 tw_927 tw_787 tw_788 tw_65 tw_789 hdd_11_seek ⟨rfl, rfl⟩) <|
    fm_c (si_ladd dX11_withPersons_47) <|
    fm_c (si_lstoren dX11_withPersons_48 rfl rfl) <|
    fm_c (si_iinc dX11_withPersons_49 rfl rfl) <|
    fm_c (si_goto dX11_withPersons_52 rfl) <|
    fm_c (si_iinc dX11_withPersons_55 rfl rfl) <|
    fm_c (si_goto dX11_withPersons_58 rfl) <|
    fm_c (si_lloadn dX11_withPersons_61 rfl) <|
    fm_c (si_lret rfl dX11_withPersons_62) <|
    fun _ h => absurd h List.not_mem_nil
def K11_near : List (Nat × am_O) := [(0, o_aload 0 1),
  (1, o_getf 11 3 4),
  (4, o_iload 1 5),
  (5, o_callv S2_isPlace 2 1 false 8),
  (8, o_if (fun a => a = 0) 22 11),
  (11, o_aload 0 12),
  (12, o_getf 11 3 15),
  (15, o_iload 2 16),
  (16, o_callv S2_isPlace 2 1 false 19),
  (19, o_if (fun a => ¬ a = 0) 25 22),
  (22, o_push (aI (-2)) 24),
  (24, o_iret),
  (25, o_aload 0 26),
  (26, o_getf 11 4 29),
  (29, o_iload 1 30),
  (30, o_callv S0_measureFrom 0 1 true 33),
  (33, o_aload 0 34),
  (34, o_getf 11 4 37),
  (37, o_iload 2 38),
  (38, o_callv S0_stepsTo 0 1 false 41),
  (41, o_iret)]
def S11_near : am_E := am_S K11_near 3
theorem hdd_11_near : yX11_near.cls ≠ "java/lang/invoke/MethodHandle" ∧ yX11_near.cls ≠ "java/lang/invoke/VarHandle" ∧ (parseMethodDescriptor yX11_near.desc).map (fun d => d.parameters.length) = some 2 := by decide +kernel
set_option maxRecDepth 100000 in
theorem snd_11_near : am_Sound yX11_near cX11_near 3 (some .int) 2 49 S11_near :=
  am_sound_of (own := RX11) (by decide) rfl <|
    fm_c (si_aloadn dX11_near_0 rfl) <|
    fm_c (si_getf (C := RX11) (T := TX11) (N := 17) dX11_near_1 rfl inC_11 rfl tw_328) <|
    fm_c (si_iloadn dX11_near_4 rfl) <|
    fm_c (si_callv (C := RX2) (T := TX2) (N := 3) snd_2_isPlace rfl dX11_near_5 tw_513 tw_414 tw_415 tw_67 tw_416 hdd_2_isPlace ⟨rfl, rfl⟩) <|
    fm_c (si_if_eq dX11_near_8 rfl) <|
    fm_c (si_aloadn dX11_near_11 rfl) <|
    fm_c (si_getf (C := RX11) (T := TX11) (N := 17) dX11_near_12 rfl inC_11 rfl tw_328) <|
    fm_c (si_iloadn dX11_near_15 rfl) <|
    fm_c (si_callv (C := RX2) (T := TX2) (N := 3) snd_2_isPlace rfl dX11_near_16 tw_513 tw_414 tw_415 tw_67 tw_416 hdd_2_isPlace ⟨rfl, rfl⟩) <|
    fm_c (si_if_ne dX11_near_19 rfl) <|
    fm_c (si_bipush dX11_near_22 rfl) <|
    fm_c (si_iret rfl dX11_near_24) <|
    fm_c (si_aloadn dX11_near_25 rfl) <|
    fm_c (si_getf (C := RX11) (T := TX11) (N := 17) dX11_near_26 rfl inC_11 rfl tw_329) <|
    fm_c (si_iloadn dX11_near_29 rfl) <|
    fm_c (si_callv (C := RX0) (T := TX0) (N := 3) snd_0_measureFrom rfl dX11_near_30 tw_534 tw_535 tw_536 tw_69 tw_537 hdd_0_measureFrom ⟨rfl, rfl⟩) <|
    fm_c (si_aloadn dX11_near_33 rfl) <|
    fm_c (si_getf (C := RX11) (T := TX11) (N := 17) dX11_near_34 rfl inC_11 rfl tw_329) <|
    fm_c (si_iloadn dX11_near_37 rfl) <|
    fm_c (si_callv (C := RX0) (T := TX0) (N := 3) snd_0_stepsTo rfl dX11_near_38 tw_541 tw_542 tw_543 tw_69 tw_544 hdd_0_stepsTo ⟨rfl, rfl⟩) <|
    fm_c (si_iret rfl dX11_near_41) <|
    fun _ h => absurd h List.not_mem_nil
def K1_cheapestOpen : List (Nat × am_O) := [(0, o_push (aI (-1)) 1),
  (1, o_istore 1 2),
  (2, o_push (aI 1073741824) 4),
  (4, o_istore 2 5),
  (5, o_push (aI 0) 6),
  (6, o_istore 3 7),
  (7, o_iload 3 8),
  (8, o_push (aI 64) 10),
  (10, o_ic (fun a b => b ≤ a) 51 13),
  (13, o_aload 0 14),
  (14, o_getf 1 1 17),
  (17, o_iload 3 18),
  (18, o_iald 19),
  (19, o_iload 2 20),
  (20, o_ic (fun a b => b ≤ a) 45 23),
  (23, o_aload 0 24),
  (24, o_getf 1 2 27),
  (27, o_iload 3 28),
  (28, o_shL am_lushr 29),
  (29, o_push (aL 1) 30),
  (30, o_binL am_land 31),
  (31, o_push (aL 0) 32),
  (32, o_lcmp 33),
  (33, o_if (fun a => ¬ a = 0) 45 36),
  (36, o_iload 3 37),
  (37, o_istore 1 38),
  (38, o_aload 0 39),
  (39, o_getf 1 1 42),
  (42, o_iload 3 43),
  (43, o_iald 44),
  (44, o_istore 2 45),
  (45, o_iinc 3 1 48),
  (48, o_goto 7),
  (51, o_iload 1 52),
  (52, o_iret)]
def S1_cheapestOpen : am_E := am_S K1_cheapestOpen 4
theorem hdd_1_cheapestOpen : yX1_cheapestOpen.cls ≠ "java/lang/invoke/MethodHandle" ∧ yX1_cheapestOpen.cls ≠ "java/lang/invoke/VarHandle" ∧ (parseMethodDescriptor yX1_cheapestOpen.desc).map (fun d => d.parameters.length) = some 0 := by decide +kernel
set_option maxRecDepth 100000 in
theorem snd_1_cheapestOpen : am_Sound yX1_cheapestOpen cX1_cheapestOpen 4 (some .int) 0 0 S1_cheapestOpen :=
  am_sound_of (own := RX1) (by decide) rfl <|
    fm_c (si_iconst dX1_cheapestOpen_0 rfl) <|
    fm_c (si_istoren dX1_cheapestOpen_1 rfl rfl) <|
    fm_c (si_ldc dX1_cheapestOpen_2 tw_553 rfl) <|
    fm_c (si_istoren dX1_cheapestOpen_4 rfl rfl) <|
    fm_c (si_iconst dX1_cheapestOpen_5 rfl) <|
    fm_c (si_istoren dX1_cheapestOpen_6 rfl rfl) <|
    fm_c (si_iloadn dX1_cheapestOpen_7 rfl) <|
    fm_c (si_bipush dX1_cheapestOpen_8 rfl) <|
    fm_c (si_ic_ge dX1_cheapestOpen_10 rfl) <|
    fm_c (si_aloadn dX1_cheapestOpen_13 rfl) <|
    fm_c (si_getf (C := RX1) (T := TX1) (N := 3) dX1_cheapestOpen_14 rfl inC_1 rfl tw_158) <|
    fm_c (si_iloadn dX1_cheapestOpen_17 rfl) <|
    fm_c (si_iald dX1_cheapestOpen_18) <|
    fm_c (si_iloadn dX1_cheapestOpen_19 rfl) <|
    fm_c (si_ic_ge dX1_cheapestOpen_20 rfl) <|
    fm_c (si_aloadn dX1_cheapestOpen_23 rfl) <|
    fm_c (si_getf (C := RX1) (T := TX1) (N := 3) dX1_cheapestOpen_24 rfl inC_1 rfl tw_159) <|
    fm_c (si_iloadn dX1_cheapestOpen_27 rfl) <|
    fm_c (si_lushr dX1_cheapestOpen_28) <|
    fm_c (si_lconst1 dX1_cheapestOpen_29) <|
    fm_c (si_land dX1_cheapestOpen_30) <|
    fm_c (si_lconst0 dX1_cheapestOpen_31) <|
    fm_c (si_lcmp dX1_cheapestOpen_32) <|
    fm_c (si_if_ne dX1_cheapestOpen_33 rfl) <|
    fm_c (si_iloadn dX1_cheapestOpen_36 rfl) <|
    fm_c (si_istoren dX1_cheapestOpen_37 rfl rfl) <|
    fm_c (si_aloadn dX1_cheapestOpen_38 rfl) <|
    fm_c (si_getf (C := RX1) (T := TX1) (N := 3) dX1_cheapestOpen_39 rfl inC_1 rfl tw_158) <|
    fm_c (si_iloadn dX1_cheapestOpen_42 rfl) <|
    fm_c (si_iald dX1_cheapestOpen_43) <|
    fm_c (si_istoren dX1_cheapestOpen_44 rfl rfl) <|
    fm_c (si_iinc dX1_cheapestOpen_45 rfl rfl) <|
    fm_c (si_goto dX1_cheapestOpen_48 rfl) <|
    fm_c (si_iloadn dX1_cheapestOpen_51 rfl) <|
    fm_c (si_iret rfl dX1_cheapestOpen_52) <|
    fun _ h => absurd h List.not_mem_nil
def K2_isCell : List (Nat × am_O) := [(0, o_iload 0 1),
  (1, o_if (fun a => a < 0) 14 4),
  (4, o_iload 0 5),
  (5, o_push (aI 64) 7),
  (7, o_ic (fun a b => b ≤ a) 14 10),
  (10, o_push (aI 1) 11),
  (11, o_goto 15),
  (14, o_push (aI 0) 15),
  (15, o_zret)]
def S2_isCell : am_E := am_S K2_isCell 1
theorem hdd_2_isCell : yX2_isCell.cls ≠ "java/lang/invoke/MethodHandle" ∧ yX2_isCell.cls ≠ "java/lang/invoke/VarHandle" ∧ (parseMethodDescriptor yX2_isCell.desc).map (fun d => d.parameters.length) = some 1 := by decide +kernel
set_option maxRecDepth 100000 in
theorem snd_2_isCell : am_Sound yX2_isCell cX2_isCell 1 (some .boolean) 0 0 S2_isCell :=
  am_sound_of (own := RX2) (by decide) rfl <|
    fm_c (si_iloadn dX2_isCell_0 rfl) <|
    fm_c (si_if_lt dX2_isCell_1 rfl) <|
    fm_c (si_iloadn dX2_isCell_4 rfl) <|
    fm_c (si_bipush dX2_isCell_5 rfl) <|
    fm_c (si_ic_ge dX2_isCell_7 rfl) <|
    fm_c (si_iconst dX2_isCell_10 rfl) <|
    fm_c (si_goto dX2_isCell_11 rfl) <|
    fm_c (si_iconst dX2_isCell_14 rfl) <|
    fm_c (si_zret rfl dX2_isCell_15) <|
    fun _ h => absurd h List.not_mem_nil
def K1_tollInto : List (Nat × am_O) := [(0, o_aload 0 1),
  (1, o_getf 1 0 4),
  (4, o_iload 1 5),
  (5, o_callv S2_densityOf 2 1 false 8),
  (8, o_push (aI 64) 10),
  (10, o_bin (fun a b => w32 (a * b)) 11),
  (11, o_push (aI 1) 12),
  (12, o_bin (fun a b => w32 (a + b)) 13),
  (13, o_iret)]
def S1_tollInto : am_E := am_S K1_tollInto 2
theorem hdd_1_tollInto : yX1_tollInto.cls ≠ "java/lang/invoke/MethodHandle" ∧ yX1_tollInto.cls ≠ "java/lang/invoke/VarHandle" ∧ (parseMethodDescriptor yX1_tollInto.desc).map (fun d => d.parameters.length) = some 1 := by decide +kernel
set_option maxRecDepth 100000 in
theorem snd_1_tollInto : am_Sound yX1_tollInto cX1_tollInto 2 (some .int) 1 21 S1_tollInto :=
  am_sound_of (own := RX1) (by decide) rfl <|
    fm_c (si_aloadn dX1_tollInto_0 rfl) <|
    fm_c (si_getf (C := RX1) (T := TX1) (N := 3) dX1_tollInto_1 rfl inC_1 rfl tw_157) <|
    fm_c (si_iloadn dX1_tollInto_4 rfl) <|
    fm_c (si_callv (C := RX2) (T := TX2) (N := 3) snd_2_densityOf rfl dX1_tollInto_5 tw_565 tw_515 tw_516 tw_67 tw_517 hdd_2_densityOf ⟨rfl, rfl⟩) <|
    fm_c (si_bipush dX1_tollInto_8 rfl) <|
    fm_c (si_imul dX1_tollInto_10) <|
    fm_c (si_iconst dX1_tollInto_11 rfl) <|
    fm_c (si_iadd dX1_tollInto_12) <|
    fm_c (si_iret rfl dX1_tollInto_13) <|
    fun _ h => absurd h List.not_mem_nil
def K1_measureTo : List (Nat × am_O) := [(0, o_aload 0 1),
  (1, o_getf 1 1 4),
  (4, o_push (aI 1073741824) 6),
  (6, o_call SJ_fillI 2 true 9),
  (9, o_aload 0 10),
  (10, o_push (aL 0) 11),
  (11, o_putL 1 2 14),
  (14, o_aload 0 15),
  (15, o_getf 1 0 18),
  (18, o_iload 1 19),
  (19, o_callv S2_isPlace 2 1 false 22),
  (22, o_if (fun a => a = 0) 32 25),
  (25, o_aload 0 26),
  (26, o_getf 1 1 29),
  (29, o_iload 1 30),
  (30, o_push (aI 0) 31),
  (31, o_iast 32),
  (32, o_push (aI 0) 33),
  (33, o_istore 2 34),
  (34, o_iload 2 35),
  (35, o_push (aI 64) 37),
  (37, o_ic (fun a b => b ≤ a) 141 40),
  (40, o_aload 0 41),
  (41, o_callv S1_cheapestOpen 1 0 false 44),
  (44, o_istore 3 45),
  (45, o_iload 3 46),
  (46, o_call S2_isCell 1 false 49),
  (49, o_if (fun a => ¬ a = 0) 53 52),
  (52, o_vret),
  (53, o_aload 0 54),
  (54, o_dup 55),
  (55, o_getf 1 2 58),
  (58, o_push (aL 1) 59),
  (59, o_iload 3 60),
  (60, o_shL am_lshl 61),
  (61, o_binL am_lor 62),
  (62, o_putL 1 2 65),
  (65, o_aload 0 66),
  (66, o_getf 1 1 69),
  (69, o_iload 3 70),
  (70, o_iald 71),
  (71, o_aload 0 72),
  (72, o_iload 3 73),
  (73, o_callv S1_tollInto 1 1 false 76),
  (76, o_bin (fun a b => w32 (a + b)) 77),
  (77, o_istore 4 79),
  (79, o_push (aI 0) 80),
  (80, o_istore 5 82),
  (82, o_iload 5 84),
  (84, o_push (aI 4) 85),
  (85, o_ic (fun a b => b ≤ a) 135 88),
  (88, o_aload 0 89),
  (89, o_getf 1 0 92),
  (92, o_iload 3 93),
  (93, o_iload 5 95),
  (95, o_callv S2_beside 2 2 false 98),
  (98, o_istore 6 100),
  (100, o_iload 6 102),
  (102, o_call S2_isCell 1 false 105),
  (105, o_if (fun a => a = 0) 129 108),
  (108, o_iload 4 110),
  (110, o_aload 0 111),
  (111, o_getf 1 1 114),
  (114, o_iload 6 116),
  (116, o_iald 117),
  (117, o_ic (fun a b => b ≤ a) 129 120),
  (120, o_aload 0 121),
  (121, o_getf 1 1 124),
  (124, o_iload 6 126),
  (126, o_iload 4 128),
  (128, o_iast 129),
  (129, o_iinc 5 1 132),
  (132, o_goto 82),
  (135, o_iinc 2 1 138),
  (138, o_goto 34),
  (141, o_vret)]
def S1_measureTo : am_E := am_S K1_measureTo 7
theorem hdd_1_measureTo : yX1_measureTo.cls ≠ "java/lang/invoke/MethodHandle" ∧ yX1_measureTo.cls ≠ "java/lang/invoke/VarHandle" ∧ (parseMethodDescriptor yX1_measureTo.desc).map (fun d => d.parameters.length) = some 1 := by decide +kernel
set_option maxRecDepth 100000 in
theorem snd_1_measureTo : am_Sound yX1_measureTo cX1_measureTo 7 none 2 42 S1_measureTo :=
  am_sound_of (own := RX1) (by decide) rfl <|
    fm_c (si_aloadn dX1_measureTo_0 rfl) <|
    fm_c (si_getf (C := RX1) (T := TX1) (N := 3) dX1_measureTo_1 rfl inC_1 rfl tw_158) <|
    fm_c (si_ldc dX1_measureTo_4 tw_553 rfl) <|
    fm_c (si_call snd_J_fillI dX1_measureTo_6 tw_554 tw_122 tw_68 tw_123 hdd_J_fillI ⟨rfl, rfl⟩) <|
    fm_c (si_aloadn dX1_measureTo_9 rfl) <|
    fm_c (si_lconst0 dX1_measureTo_10) <|
    fm_c (si_putL (C := RX1) (T := TX1) (N := 3) dX1_measureTo_11 rfl inC_1 tyX1 tyX1_ok nmX1 rfl tw_159 rfl (tyX1_ok 2 (by decide))) <|
    fm_c (si_aloadn dX1_measureTo_14 rfl) <|
    fm_c (si_getf (C := RX1) (T := TX1) (N := 3) dX1_measureTo_15 rfl inC_1 rfl tw_157) <|
    fm_c (si_iloadn dX1_measureTo_18 rfl) <|
    fm_c (si_callv (C := RX2) (T := TX2) (N := 3) snd_2_isPlace rfl dX1_measureTo_19 tw_555 tw_414 tw_415 tw_67 tw_416 hdd_2_isPlace ⟨rfl, rfl⟩) <|
    fm_c (si_if_eq dX1_measureTo_22 rfl) <|
    fm_c (si_aloadn dX1_measureTo_25 rfl) <|
    fm_c (si_getf (C := RX1) (T := TX1) (N := 3) dX1_measureTo_26 rfl inC_1 rfl tw_158) <|
    fm_c (si_iloadn dX1_measureTo_29 rfl) <|
    fm_c (si_iconst dX1_measureTo_30 rfl) <|
    fm_c (si_iast dX1_measureTo_31) <|
    fm_c (si_iconst dX1_measureTo_32 rfl) <|
    fm_c (si_istoren dX1_measureTo_33 rfl rfl) <|
    fm_c (si_iloadn dX1_measureTo_34 rfl) <|
    fm_c (si_bipush dX1_measureTo_35 rfl) <|
    fm_c (si_ic_ge dX1_measureTo_37 rfl) <|
    fm_c (si_aloadn dX1_measureTo_40 rfl) <|
    fm_c (si_callv (C := RX1) (T := TX1) (N := 3) snd_1_cheapestOpen rfl dX1_measureTo_41 tw_556 tw_558 tw_7 tw_70 tw_559 hdd_1_cheapestOpen ⟨rfl, rfl⟩) <|
    fm_c (si_istoren dX1_measureTo_44 rfl rfl) <|
    fm_c (si_iloadn dX1_measureTo_45 rfl) <|
    fm_c (si_call snd_2_isCell dX1_measureTo_46 tw_560 tw_482 tw_67 tw_483 hdd_2_isCell ⟨rfl, rfl⟩) <|
    fm_c (si_if_ne dX1_measureTo_49 rfl) <|
    fm_c (si_vret rfl dX1_measureTo_52) <|
    fm_c (si_aloadn dX1_measureTo_53 rfl) <|
    fm_c (si_dup dX1_measureTo_54) <|
    fm_c (si_getf (C := RX1) (T := TX1) (N := 3) dX1_measureTo_55 rfl inC_1 rfl tw_159) <|
    fm_c (si_lconst1 dX1_measureTo_58) <|
    fm_c (si_iloadn dX1_measureTo_59 rfl) <|
    fm_c (si_lshl dX1_measureTo_60) <|
    fm_c (si_lor dX1_measureTo_61) <|
    fm_c (si_putL (C := RX1) (T := TX1) (N := 3) dX1_measureTo_62 rfl inC_1 tyX1 tyX1_ok nmX1 rfl tw_159 rfl (tyX1_ok 2 (by decide))) <|
    fm_c (si_aloadn dX1_measureTo_65 rfl) <|
    fm_c (si_getf (C := RX1) (T := TX1) (N := 3) dX1_measureTo_66 rfl inC_1 rfl tw_158) <|
    fm_c (si_iloadn dX1_measureTo_69 rfl) <|
    fm_c (si_iald dX1_measureTo_70) <|
    fm_c (si_aloadn dX1_measureTo_71 rfl) <|
    fm_c (si_iloadn dX1_measureTo_72 rfl) <|
    fm_c (si_callv (C := RX1) (T := TX1) (N := 3) snd_1_tollInto rfl dX1_measureTo_73 tw_561 tw_563 tw_8 tw_70 tw_564 hdd_1_tollInto ⟨rfl, rfl⟩) <|
    fm_c (si_iadd dX1_measureTo_76) <|
    fm_c (si_istore dX1_measureTo_77 rfl) <|
    fm_c (si_iconst dX1_measureTo_79 rfl) <|
    fm_c (si_istore dX1_measureTo_80 rfl) <|
    fm_c (si_iload dX1_measureTo_82) <|
    fm_c (si_iconst dX1_measureTo_84 rfl) <|
    fm_c (si_ic_ge dX1_measureTo_85 rfl) <|
    fm_c (si_aloadn dX1_measureTo_88 rfl) <|
    fm_c (si_getf (C := RX1) (T := TX1) (N := 3) dX1_measureTo_89 rfl inC_1 rfl tw_157) <|
    fm_c (si_iloadn dX1_measureTo_92 rfl) <|
    fm_c (si_iload dX1_measureTo_93) <|
    fm_c (si_callv (C := RX2) (T := TX2) (N := 3) snd_2_beside rfl dX1_measureTo_95 tw_566 tw_426 tw_427 tw_67 tw_428 hdd_2_beside ⟨rfl, rfl⟩) <|
    fm_c (si_istore dX1_measureTo_98 rfl) <|
    fm_c (si_iload dX1_measureTo_100) <|
    fm_c (si_call snd_2_isCell dX1_measureTo_102 tw_560 tw_482 tw_67 tw_483 hdd_2_isCell ⟨rfl, rfl⟩) <|
    fm_c (si_if_eq dX1_measureTo_105 rfl) <|
    fm_c (si_iload dX1_measureTo_108) <|
    fm_c (si_aloadn dX1_measureTo_110 rfl) <|
    fm_c (si_getf (C := RX1) (T := TX1) (N := 3) dX1_measureTo_111 rfl inC_1 rfl tw_158) <|
    fm_c (si_iload dX1_measureTo_114) <|
    fm_c (si_iald dX1_measureTo_116) <|
    fm_c (si_ic_ge dX1_measureTo_117 rfl) <|
    fm_c (si_aloadn dX1_measureTo_120 rfl) <|
    fm_c (si_getf (C := RX1) (T := TX1) (N := 3) dX1_measureTo_121 rfl inC_1 rfl tw_158) <|
    fm_c (si_iload dX1_measureTo_124) <|
    fm_c (si_iload dX1_measureTo_126) <|
    fm_c (si_iast dX1_measureTo_128) <|
    fm_c (si_iinc dX1_measureTo_129 rfl rfl) <|
    fm_c (si_goto dX1_measureTo_132 rfl) <|
    fm_c (si_iinc dX1_measureTo_135 rfl rfl) <|
    fm_c (si_goto dX1_measureTo_138 rfl) <|
    fm_c (si_vret rfl dX1_measureTo_141) <|
    fun _ h => absurd h List.not_mem_nil
def K1_reaches : List (Nat × am_O) := [(0, o_iload 1 1),
  (1, o_call S2_isCell 1 false 4),
  (4, o_if (fun a => a = 0) 22 7),
  (7, o_aload 0 8),
  (8, o_getf 1 1 11),
  (11, o_iload 1 12),
  (12, o_iald 13),
  (13, o_push (aI 1073741824) 15),
  (15, o_ic (fun a b => b ≤ a) 22 18),
  (18, o_push (aI 1) 19),
  (19, o_goto 23),
  (22, o_push (aI 0) 23),
  (23, o_zret)]
def S1_reaches : am_E := am_S K1_reaches 2
theorem hdd_1_reaches : yX1_reaches.cls ≠ "java/lang/invoke/MethodHandle" ∧ yX1_reaches.cls ≠ "java/lang/invoke/VarHandle" ∧ (parseMethodDescriptor yX1_reaches.desc).map (fun d => d.parameters.length) = some 1 := by decide +kernel
set_option maxRecDepth 100000 in
theorem snd_1_reaches : am_Sound yX1_reaches cX1_reaches 2 (some .boolean) 1 20 S1_reaches :=
  am_sound_of (own := RX1) (by decide) rfl <|
    fm_c (si_iloadn dX1_reaches_0 rfl) <|
    fm_c (si_call snd_2_isCell dX1_reaches_1 tw_560 tw_482 tw_67 tw_483 hdd_2_isCell ⟨rfl, rfl⟩) <|
    fm_c (si_if_eq dX1_reaches_4 rfl) <|
    fm_c (si_aloadn dX1_reaches_7 rfl) <|
    fm_c (si_getf (C := RX1) (T := TX1) (N := 3) dX1_reaches_8 rfl inC_1 rfl tw_158) <|
    fm_c (si_iloadn dX1_reaches_11 rfl) <|
    fm_c (si_iald dX1_reaches_12) <|
    fm_c (si_ldc dX1_reaches_13 tw_553 rfl) <|
    fm_c (si_ic_ge dX1_reaches_15 rfl) <|
    fm_c (si_iconst dX1_reaches_18 rfl) <|
    fm_c (si_goto dX1_reaches_19 rfl) <|
    fm_c (si_iconst dX1_reaches_22 rfl) <|
    fm_c (si_zret rfl dX1_reaches_23) <|
    fun _ h => absurd h List.not_mem_nil
def K1_densityFrom : List (Nat × am_O) := [(0, o_aload 0 1),
  (1, o_iload 1 2),
  (2, o_callv S1_reaches 1 1 false 5),
  (5, o_if (fun a => a = 0) 20 8),
  (8, o_aload 0 9),
  (9, o_getf 1 1 12),
  (12, o_iload 1 13),
  (13, o_iald 14),
  (14, o_push (aI 64) 16),
  (16, o_idiv 17),
  (17, o_goto 21),
  (20, o_push (aI (-1)) 21),
  (21, o_iret)]
def S1_densityFrom : am_E := am_S K1_densityFrom 2
theorem hdd_1_densityFrom : yX1_densityFrom.cls ≠ "java/lang/invoke/MethodHandle" ∧ yX1_densityFrom.cls ≠ "java/lang/invoke/VarHandle" ∧ (parseMethodDescriptor yX1_densityFrom.desc).map (fun d => d.parameters.length) = some 1 := by decide +kernel
set_option maxRecDepth 100000 in
theorem snd_1_densityFrom : am_Sound yX1_densityFrom cX1_densityFrom 2 (some .int) 2 41 S1_densityFrom :=
  am_sound_of (own := RX1) (by decide) rfl <|
    fm_c (si_aloadn dX1_densityFrom_0 rfl) <|
    fm_c (si_iloadn dX1_densityFrom_1 rfl) <|
    fm_c (si_callv (C := RX1) (T := TX1) (N := 3) snd_1_reaches rfl dX1_densityFrom_2 tw_571 tw_573 tw_9 tw_70 tw_574 hdd_1_reaches ⟨rfl, rfl⟩) <|
    fm_c (si_if_eq dX1_densityFrom_5 rfl) <|
    fm_c (si_aloadn dX1_densityFrom_8 rfl) <|
    fm_c (si_getf (C := RX1) (T := TX1) (N := 3) dX1_densityFrom_9 rfl inC_1 rfl tw_158) <|
    fm_c (si_iloadn dX1_densityFrom_12 rfl) <|
    fm_c (si_iald dX1_densityFrom_13) <|
    fm_c (si_bipush dX1_densityFrom_14 rfl) <|
    fm_c (si_idiv dX1_densityFrom_16) <|
    fm_c (si_goto dX1_densityFrom_17 rfl) <|
    fm_c (si_iconst dX1_densityFrom_20 rfl) <|
    fm_c (si_iret rfl dX1_densityFrom_21) <|
    fun _ h => absurd h List.not_mem_nil
def K1_stepsFrom : List (Nat × am_O) := [(0, o_aload 0 1),
  (1, o_iload 1 2),
  (2, o_callv S1_reaches 1 1 false 5),
  (5, o_if (fun a => a = 0) 20 8),
  (8, o_aload 0 9),
  (9, o_getf 1 1 12),
  (12, o_iload 1 13),
  (13, o_iald 14),
  (14, o_push (aI 64) 16),
  (16, o_irem 17),
  (17, o_goto 21),
  (20, o_push (aI (-1)) 21),
  (21, o_iret)]
def S1_stepsFrom : am_E := am_S K1_stepsFrom 2
theorem hdd_1_stepsFrom : yX1_stepsFrom.cls ≠ "java/lang/invoke/MethodHandle" ∧ yX1_stepsFrom.cls ≠ "java/lang/invoke/VarHandle" ∧ (parseMethodDescriptor yX1_stepsFrom.desc).map (fun d => d.parameters.length) = some 1 := by decide +kernel
set_option maxRecDepth 100000 in
theorem snd_1_stepsFrom : am_Sound yX1_stepsFrom cX1_stepsFrom 2 (some .int) 2 41 S1_stepsFrom :=
  am_sound_of (own := RX1) (by decide) rfl <|
    fm_c (si_aloadn dX1_stepsFrom_0 rfl) <|
    fm_c (si_iloadn dX1_stepsFrom_1 rfl) <|
    fm_c (si_callv (C := RX1) (T := TX1) (N := 3) snd_1_reaches rfl dX1_stepsFrom_2 tw_571 tw_573 tw_9 tw_70 tw_574 hdd_1_reaches ⟨rfl, rfl⟩) <|
    fm_c (si_if_eq dX1_stepsFrom_5 rfl) <|
    fm_c (si_aloadn dX1_stepsFrom_8 rfl) <|
    fm_c (si_getf (C := RX1) (T := TX1) (N := 3) dX1_stepsFrom_9 rfl inC_1 rfl tw_158) <|
    fm_c (si_iloadn dX1_stepsFrom_12 rfl) <|
    fm_c (si_iald dX1_stepsFrom_13) <|
    fm_c (si_bipush dX1_stepsFrom_14 rfl) <|
    fm_c (si_irem dX1_stepsFrom_16) <|
    fm_c (si_goto dX1_stepsFrom_17 rfl) <|
    fm_c (si_iconst dX1_stepsFrom_20 rfl) <|
    fm_c (si_iret rfl dX1_stepsFrom_21) <|
    fun _ h => absurd h List.not_mem_nil
def K1_firstLetter : List (Nat × am_O) := [(0, o_aload 0 1),
  (1, o_iload 1 2),
  (2, o_callv S1_reaches 1 1 false 5),
  (5, o_if (fun a => ¬ a = 0) 10 8),
  (8, o_push (aI (-1)) 9),
  (9, o_iret),
  (10, o_push (aI 0) 11),
  (11, o_istore 2 12),
  (12, o_iload 2 13),
  (13, o_push (aI 4) 14),
  (14, o_ic (fun a b => b ≤ a) 64 17),
  (17, o_aload 0 18),
  (18, o_getf 1 0 21),
  (21, o_iload 1 22),
  (22, o_iload 2 23),
  (23, o_callv S2_beside 2 2 false 26),
  (26, o_istore 3 27),
  (27, o_aload 0 28),
  (28, o_iload 3 29),
  (29, o_callv S1_reaches 1 1 false 32),
  (32, o_if (fun a => a = 0) 58 35),
  (35, o_aload 0 36),
  (36, o_getf 1 1 39),
  (39, o_iload 3 40),
  (40, o_iald 41),
  (41, o_aload 0 42),
  (42, o_iload 3 43),
  (43, o_callv S1_tollInto 1 1 false 46),
  (46, o_bin (fun a b => w32 (a + b)) 47),
  (47, o_aload 0 48),
  (48, o_getf 1 1 51),
  (51, o_iload 1 52),
  (52, o_iald 53),
  (53, o_ic (fun a b => ¬ a = b) 58 56),
  (56, o_iload 2 57),
  (57, o_iret),
  (58, o_iinc 2 1 61),
  (61, o_goto 12),
  (64, o_push (aI (-1)) 65),
  (65, o_iret)]
def S1_firstLetter : am_E := am_S K1_firstLetter 4
theorem hdd_1_firstLetter : yX1_firstLetter.cls ≠ "java/lang/invoke/MethodHandle" ∧ yX1_firstLetter.cls ≠ "java/lang/invoke/VarHandle" ∧ (parseMethodDescriptor yX1_firstLetter.desc).map (fun d => d.parameters.length) = some 1 := by decide +kernel
set_option maxRecDepth 100000 in
theorem snd_1_firstLetter : am_Sound yX1_firstLetter cX1_firstLetter 4 (some .int) 2 42 S1_firstLetter :=
  am_sound_of (own := RX1) (by decide) rfl <|
    fm_c (si_aloadn dX1_firstLetter_0 rfl) <|
    fm_c (si_iloadn dX1_firstLetter_1 rfl) <|
    fm_c (si_callv (C := RX1) (T := TX1) (N := 3) snd_1_reaches rfl dX1_firstLetter_2 tw_571 tw_573 tw_9 tw_70 tw_574 hdd_1_reaches ⟨rfl, rfl⟩) <|
    fm_c (si_if_ne dX1_firstLetter_5 rfl) <|
    fm_c (si_iconst dX1_firstLetter_8 rfl) <|
    fm_c (si_iret rfl dX1_firstLetter_9) <|
    fm_c (si_iconst dX1_firstLetter_10 rfl) <|
    fm_c (si_istoren dX1_firstLetter_11 rfl rfl) <|
    fm_c (si_iloadn dX1_firstLetter_12 rfl) <|
    fm_c (si_iconst dX1_firstLetter_13 rfl) <|
    fm_c (si_ic_ge dX1_firstLetter_14 rfl) <|
    fm_c (si_aloadn dX1_firstLetter_17 rfl) <|
    fm_c (si_getf (C := RX1) (T := TX1) (N := 3) dX1_firstLetter_18 rfl inC_1 rfl tw_157) <|
    fm_c (si_iloadn dX1_firstLetter_21 rfl) <|
    fm_c (si_iloadn dX1_firstLetter_22 rfl) <|
    fm_c (si_callv (C := RX2) (T := TX2) (N := 3) snd_2_beside rfl dX1_firstLetter_23 tw_566 tw_426 tw_427 tw_67 tw_428 hdd_2_beside ⟨rfl, rfl⟩) <|
    fm_c (si_istoren dX1_firstLetter_26 rfl rfl) <|
    fm_c (si_aloadn dX1_firstLetter_27 rfl) <|
    fm_c (si_iloadn dX1_firstLetter_28 rfl) <|
    fm_c (si_callv (C := RX1) (T := TX1) (N := 3) snd_1_reaches rfl dX1_firstLetter_29 tw_571 tw_573 tw_9 tw_70 tw_574 hdd_1_reaches ⟨rfl, rfl⟩) <|
    fm_c (si_if_eq dX1_firstLetter_32 rfl) <|
    fm_c (si_aloadn dX1_firstLetter_35 rfl) <|
    fm_c (si_getf (C := RX1) (T := TX1) (N := 3) dX1_firstLetter_36 rfl inC_1 rfl tw_158) <|
    fm_c (si_iloadn dX1_firstLetter_39 rfl) <|
    fm_c (si_iald dX1_firstLetter_40) <|
    fm_c (si_aloadn dX1_firstLetter_41 rfl) <|
    fm_c (si_iloadn dX1_firstLetter_42 rfl) <|
    fm_c (si_callv (C := RX1) (T := TX1) (N := 3) snd_1_tollInto rfl dX1_firstLetter_43 tw_561 tw_563 tw_8 tw_70 tw_564 hdd_1_tollInto ⟨rfl, rfl⟩) <|
    fm_c (si_iadd dX1_firstLetter_46) <|
    fm_c (si_aloadn dX1_firstLetter_47 rfl) <|
    fm_c (si_getf (C := RX1) (T := TX1) (N := 3) dX1_firstLetter_48 rfl inC_1 rfl tw_158) <|
    fm_c (si_iloadn dX1_firstLetter_51 rfl) <|
    fm_c (si_iald dX1_firstLetter_52) <|
    fm_c (si_ic_ne dX1_firstLetter_53 rfl) <|
    fm_c (si_iloadn dX1_firstLetter_56 rfl) <|
    fm_c (si_iret rfl dX1_firstLetter_57) <|
    fm_c (si_iinc dX1_firstLetter_58 rfl rfl) <|
    fm_c (si_goto dX1_firstLetter_61 rfl) <|
    fm_c (si_iconst dX1_firstLetter_64 rfl) <|
    fm_c (si_iret rfl dX1_firstLetter_65) <|
    fun _ h => absurd h List.not_mem_nil
def K1_letterAt : List (Nat × am_O) := [(0, o_iload 1 1),
  (1, o_istore 3 2),
  (2, o_push (aI 0) 3),
  (3, o_istore 4 5),
  (5, o_iload 4 7),
  (7, o_push (aI 64) 9),
  (9, o_ic (fun a b => b ≤ a) 51 12),
  (12, o_aload 0 13),
  (13, o_iload 3 14),
  (14, o_callv S1_firstLetter 1 1 false 17),
  (17, o_istore 5 19),
  (19, o_iload 5 21),
  (21, o_push (aI (-1)) 22),
  (22, o_ic (fun a b => a = b) 31 25),
  (25, o_iload 4 27),
  (27, o_iload 2 28),
  (28, o_ic (fun a b => ¬ a = b) 34 31),
  (31, o_iload 5 33),
  (33, o_iret),
  (34, o_aload 0 35),
  (35, o_getf 1 0 38),
  (38, o_iload 3 39),
  (39, o_iload 5 41),
  (41, o_callv S2_beside 2 2 false 44),
  (44, o_istore 3 45),
  (45, o_iinc 4 1 48),
  (48, o_goto 5),
  (51, o_push (aI (-1)) 52),
  (52, o_iret)]
def S1_letterAt : am_E := am_S K1_letterAt 6
theorem hdd_1_letterAt : yX1_letterAt.cls ≠ "java/lang/invoke/MethodHandle" ∧ yX1_letterAt.cls ≠ "java/lang/invoke/VarHandle" ∧ (parseMethodDescriptor yX1_letterAt.desc).map (fun d => d.parameters.length) = some 2 := by decide +kernel
set_option maxRecDepth 100000 in
theorem snd_1_letterAt : am_Sound yX1_letterAt cX1_letterAt 6 (some .int) 3 65 S1_letterAt :=
  am_sound_of (own := RX1) (by decide) rfl <|
    fm_c (si_iloadn dX1_letterAt_0 rfl) <|
    fm_c (si_istoren dX1_letterAt_1 rfl rfl) <|
    fm_c (si_iconst dX1_letterAt_2 rfl) <|
    fm_c (si_istore dX1_letterAt_3 rfl) <|
    fm_c (si_iload dX1_letterAt_5) <|
    fm_c (si_bipush dX1_letterAt_7 rfl) <|
    fm_c (si_ic_ge dX1_letterAt_9 rfl) <|
    fm_c (si_aloadn dX1_letterAt_12 rfl) <|
    fm_c (si_iloadn dX1_letterAt_13 rfl) <|
    fm_c (si_callv (C := RX1) (T := TX1) (N := 3) snd_1_firstLetter rfl dX1_letterAt_14 tw_583 tw_585 tw_10 tw_70 tw_586 hdd_1_firstLetter ⟨rfl, rfl⟩) <|
    fm_c (si_istore dX1_letterAt_17 rfl) <|
    fm_c (si_iload dX1_letterAt_19) <|
    fm_c (si_iconst dX1_letterAt_21 rfl) <|
    fm_c (si_ic_eq dX1_letterAt_22 rfl) <|
    fm_c (si_iload dX1_letterAt_25) <|
    fm_c (si_iloadn dX1_letterAt_27 rfl) <|
    fm_c (si_ic_ne dX1_letterAt_28 rfl) <|
    fm_c (si_iload dX1_letterAt_31) <|
    fm_c (si_iret rfl dX1_letterAt_33) <|
    fm_c (si_aloadn dX1_letterAt_34 rfl) <|
    fm_c (si_getf (C := RX1) (T := TX1) (N := 3) dX1_letterAt_35 rfl inC_1 rfl tw_157) <|
    fm_c (si_iloadn dX1_letterAt_38 rfl) <|
    fm_c (si_iload dX1_letterAt_39) <|
    fm_c (si_callv (C := RX2) (T := TX2) (N := 3) snd_2_beside rfl dX1_letterAt_41 tw_566 tw_426 tw_427 tw_67 tw_428 hdd_2_beside ⟨rfl, rfl⟩) <|
    fm_c (si_istoren dX1_letterAt_44 rfl rfl) <|
    fm_c (si_iinc dX1_letterAt_45 rfl rfl) <|
    fm_c (si_goto dX1_letterAt_48 rfl) <|
    fm_c (si_iconst dX1_letterAt_51 rfl) <|
    fm_c (si_iret rfl dX1_letterAt_52) <|
    fun _ h => absurd h List.not_mem_nil
def K11_easiest : List (Nat × am_O) := [(0, o_aload 0 1),
  (1, o_getf 11 3 4),
  (4, o_iload 1 5),
  (5, o_callv S2_isPlace 2 1 false 8),
  (8, o_if (fun a => a = 0) 28 11),
  (11, o_aload 0 12),
  (12, o_getf 11 3 15),
  (15, o_iload 2 16),
  (16, o_callv S2_isPlace 2 1 false 19),
  (19, o_if (fun a => a = 0) 28 22),
  (22, o_iload 3 23),
  (23, o_push (aI (-2)) 25),
  (25, o_ic (fun a b => b ≤ a) 31 28),
  (28, o_push (aI (-2)) 30),
  (30, o_iret),
  (31, o_aload 0 32),
  (32, o_getf 11 5 35),
  (35, o_iload 2 36),
  (36, o_callv S1_measureTo 1 1 true 39),
  (39, o_iload 3 40),
  (40, o_push (aI (-2)) 42),
  (42, o_ic (fun a b => ¬ a = b) 54 45),
  (45, o_aload 0 46),
  (46, o_getf 11 5 49),
  (49, o_iload 1 50),
  (50, o_callv S1_densityFrom 1 1 false 53),
  (53, o_iret),
  (54, o_iload 3 55),
  (55, o_push (aI (-1)) 56),
  (56, o_ic (fun a b => ¬ a = b) 70 59),
  (59, o_aload 0 60),
  (60, o_getf 11 5 63),
  (63, o_iload 1 64),
  (64, o_callv S1_stepsFrom 1 1 false 67),
  (67, o_goto 79),
  (70, o_aload 0 71),
  (71, o_getf 11 5 74),
  (74, o_iload 1 75),
  (75, o_iload 3 76),
  (76, o_callv S1_letterAt 1 2 false 79),
  (79, o_iret)]
def S11_easiest : am_E := am_S K11_easiest 4
theorem hdd_11_easiest : yX11_easiest.cls ≠ "java/lang/invoke/MethodHandle" ∧ yX11_easiest.cls ≠ "java/lang/invoke/VarHandle" ∧ (parseMethodDescriptor yX11_easiest.desc).map (fun d => d.parameters.length) = some 3 := by decide +kernel
set_option maxRecDepth 100000 in
theorem snd_11_easiest : am_Sound yX11_easiest cX11_easiest 4 (some .int) 4 90 S11_easiest :=
  am_sound_of (own := RX11) (by decide) rfl <|
    fm_c (si_aloadn dX11_easiest_0 rfl) <|
    fm_c (si_getf (C := RX11) (T := TX11) (N := 17) dX11_easiest_1 rfl inC_11 rfl tw_328) <|
    fm_c (si_iloadn dX11_easiest_4 rfl) <|
    fm_c (si_callv (C := RX2) (T := TX2) (N := 3) snd_2_isPlace rfl dX11_easiest_5 tw_513 tw_414 tw_415 tw_67 tw_416 hdd_2_isPlace ⟨rfl, rfl⟩) <|
    fm_c (si_if_eq dX11_easiest_8 rfl) <|
    fm_c (si_aloadn dX11_easiest_11 rfl) <|
    fm_c (si_getf (C := RX11) (T := TX11) (N := 17) dX11_easiest_12 rfl inC_11 rfl tw_328) <|
    fm_c (si_iloadn dX11_easiest_15 rfl) <|
    fm_c (si_callv (C := RX2) (T := TX2) (N := 3) snd_2_isPlace rfl dX11_easiest_16 tw_513 tw_414 tw_415 tw_67 tw_416 hdd_2_isPlace ⟨rfl, rfl⟩) <|
    fm_c (si_if_eq dX11_easiest_19 rfl) <|
    fm_c (si_iloadn dX11_easiest_22 rfl) <|
    fm_c (si_bipush dX11_easiest_23 rfl) <|
    fm_c (si_ic_ge dX11_easiest_25 rfl) <|
    fm_c (si_bipush dX11_easiest_28 rfl) <|
    fm_c (si_iret rfl dX11_easiest_30) <|
    fm_c (si_aloadn dX11_easiest_31 rfl) <|
    fm_c (si_getf (C := RX11) (T := TX11) (N := 17) dX11_easiest_32 rfl inC_11 rfl tw_330) <|
    fm_c (si_iloadn dX11_easiest_35 rfl) <|
    fm_c (si_callv (C := RX1) (T := TX1) (N := 3) snd_1_measureTo rfl dX11_easiest_36 tw_549 tw_550 tw_551 tw_70 tw_552 hdd_1_measureTo ⟨rfl, rfl⟩) <|
    fm_c (si_iloadn dX11_easiest_39 rfl) <|
    fm_c (si_bipush dX11_easiest_40 rfl) <|
    fm_c (si_ic_ne dX11_easiest_42 rfl) <|
    fm_c (si_aloadn dX11_easiest_45 rfl) <|
    fm_c (si_getf (C := RX11) (T := TX11) (N := 17) dX11_easiest_46 rfl inC_11 rfl tw_330) <|
    fm_c (si_iloadn dX11_easiest_49 rfl) <|
    fm_c (si_callv (C := RX1) (T := TX1) (N := 3) snd_1_densityFrom rfl dX11_easiest_50 tw_567 tw_568 tw_569 tw_70 tw_570 hdd_1_densityFrom ⟨rfl, rfl⟩) <|
    fm_c (si_iret rfl dX11_easiest_53) <|
    fm_c (si_iloadn dX11_easiest_54 rfl) <|
    fm_c (si_iconst dX11_easiest_55 rfl) <|
    fm_c (si_ic_ne dX11_easiest_56 rfl) <|
    fm_c (si_aloadn dX11_easiest_59 rfl) <|
    fm_c (si_getf (C := RX11) (T := TX11) (N := 17) dX11_easiest_60 rfl inC_11 rfl tw_330) <|
    fm_c (si_iloadn dX11_easiest_63 rfl) <|
    fm_c (si_callv (C := RX1) (T := TX1) (N := 3) snd_1_stepsFrom rfl dX11_easiest_64 tw_575 tw_576 tw_577 tw_70 tw_578 hdd_1_stepsFrom ⟨rfl, rfl⟩) <|
    fm_c (si_goto dX11_easiest_67 rfl) <|
    fm_c (si_aloadn dX11_easiest_70 rfl) <|
    fm_c (si_getf (C := RX11) (T := TX11) (N := 17) dX11_easiest_71 rfl inC_11 rfl tw_330) <|
    fm_c (si_iloadn dX11_easiest_74 rfl) <|
    fm_c (si_iloadn dX11_easiest_75 rfl) <|
    fm_c (si_callv (C := RX1) (T := TX1) (N := 3) snd_1_letterAt rfl dX11_easiest_76 tw_579 tw_580 tw_581 tw_70 tw_582 hdd_1_letterAt ⟨rfl, rfl⟩) <|
    fm_c (si_iret rfl dX11_easiest_79) <|
    fun _ h => absurd h List.not_mem_nil
def K11_holds : List (Nat × am_O) := [(0, o_iload 1 1),
  (1, o_if (fun a => a < 0) 50 4),
  (4, o_iload 1 5),
  (5, o_aload 0 6),
  (6, o_getf 11 6 9),
  (9, o_callv S3_joints 3 0 false 12),
  (12, o_ic (fun a b => b ≤ a) 50 15),
  (15, o_iload 2 16),
  (16, o_if (fun a => a < 0) 50 19),
  (19, o_iload 3 20),
  (20, o_if (fun a => a < 0) 50 23),
  (23, o_iload 3 24),
  (24, o_push (aI 6) 26),
  (26, o_ic (fun a b => b < a) 50 29),
  (29, o_iload 2 30),
  (30, o_aload 0 31),
  (31, o_getf 11 7 34),
  (34, o_getf 10 4 37),
  (37, o_iload 3 38),
  (38, o_bin (fun a b => w32 (a - b)) 39),
  (39, o_ic (fun a b => b < a) 50 42),
  (42, o_iload 4 44),
  (44, o_call S11_isPart 1 false 47),
  (47, o_if (fun a => ¬ a = 0) 56 50),
  (50, o_push (aI (-2)) 52),
  (52, o_call S11_refused 1 false 55),
  (55, o_lret),
  (56, o_push (aL 1) 57),
  (57, o_lstore 5 59),
  (59, o_push (aL 1) 60),
  (60, o_lstore 7 62),
  (62, o_push (aI 16) 64),
  (64, o_aload 0 65),
  (65, o_getf 11 6 68),
  (68, o_iload 1 69),
  (69, o_callv S3_gripOfJoint 3 1 false 72),
  (72, o_bin (fun a b => w32 (a - b)) 73),
  (73, o_istore 9 75),
  (75, o_push (aI 0) 76),
  (76, o_istore 10 78),
  (78, o_iload 10 80),
  (80, o_iload 3 81),
  (81, o_ic (fun a b => b ≤ a) 119 84),
  (84, o_lload 5 86),
  (86, o_push (aI 256) 89),
  (89, o_aload 0 90),
  (90, o_iload 2 91),
  (91, o_iload 10 93),
  (93, o_bin (fun a b => w32 (a + b)) 94),
  (94, o_callv S11_densityOfStep 11 1 false 97),
  (97, o_iload 9 99),
  (99, o_bin (fun a b => w32 (a * b)) 100),
  (100, o_bin (fun a b => w32 (a - b)) 101),
  (101, o_i2l 102),
  (102, o_binL (fun a b => w64 (a * b)) 103),
  (103, o_lstore 5 105),
  (105, o_lload 7 107),
  (107, o_push (aL 256) 110),
  (110, o_binL (fun a b => w64 (a * b)) 111),
  (111, o_lstore 7 113),
  (113, o_iinc 10 1 116),
  (116, o_goto 78),
  (119, o_lload 5 121),
  (121, o_lload 7 123),
  (123, o_iload 4 125),
  (125, o_call S11_lowest 3 false 128),
  (128, o_lret)]
def S11_holds : am_E := am_S K11_holds 11
theorem hdd_11_holds : yX11_holds.cls ≠ "java/lang/invoke/MethodHandle" ∧ yX11_holds.cls ≠ "java/lang/invoke/VarHandle" ∧ (parseMethodDescriptor yX11_holds.desc).map (fun d => d.parameters.length) = some 4 := by decide +kernel
set_option maxRecDepth 100000 in
theorem snd_11_holds : am_Sound yX11_holds cX11_holds 11 (some .long) 2 44 S11_holds :=
  am_sound_of (own := RX11) (by decide) rfl <|
    fm_c (si_iloadn dX11_holds_0 rfl) <|
    fm_c (si_if_lt dX11_holds_1 rfl) <|
    fm_c (si_iloadn dX11_holds_4 rfl) <|
    fm_c (si_aloadn dX11_holds_5 rfl) <|
    fm_c (si_getf (C := RX11) (T := TX11) (N := 17) dX11_holds_6 rfl inC_11 rfl tw_331) <|
    fm_c (si_callv (C := RX3) (T := TX3) (N := 5) snd_3_joints rfl dX11_holds_9 tw_669 tw_604 tw_605 tw_71 tw_606 hdd_3_joints ⟨rfl, rfl⟩) <|
    fm_c (si_ic_ge dX11_holds_12 rfl) <|
    fm_c (si_iloadn dX11_holds_15 rfl) <|
    fm_c (si_if_lt dX11_holds_16 rfl) <|
    fm_c (si_iloadn dX11_holds_19 rfl) <|
    fm_c (si_if_lt dX11_holds_20 rfl) <|
    fm_c (si_iloadn dX11_holds_23 rfl) <|
    fm_c (si_bipush dX11_holds_24 rfl) <|
    fm_c (si_ic_gt dX11_holds_26 rfl) <|
    fm_c (si_iloadn dX11_holds_29 rfl) <|
    fm_c (si_aloadn dX11_holds_30 rfl) <|
    fm_c (si_getf (C := RX11) (T := TX11) (N := 17) dX11_holds_31 rfl inC_11 rfl tw_332) <|
    fm_c (si_getf (C := RX10) (T := TX10) (N := 5) dX11_holds_34 rfl inC_10 rfl tw_206) <|
    fm_c (si_iloadn dX11_holds_37 rfl) <|
    fm_c (si_isub dX11_holds_38) <|
    fm_c (si_ic_gt dX11_holds_39 rfl) <|
    fm_c (si_iload dX11_holds_42) <|
    fm_c (si_call snd_11_isPart dX11_holds_44 tw_670 tw_671 tw_65 tw_672 hdd_11_isPart ⟨rfl, rfl⟩) <|
    fm_c (si_if_ne dX11_holds_47 rfl) <|
    fm_c (si_bipush dX11_holds_50 rfl) <|
    fm_c (si_call snd_11_refused dX11_holds_52 tw_673 tw_674 tw_65 tw_675 hdd_11_refused ⟨rfl, rfl⟩) <|
    fm_c (si_lret rfl dX11_holds_55) <|
    fm_c (si_lconst1 dX11_holds_56) <|
    fm_c (si_lstore dX11_holds_57 rfl) <|
    fm_c (si_lconst1 dX11_holds_59) <|
    fm_c (si_lstore dX11_holds_60 rfl) <|
    fm_c (si_bipush dX11_holds_62 rfl) <|
    fm_c (si_aloadn dX11_holds_64 rfl) <|
    fm_c (si_getf (C := RX11) (T := TX11) (N := 17) dX11_holds_65 rfl inC_11 rfl tw_331) <|
    fm_c (si_iloadn dX11_holds_68 rfl) <|
    fm_c (si_callv (C := RX3) (T := TX3) (N := 5) snd_3_gripOfJoint rfl dX11_holds_69 tw_677 tw_611 tw_612 tw_71 tw_613 hdd_3_gripOfJoint ⟨rfl, rfl⟩) <|
    fm_c (si_isub dX11_holds_72) <|
    fm_c (si_istore dX11_holds_73 rfl) <|
    fm_c (si_iconst dX11_holds_75 rfl) <|
    fm_c (si_istore dX11_holds_76 rfl) <|
    fm_c (si_iload dX11_holds_78) <|
    fm_c (si_iloadn dX11_holds_80 rfl) <|
    fm_c (si_ic_ge dX11_holds_81 rfl) <|
    fm_c (si_lload dX11_holds_84) <|
    fm_c (si_sipush dX11_holds_86 rfl) <|
    fm_c (si_aloadn dX11_holds_89 rfl) <|
    fm_c (si_iloadn dX11_holds_90 rfl) <|
    fm_c (si_iload dX11_holds_91) <|
    fm_c (si_iadd dX11_holds_93) <|
    fm_c (si_callv (C := RX11) (T := TX11) (N := 17) snd_11_densityOfStep rfl dX11_holds_94 tw_620 tw_622 tw_11 tw_65 tw_623 hdd_11_densityOfStep ⟨rfl, rfl⟩) <|
    fm_c (si_iload dX11_holds_97) <|
    fm_c (si_imul dX11_holds_99) <|
    fm_c (si_isub dX11_holds_100) <|
    fm_c (si_i2l dX11_holds_101) <|
    fm_c (si_lmul dX11_holds_102) <|
    fm_c (si_lstore dX11_holds_103 rfl) <|
    fm_c (si_lload dX11_holds_105) <|
    fm_c (si_ldc2 dX11_holds_107 tw_678 rfl) <|
    fm_c (si_lmul dX11_holds_110) <|
    fm_c (si_lstore dX11_holds_111 rfl) <|
    fm_c (si_iinc dX11_holds_113 rfl rfl) <|
    fm_c (si_goto dX11_holds_116 rfl) <|
    fm_c (si_lload dX11_holds_119) <|
    fm_c (si_lload dX11_holds_121) <|
    fm_c (si_iload dX11_holds_123) <|
    fm_c (si_call snd_11_lowest dX11_holds_125 tw_679 tw_680 tw_65 tw_681 hdd_11_lowest ⟨rfl, rfl⟩) <|
    fm_c (si_lret rfl dX11_holds_128) <|
    fun _ h => absurd h List.not_mem_nil
def K11_withWays : List (Nat × am_O) := [(0, o_push (aL 31) 3),
  (3, o_lload 1 4),
  (4, o_binL (fun a b => w64 (a * b)) 5),
  (5, o_aload 0 6),
  (6, o_push (aI 0) 7),
  (7, o_push (aI 9) 9),
  (9, o_callv S11_near 11 2 false 12),
  (12, o_i2l 13),
  (13, o_binL (fun a b => w64 (a + b)) 14),
  (14, o_lstore 3 15),
  (15, o_push (aI (-2)) 17),
  (17, o_istore 5 19),
  (19, o_iload 5 21),
  (21, o_push (aI 1) 22),
  (22, o_ic (fun a b => b < a) 48 25),
  (25, o_push (aL 31) 28),
  (28, o_lload 3 29),
  (29, o_binL (fun a b => w64 (a * b)) 30),
  (30, o_aload 0 31),
  (31, o_push (aI 0) 32),
  (32, o_push (aI 9) 34),
  (34, o_iload 5 36),
  (36, o_callv S11_easiest 11 3 false 39),
  (39, o_i2l 40),
  (40, o_binL (fun a b => w64 (a + b)) 41),
  (41, o_lstore 3 42),
  (42, o_iinc 5 1 45),
  (45, o_goto 19),
  (48, o_push (aI (-1)) 49),
  (49, o_istore 5 51),
  (51, o_iload 5 53),
  (53, o_push (aI 5) 54),
  (54, o_ic (fun a b => b ≤ a) 79 57),
  (57, o_push (aL 31) 60),
  (60, o_lload 3 61),
  (61, o_binL (fun a b => w64 (a * b)) 62),
  (62, o_aload 0 63),
  (63, o_push (aI 31) 65),
  (65, o_iload 5 67),
  (67, o_callv S11_best 11 2 false 70),
  (70, o_i2l 71),
  (71, o_binL (fun a b => w64 (a + b)) 72),
  (72, o_lstore 3 73),
  (73, o_iinc 5 1 76),
  (76, o_goto 51),
  (79, o_push (aL 31) 82),
  (82, o_lload 3 83),
  (83, o_binL (fun a b => w64 (a * b)) 84),
  (84, o_aload 0 85),
  (85, o_push (aI 0) 86),
  (86, o_push (aI 0) 87),
  (87, o_push (aI 2) 88),
  (88, o_push (aI 0) 89),
  (89, o_callv S11_holds 11 4 false 92),
  (92, o_binL (fun a b => w64 (a + b)) 93),
  (93, o_lret)]
def S11_withWays : am_E := am_S K11_withWays 6
theorem hdd_11_withWays : yX11_withWays.cls ≠ "java/lang/invoke/MethodHandle" ∧ yX11_withWays.cls ≠ "java/lang/invoke/VarHandle" ∧ (parseMethodDescriptor yX11_withWays.desc).map (fun d => d.parameters.length) = some 1 := by decide +kernel
set_option maxRecDepth 100000 in
theorem snd_11_withWays : am_Sound yX11_withWays cX11_withWays 6 (some .long) 5 121 S11_withWays :=
  am_sound_of (own := RX11) (by decide) rfl <|
    fm_c (si_ldc2 dX11_withWays_0 tw_914 rfl) <|
    fm_c (si_lloadn dX11_withWays_3 rfl) <|
    fm_c (si_lmul dX11_withWays_4) <|
    fm_c (si_aloadn dX11_withWays_5 rfl) <|
    fm_c (si_iconst dX11_withWays_6 rfl) <|
    fm_c (si_bipush dX11_withWays_7 rfl) <|
    fm_c (si_callv (C := RX11) (T := TX11) (N := 17) snd_11_near rfl dX11_withWays_9 tw_932 tw_531 tw_532 tw_65 tw_533 hdd_11_near ⟨rfl, rfl⟩) <|
    fm_c (si_i2l dX11_withWays_12) <|
    fm_c (si_ladd dX11_withWays_13) <|
    fm_c (si_lstoren dX11_withWays_14 rfl rfl) <|
    fm_c (si_bipush dX11_withWays_15 rfl) <|
    fm_c (si_istore dX11_withWays_17 rfl) <|
    fm_c (si_iload dX11_withWays_19) <|
    fm_c (si_iconst dX11_withWays_21 rfl) <|
    fm_c (si_ic_gt dX11_withWays_22 rfl) <|
    fm_c (si_ldc2 dX11_withWays_25 tw_914 rfl) <|
    fm_c (si_lloadn dX11_withWays_28 rfl) <|
    fm_c (si_lmul dX11_withWays_29) <|
    fm_c (si_aloadn dX11_withWays_30 rfl) <|
    fm_c (si_iconst dX11_withWays_31 rfl) <|
    fm_c (si_bipush dX11_withWays_32 rfl) <|
    fm_c (si_iload dX11_withWays_34) <|
    fm_c (si_callv (C := RX11) (T := TX11) (N := 17) snd_11_easiest rfl dX11_withWays_36 tw_933 tw_546 tw_547 tw_65 tw_548 hdd_11_easiest ⟨rfl, rfl⟩) <|
    fm_c (si_i2l dX11_withWays_39) <|
    fm_c (si_ladd dX11_withWays_40) <|
    fm_c (si_lstoren dX11_withWays_41 rfl rfl) <|
    fm_c (si_iinc dX11_withWays_42 rfl rfl) <|
    fm_c (si_goto dX11_withWays_45 rfl) <|
    fm_c (si_iconst dX11_withWays_48 rfl) <|
    fm_c (si_istore dX11_withWays_49 rfl) <|
    fm_c (si_iload dX11_withWays_51) <|
    fm_c (si_iconst dX11_withWays_53 rfl) <|
    fm_c (si_ic_ge dX11_withWays_54 rfl) <|
    fm_c (si_ldc2 dX11_withWays_57 tw_914 rfl) <|
    fm_c (si_lloadn dX11_withWays_60 rfl) <|
    fm_c (si_lmul dX11_withWays_61) <|
    fm_c (si_aloadn dX11_withWays_62 rfl) <|
    fm_c (si_bipush dX11_withWays_63 rfl) <|
    fm_c (si_iload dX11_withWays_65) <|
    fm_c (si_callv (C := RX11) (T := TX11) (N := 17) snd_11_best rfl dX11_withWays_67 tw_934 tw_625 tw_626 tw_65 tw_627 hdd_11_best ⟨rfl, rfl⟩) <|
    fm_c (si_i2l dX11_withWays_70) <|
    fm_c (si_ladd dX11_withWays_71) <|
    fm_c (si_lstoren dX11_withWays_72 rfl rfl) <|
    fm_c (si_iinc dX11_withWays_73 rfl rfl) <|
    fm_c (si_goto dX11_withWays_76 rfl) <|
    fm_c (si_ldc2 dX11_withWays_79 tw_914 rfl) <|
    fm_c (si_lloadn dX11_withWays_82 rfl) <|
    fm_c (si_lmul dX11_withWays_83) <|
    fm_c (si_aloadn dX11_withWays_84 rfl) <|
    fm_c (si_iconst dX11_withWays_85 rfl) <|
    fm_c (si_iconst dX11_withWays_86 rfl) <|
    fm_c (si_iconst dX11_withWays_87 rfl) <|
    fm_c (si_iconst dX11_withWays_88 rfl) <|
    fm_c (si_callv (C := RX11) (T := TX11) (N := 17) snd_11_holds rfl dX11_withWays_89 tw_935 tw_666 tw_667 tw_65 tw_668 hdd_11_holds ⟨rfl, rfl⟩) <|
    fm_c (si_ladd dX11_withWays_92) <|
    fm_c (si_lret rfl dX11_withWays_93) <|
    fun _ h => absurd h List.not_mem_nil
def K8_startWhole : List (Nat × am_O) := [(0, o_aload 0 1),
  (1, o_push (aI 0) 2),
  (2, o_putI 8 1 5),
  (5, o_aload 0 6),
  (6, o_push (aI (-1)) 7),
  (7, o_putI 8 2 10),
  (10, o_aload 0 11),
  (11, o_push (aI (-1)) 12),
  (12, o_putI 8 3 15),
  (15, o_aload 0 16),
  (16, o_push (aI 0) 17),
  (17, o_putI 8 4 20),
  (20, o_vret)]
def S8_startWhole : am_E := am_S K8_startWhole 1
theorem hdd_8_startWhole : yX8_startWhole.cls ≠ "java/lang/invoke/MethodHandle" ∧ yX8_startWhole.cls ≠ "java/lang/invoke/VarHandle" ∧ (parseMethodDescriptor yX8_startWhole.desc).map (fun d => d.parameters.length) = some 0 := by decide +kernel
set_option maxRecDepth 100000 in
theorem snd_8_startWhole : am_Sound yX8_startWhole cX8_startWhole 1 none 0 0 S8_startWhole :=
  am_sound_of (own := RX8) (by decide) rfl <|
    fm_c (si_aloadn dX8_startWhole_0 rfl) <|
    fm_c (si_iconst dX8_startWhole_1 rfl) <|
    fm_c (si_putI (C := RX8) (T := TX8) (N := 5) dX8_startWhole_2 rfl inC_8 tyX8 tyX8_ok nmX8 rfl tw_230 rfl (tyX8_ok 1 (by decide))) <|
    fm_c (si_aloadn dX8_startWhole_5 rfl) <|
    fm_c (si_iconst dX8_startWhole_6 rfl) <|
    fm_c (si_putI (C := RX8) (T := TX8) (N := 5) dX8_startWhole_7 rfl inC_8 tyX8 tyX8_ok nmX8 rfl tw_231 rfl (tyX8_ok 2 (by decide))) <|
    fm_c (si_aloadn dX8_startWhole_10 rfl) <|
    fm_c (si_iconst dX8_startWhole_11 rfl) <|
    fm_c (si_putI (C := RX8) (T := TX8) (N := 5) dX8_startWhole_12 rfl inC_8 tyX8 tyX8_ok nmX8 rfl tw_233 rfl (tyX8_ok 3 (by decide))) <|
    fm_c (si_aloadn dX8_startWhole_15 rfl) <|
    fm_c (si_iconst dX8_startWhole_16 rfl) <|
    fm_c (si_putI (C := RX8) (T := TX8) (N := 5) dX8_startWhole_17 rfl inC_8 tyX8 tyX8_ok nmX8 rfl tw_235 rfl (tyX8_ok 4 (by decide))) <|
    fm_c (si_vret rfl dX8_startWhole_20) <|
    fun _ h => absurd h List.not_mem_nil
def K8_lotOfSixteen : List (Nat × am_O) := [(0, o_aload 0 1),
  (1, o_push (aI 1103515245) 3),
  (3, o_aload 0 4),
  (4, o_getf 8 0 7),
  (7, o_bin (fun a b => w32 (a * b)) 8),
  (8, o_push (aI 12345) 11),
  (11, o_bin (fun a b => w32 (a + b)) 12),
  (12, o_putI 8 0 15),
  (15, o_aload 0 16),
  (16, o_getf 8 0 19),
  (19, o_push (aI 16) 21),
  (21, o_sh am_ushr 22),
  (22, o_push (aI 16) 24),
  (24, o_irem 25),
  (25, o_iret)]
def S8_lotOfSixteen : am_E := am_S K8_lotOfSixteen 1
theorem hdd_8_lotOfSixteen : yX8_lotOfSixteen.cls ≠ "java/lang/invoke/MethodHandle" ∧ yX8_lotOfSixteen.cls ≠ "java/lang/invoke/VarHandle" ∧ (parseMethodDescriptor yX8_lotOfSixteen.desc).map (fun d => d.parameters.length) = some 0 := by decide +kernel
set_option maxRecDepth 100000 in
theorem snd_8_lotOfSixteen : am_Sound yX8_lotOfSixteen cX8_lotOfSixteen 1 (some .int) 0 0 S8_lotOfSixteen :=
  am_sound_of (own := RX8) (by decide) rfl <|
    fm_c (si_aloadn dX8_lotOfSixteen_0 rfl) <|
    fm_c (si_ldc dX8_lotOfSixteen_1 tw_714 rfl) <|
    fm_c (si_aloadn dX8_lotOfSixteen_3 rfl) <|
    fm_c (si_getf (C := RX8) (T := TX8) (N := 5) dX8_lotOfSixteen_4 rfl inC_8 rfl tw_228) <|
    fm_c (si_imul dX8_lotOfSixteen_7) <|
    fm_c (si_sipush dX8_lotOfSixteen_8 rfl) <|
    fm_c (si_iadd dX8_lotOfSixteen_11) <|
    fm_c (si_putI (C := RX8) (T := TX8) (N := 5) dX8_lotOfSixteen_12 rfl inC_8 tyX8 tyX8_ok nmX8 rfl tw_228 rfl (tyX8_ok 0 (by decide))) <|
    fm_c (si_aloadn dX8_lotOfSixteen_15 rfl) <|
    fm_c (si_getf (C := RX8) (T := TX8) (N := 5) dX8_lotOfSixteen_16 rfl inC_8 rfl tw_228) <|
    fm_c (si_bipush dX8_lotOfSixteen_19 rfl) <|
    fm_c (si_iushr dX8_lotOfSixteen_21) <|
    fm_c (si_bipush dX8_lotOfSixteen_22 rfl) <|
    fm_c (si_irem dX8_lotOfSixteen_24) <|
    fm_c (si_iret rfl dX8_lotOfSixteen_25) <|
    fun _ h => absurd h List.not_mem_nil
def K8_tears : List (Nat × am_O) := [(0, o_aload 0 1),
  (1, o_callv S8_lotOfSixteen 8 0 false 4),
  (4, o_iload 1 5),
  (5, o_ic (fun a b => b ≤ a) 20 8),
  (8, o_aload 0 9),
  (9, o_callv S8_lotOfSixteen 8 0 false 12),
  (12, o_iload 2 13),
  (13, o_ic (fun a b => a < b) 20 16),
  (16, o_push (aI 1) 17),
  (17, o_goto 21),
  (20, o_push (aI 0) 21),
  (21, o_zret)]
def S8_tears : am_E := am_S K8_tears 3
theorem hdd_8_tears : yX8_tears.cls ≠ "java/lang/invoke/MethodHandle" ∧ yX8_tears.cls ≠ "java/lang/invoke/VarHandle" ∧ (parseMethodDescriptor yX8_tears.desc).map (fun d => d.parameters.length) = some 2 := by decide +kernel
set_option maxRecDepth 100000 in
theorem snd_8_tears : am_Sound yX8_tears cX8_tears 3 (some .boolean) 1 20 S8_tears :=
  am_sound_of (own := RX8) (by decide) rfl <|
    fm_c (si_aloadn dX8_tears_0 rfl) <|
    fm_c (si_callv (C := RX8) (T := TX8) (N := 5) snd_8_lotOfSixteen rfl dX8_tears_1 tw_710 tw_712 tw_16 tw_73 tw_713 hdd_8_lotOfSixteen ⟨rfl, rfl⟩) <|
    fm_c (si_iloadn dX8_tears_4 rfl) <|
    fm_c (si_ic_ge dX8_tears_5 rfl) <|
    fm_c (si_aloadn dX8_tears_8 rfl) <|
    fm_c (si_callv (C := RX8) (T := TX8) (N := 5) snd_8_lotOfSixteen rfl dX8_tears_9 tw_710 tw_712 tw_16 tw_73 tw_713 hdd_8_lotOfSixteen ⟨rfl, rfl⟩) <|
    fm_c (si_iloadn dX8_tears_12 rfl) <|
    fm_c (si_ic_lt dX8_tears_13 rfl) <|
    fm_c (si_iconst dX8_tears_16 rfl) <|
    fm_c (si_goto dX8_tears_17 rfl) <|
    fm_c (si_iconst dX8_tears_20 rfl) <|
    fm_c (si_zret rfl dX8_tears_21) <|
    fun _ h => absurd h List.not_mem_nil
def K8_goStep : List (Nat × am_O) := [(0, o_push (aI 0) 1),
  (1, o_istore 4 3),
  (3, o_iload 4 5),
  (5, o_aload 3 6),
  (6, o_callv S3_joints 3 0 false 9),
  (9, o_ic (fun a b => b ≤ a) 86 12),
  (12, o_aload 0 13),
  (13, o_getf 8 1 16),
  (16, o_iload 4 18),
  (18, o_sh am_shr 19),
  (19, o_push (aI 1) 20),
  (20, o_bin am_and 21),
  (21, o_if (fun a => ¬ a = 0) 80 24),
  (24, o_aload 0 25),
  (25, o_iload 2 26),
  (26, o_aload 3 27),
  (27, o_iload 4 29),
  (29, o_callv S3_gripOfJoint 3 1 false 32),
  (32, o_callv S8_tears 8 2 false 35),
  (35, o_if (fun a => a = 0) 80 38),
  (38, o_aload 0 39),
  (39, o_dup 40),
  (40, o_getf 8 1 43),
  (43, o_push (aI 1) 44),
  (44, o_iload 4 46),
  (46, o_sh am_shl 47),
  (47, o_bin am_or 48),
  (48, o_putI 8 1 51),
  (51, o_aload 0 52),
  (52, o_dup 53),
  (53, o_getf 8 4 56),
  (56, o_push (aI 1) 57),
  (57, o_bin (fun a b => w32 (a + b)) 58),
  (58, o_putI 8 4 61),
  (61, o_aload 0 62),
  (62, o_getf 8 2 65),
  (65, o_push (aI (-1)) 66),
  (66, o_ic (fun a b => ¬ a = b) 80 69),
  (69, o_aload 0 70),
  (70, o_iload 4 72),
  (72, o_putI 8 2 75),
  (75, o_aload 0 76),
  (76, o_iload 1 77),
  (77, o_putI 8 3 80),
  (80, o_iinc 4 1 83),
  (83, o_goto 3),
  (86, o_vret)]
def S8_goStep : am_E := am_S K8_goStep 5
theorem hdd_8_goStep : yX8_goStep.cls ≠ "java/lang/invoke/MethodHandle" ∧ yX8_goStep.cls ≠ "java/lang/invoke/VarHandle" ∧ (parseMethodDescriptor yX8_goStep.desc).map (fun d => d.parameters.length) = some 3 := by decide +kernel
set_option maxRecDepth 100000 in
theorem snd_8_goStep : am_Sound yX8_goStep cX8_goStep 5 none 2 44 S8_goStep :=
  am_sound_of (own := RX8) (by decide) rfl <|
    fm_c (si_iconst dX8_goStep_0 rfl) <|
    fm_c (si_istore dX8_goStep_1 rfl) <|
    fm_c (si_iload dX8_goStep_3) <|
    fm_c (si_aloadn dX8_goStep_5 rfl) <|
    fm_c (si_callv (C := RX3) (T := TX3) (N := 5) snd_3_joints rfl dX8_goStep_6 tw_704 tw_604 tw_605 tw_71 tw_606 hdd_3_joints ⟨rfl, rfl⟩) <|
    fm_c (si_ic_ge dX8_goStep_9 rfl) <|
    fm_c (si_aloadn dX8_goStep_12 rfl) <|
    fm_c (si_getf (C := RX8) (T := TX8) (N := 5) dX8_goStep_13 rfl inC_8 rfl tw_230) <|
    fm_c (si_iload dX8_goStep_16) <|
    fm_c (si_ishr dX8_goStep_18) <|
    fm_c (si_iconst dX8_goStep_19 rfl) <|
    fm_c (si_iand dX8_goStep_20) <|
    fm_c (si_if_ne dX8_goStep_21 rfl) <|
    fm_c (si_aloadn dX8_goStep_24 rfl) <|
    fm_c (si_iloadn dX8_goStep_25 rfl) <|
    fm_c (si_aloadn dX8_goStep_26 rfl) <|
    fm_c (si_iload dX8_goStep_27) <|
    fm_c (si_callv (C := RX3) (T := TX3) (N := 5) snd_3_gripOfJoint rfl dX8_goStep_29 tw_705 tw_611 tw_612 tw_71 tw_613 hdd_3_gripOfJoint ⟨rfl, rfl⟩) <|
    fm_c (si_callv (C := RX8) (T := TX8) (N := 5) snd_8_tears rfl dX8_goStep_32 tw_706 tw_708 tw_15 tw_73 tw_709 hdd_8_tears ⟨rfl, rfl⟩) <|
    fm_c (si_if_eq dX8_goStep_35 rfl) <|
    fm_c (si_aloadn dX8_goStep_38 rfl) <|
    fm_c (si_dup dX8_goStep_39) <|
    fm_c (si_getf (C := RX8) (T := TX8) (N := 5) dX8_goStep_40 rfl inC_8 rfl tw_230) <|
    fm_c (si_iconst dX8_goStep_43 rfl) <|
    fm_c (si_iload dX8_goStep_44) <|
    fm_c (si_ishl dX8_goStep_46) <|
    fm_c (si_ior dX8_goStep_47) <|
    fm_c (si_putI (C := RX8) (T := TX8) (N := 5) dX8_goStep_48 rfl inC_8 tyX8 tyX8_ok nmX8 rfl tw_230 rfl (tyX8_ok 1 (by decide))) <|
    fm_c (si_aloadn dX8_goStep_51 rfl) <|
    fm_c (si_dup dX8_goStep_52) <|
    fm_c (si_getf (C := RX8) (T := TX8) (N := 5) dX8_goStep_53 rfl inC_8 rfl tw_235) <|
    fm_c (si_iconst dX8_goStep_56 rfl) <|
    fm_c (si_iadd dX8_goStep_57) <|
    fm_c (si_putI (C := RX8) (T := TX8) (N := 5) dX8_goStep_58 rfl inC_8 tyX8 tyX8_ok nmX8 rfl tw_235 rfl (tyX8_ok 4 (by decide))) <|
    fm_c (si_aloadn dX8_goStep_61 rfl) <|
    fm_c (si_getf (C := RX8) (T := TX8) (N := 5) dX8_goStep_62 rfl inC_8 rfl tw_231) <|
    fm_c (si_iconst dX8_goStep_65 rfl) <|
    fm_c (si_ic_ne dX8_goStep_66 rfl) <|
    fm_c (si_aloadn dX8_goStep_69 rfl) <|
    fm_c (si_iload dX8_goStep_70) <|
    fm_c (si_putI (C := RX8) (T := TX8) (N := 5) dX8_goStep_72 rfl inC_8 tyX8 tyX8_ok nmX8 rfl tw_231 rfl (tyX8_ok 2 (by decide))) <|
    fm_c (si_aloadn dX8_goStep_75 rfl) <|
    fm_c (si_iloadn dX8_goStep_76 rfl) <|
    fm_c (si_putI (C := RX8) (T := TX8) (N := 5) dX8_goStep_77 rfl inC_8 tyX8 tyX8_ok nmX8 rfl tw_233 rfl (tyX8_ok 3 (by decide))) <|
    fm_c (si_iinc dX8_goStep_80 rfl rfl) <|
    fm_c (si_goto dX8_goStep_83 rfl) <|
    fm_c (si_vret rfl dX8_goStep_86) <|
    fun _ h => absurd h List.not_mem_nil
def K11_goThroughFair : List (Nat × am_O) := [(0, o_aload 0 1),
  (1, o_getf 11 8 4),
  (4, o_callv S8_startWhole 8 0 true 7),
  (7, o_push (aI 0) 8),
  (8, o_istore 1 9),
  (9, o_iload 1 10),
  (10, o_aload 0 11),
  (11, o_getf 11 7 14),
  (14, o_getf 10 4 17),
  (17, o_ic (fun a b => b ≤ a) 43 20),
  (20, o_aload 0 21),
  (21, o_getf 11 8 24),
  (24, o_iload 1 25),
  (25, o_aload 0 26),
  (26, o_iload 1 27),
  (27, o_callv S11_densityOfStep 11 1 false 30),
  (30, o_aload 0 31),
  (31, o_getf 11 6 34),
  (34, o_callv S8_goStep 8 3 true 37),
  (37, o_iinc 1 1 40),
  (40, o_goto 9),
  (43, o_vret)]
def S11_goThroughFair : am_E := am_S K11_goThroughFair 2
theorem hdd_11_goThroughFair : yX11_goThroughFair.cls ≠ "java/lang/invoke/MethodHandle" ∧ yX11_goThroughFair.cls ≠ "java/lang/invoke/VarHandle" ∧ (parseMethodDescriptor yX11_goThroughFair.desc).map (fun d => d.parameters.length) = some 0 := by decide +kernel
set_option maxRecDepth 100000 in
theorem snd_11_goThroughFair : am_Sound yX11_goThroughFair cX11_goThroughFair 2 none 3 68 S11_goThroughFair :=
  am_sound_of (own := RX11) (by decide) rfl <|
    fm_c (si_aloadn dX11_goThroughFair_0 rfl) <|
    fm_c (si_getf (C := RX11) (T := TX11) (N := 17) dX11_goThroughFair_1 rfl inC_11 rfl tw_333) <|
    fm_c (si_callv (C := RX8) (T := TX8) (N := 5) snd_8_startWhole rfl dX11_goThroughFair_4 tw_699 tw_225 tw_226 tw_73 tw_227 hdd_8_startWhole ⟨rfl, rfl⟩) <|
    fm_c (si_iconst dX11_goThroughFair_7 rfl) <|
    fm_c (si_istoren dX11_goThroughFair_8 rfl rfl) <|
    fm_c (si_iloadn dX11_goThroughFair_9 rfl) <|
    fm_c (si_aloadn dX11_goThroughFair_10 rfl) <|
    fm_c (si_getf (C := RX11) (T := TX11) (N := 17) dX11_goThroughFair_11 rfl inC_11 rfl tw_332) <|
    fm_c (si_getf (C := RX10) (T := TX10) (N := 5) dX11_goThroughFair_14 rfl inC_10 rfl tw_206) <|
    fm_c (si_ic_ge dX11_goThroughFair_17 rfl) <|
    fm_c (si_aloadn dX11_goThroughFair_20 rfl) <|
    fm_c (si_getf (C := RX11) (T := TX11) (N := 17) dX11_goThroughFair_21 rfl inC_11 rfl tw_333) <|
    fm_c (si_iloadn dX11_goThroughFair_24 rfl) <|
    fm_c (si_aloadn dX11_goThroughFair_25 rfl) <|
    fm_c (si_iloadn dX11_goThroughFair_26 rfl) <|
    fm_c (si_callv (C := RX11) (T := TX11) (N := 17) snd_11_densityOfStep rfl dX11_goThroughFair_27 tw_620 tw_622 tw_11 tw_65 tw_623 hdd_11_densityOfStep ⟨rfl, rfl⟩) <|
    fm_c (si_aloadn dX11_goThroughFair_30 rfl) <|
    fm_c (si_getf (C := RX11) (T := TX11) (N := 17) dX11_goThroughFair_31 rfl inC_11 rfl tw_331) <|
    fm_c (si_callv (C := RX8) (T := TX8) (N := 5) snd_8_goStep rfl dX11_goThroughFair_34 tw_700 tw_701 tw_702 tw_73 tw_703 hdd_8_goStep ⟨rfl, rfl⟩) <|
    fm_c (si_iinc dX11_goThroughFair_37 rfl rfl) <|
    fm_c (si_goto dX11_goThroughFair_40 rfl) <|
    fm_c (si_vret rfl dX11_goThroughFair_43) <|
    fun _ h => absurd h List.not_mem_nil
def K3_behindJoint : List (Nat × am_O) := [(0, o_push (aI 0) 1),
  (1, o_istore 2 2),
  (2, o_iload 1 3),
  (3, o_push (aI (-1)) 4),
  (4, o_ic (fun a b => ¬ a = b) 9 7),
  (7, o_iload 2 8),
  (8, o_iret),
  (9, o_iload 1 10),
  (10, o_push (aI 1) 11),
  (11, o_bin (fun a b => w32 (a + b)) 12),
  (12, o_istore 3 13),
  (13, o_iload 3 14),
  (14, o_aload 0 15),
  (15, o_getf 3 4 18),
  (18, o_ic (fun a b => b ≤ a) 37 21),
  (21, o_iload 2 22),
  (22, o_push (aI 1) 23),
  (23, o_aload 0 24),
  (24, o_iload 3 25),
  (25, o_callv S3_whoGoes 3 1 false 28),
  (28, o_sh am_shl 29),
  (29, o_bin am_or 30),
  (30, o_istore 2 31),
  (31, o_iinc 3 1 34),
  (34, o_goto 13),
  (37, o_iload 2 38),
  (38, o_iret)]
def S3_behindJoint : am_E := am_S K3_behindJoint 4
theorem hdd_3_behindJoint : yX3_behindJoint.cls ≠ "java/lang/invoke/MethodHandle" ∧ yX3_behindJoint.cls ≠ "java/lang/invoke/VarHandle" ∧ (parseMethodDescriptor yX3_behindJoint.desc).map (fun d => d.parameters.length) = some 1 := by decide +kernel
set_option maxRecDepth 100000 in
theorem snd_3_behindJoint : am_Sound yX3_behindJoint cX3_behindJoint 4 (some .int) 1 21 S3_behindJoint :=
  am_sound_of (own := RX3) (by decide) rfl <|
    fm_c (si_iconst dX3_behindJoint_0 rfl) <|
    fm_c (si_istoren dX3_behindJoint_1 rfl rfl) <|
    fm_c (si_iloadn dX3_behindJoint_2 rfl) <|
    fm_c (si_iconst dX3_behindJoint_3 rfl) <|
    fm_c (si_ic_ne dX3_behindJoint_4 rfl) <|
    fm_c (si_iloadn dX3_behindJoint_7 rfl) <|
    fm_c (si_iret rfl dX3_behindJoint_8) <|
    fm_c (si_iloadn dX3_behindJoint_9 rfl) <|
    fm_c (si_iconst dX3_behindJoint_10 rfl) <|
    fm_c (si_iadd dX3_behindJoint_11) <|
    fm_c (si_istoren dX3_behindJoint_12 rfl rfl) <|
    fm_c (si_iloadn dX3_behindJoint_13 rfl) <|
    fm_c (si_aloadn dX3_behindJoint_14 rfl) <|
    fm_c (si_getf (C := RX3) (T := TX3) (N := 5) dX3_behindJoint_15 rfl inC_3 rfl tw_180) <|
    fm_c (si_ic_ge dX3_behindJoint_18 rfl) <|
    fm_c (si_iloadn dX3_behindJoint_21 rfl) <|
    fm_c (si_iconst dX3_behindJoint_22 rfl) <|
    fm_c (si_aloadn dX3_behindJoint_23 rfl) <|
    fm_c (si_iloadn dX3_behindJoint_24 rfl) <|
    fm_c (si_callv (C := RX3) (T := TX3) (N := 5) snd_3_whoGoes rfl dX3_behindJoint_25 tw_614 tw_592 tw_593 tw_71 tw_594 hdd_3_whoGoes ⟨rfl, rfl⟩) <|
    fm_c (si_ishl dX3_behindJoint_28) <|
    fm_c (si_ior dX3_behindJoint_29) <|
    fm_c (si_istoren dX3_behindJoint_30 rfl rfl) <|
    fm_c (si_iinc dX3_behindJoint_31 rfl rfl) <|
    fm_c (si_goto dX3_behindJoint_34 rfl) <|
    fm_c (si_iloadn dX3_behindJoint_37 rfl) <|
    fm_c (si_iret rfl dX3_behindJoint_38) <|
    fun _ h => absurd h List.not_mem_nil
def K11_torn : List (Nat × am_O) := [(0, o_iload 2 1),
  (1, o_if (fun a => a < 0) 9 4),
  (4, o_iload 2 5),
  (5, o_push (aI 3) 6),
  (6, o_ic (fun a b => a ≤ b) 12 9),
  (9, o_push (aI (-2)) 11),
  (11, o_iret),
  (12, o_aload 0 13),
  (13, o_getf 11 8 16),
  (16, o_iload 1 17),
  (17, o_putI 8 0 20),
  (20, o_aload 0 21),
  (21, o_callv S11_goThroughFair 11 0 true 24),
  (24, o_iload 2 25),
  (25, o_if (fun a => ¬ a = 0) 36 28),
  (28, o_aload 0 29),
  (29, o_getf 11 8 32),
  (32, o_getf 8 2 35),
  (35, o_iret),
  (36, o_iload 2 37),
  (37, o_push (aI 1) 38),
  (38, o_ic (fun a b => ¬ a = b) 49 41),
  (41, o_aload 0 42),
  (42, o_getf 11 8 45),
  (45, o_getf 8 3 48),
  (48, o_iret),
  (49, o_iload 2 50),
  (50, o_push (aI 2) 51),
  (51, o_ic (fun a b => ¬ a = b) 64 54),
  (54, o_aload 0 55),
  (55, o_getf 11 8 58),
  (58, o_getf 8 4 61),
  (61, o_goto 78),
  (64, o_aload 0 65),
  (65, o_getf 11 6 68),
  (68, o_aload 0 69),
  (69, o_getf 11 8 72),
  (72, o_getf 8 2 75),
  (75, o_callv S3_behindJoint 3 1 false 78),
  (78, o_iret)]
def S11_torn : am_E := am_S K11_torn 3
theorem hdd_11_torn : yX11_torn.cls ≠ "java/lang/invoke/MethodHandle" ∧ yX11_torn.cls ≠ "java/lang/invoke/VarHandle" ∧ (parseMethodDescriptor yX11_torn.desc).map (fun d => d.parameters.length) = some 2 := by decide +kernel
set_option maxRecDepth 100000 in
theorem snd_11_torn : am_Sound yX11_torn cX11_torn 3 (some .int) 4 89 S11_torn :=
  am_sound_of (own := RX11) (by decide) rfl <|
    fm_c (si_iloadn dX11_torn_0 rfl) <|
    fm_c (si_if_lt dX11_torn_1 rfl) <|
    fm_c (si_iloadn dX11_torn_4 rfl) <|
    fm_c (si_iconst dX11_torn_5 rfl) <|
    fm_c (si_ic_le dX11_torn_6 rfl) <|
    fm_c (si_bipush dX11_torn_9 rfl) <|
    fm_c (si_iret rfl dX11_torn_11) <|
    fm_c (si_aloadn dX11_torn_12 rfl) <|
    fm_c (si_getf (C := RX11) (T := TX11) (N := 17) dX11_torn_13 rfl inC_11 rfl tw_333) <|
    fm_c (si_iloadn dX11_torn_16 rfl) <|
    fm_c (si_putI (C := RX8) (T := TX8) (N := 5) dX11_torn_17 rfl inC_8 tyX8 tyX8_ok nmX8 rfl tw_229 rfl (tyX8_ok 0 (by decide))) <|
    fm_c (si_aloadn dX11_torn_20 rfl) <|
    fm_c (si_callv (C := RX11) (T := TX11) (N := 17) snd_11_goThroughFair rfl dX11_torn_21 tw_695 tw_697 tw_14 tw_65 tw_698 hdd_11_goThroughFair ⟨rfl, rfl⟩) <|
    fm_c (si_iloadn dX11_torn_24 rfl) <|
    fm_c (si_if_ne dX11_torn_25 rfl) <|
    fm_c (si_aloadn dX11_torn_28 rfl) <|
    fm_c (si_getf (C := RX11) (T := TX11) (N := 17) dX11_torn_29 rfl inC_11 rfl tw_333) <|
    fm_c (si_getf (C := RX8) (T := TX8) (N := 5) dX11_torn_32 rfl inC_8 rfl tw_232) <|
    fm_c (si_iret rfl dX11_torn_35) <|
    fm_c (si_iloadn dX11_torn_36 rfl) <|
    fm_c (si_iconst dX11_torn_37 rfl) <|
    fm_c (si_ic_ne dX11_torn_38 rfl) <|
    fm_c (si_aloadn dX11_torn_41 rfl) <|
    fm_c (si_getf (C := RX11) (T := TX11) (N := 17) dX11_torn_42 rfl inC_11 rfl tw_333) <|
    fm_c (si_getf (C := RX8) (T := TX8) (N := 5) dX11_torn_45 rfl inC_8 rfl tw_234) <|
    fm_c (si_iret rfl dX11_torn_48) <|
    fm_c (si_iloadn dX11_torn_49 rfl) <|
    fm_c (si_iconst dX11_torn_50 rfl) <|
    fm_c (si_ic_ne dX11_torn_51 rfl) <|
    fm_c (si_aloadn dX11_torn_54 rfl) <|
    fm_c (si_getf (C := RX11) (T := TX11) (N := 17) dX11_torn_55 rfl inC_11 rfl tw_333) <|
    fm_c (si_getf (C := RX8) (T := TX8) (N := 5) dX11_torn_58 rfl inC_8 rfl tw_236) <|
    fm_c (si_goto dX11_torn_61 rfl) <|
    fm_c (si_aloadn dX11_torn_64 rfl) <|
    fm_c (si_getf (C := RX11) (T := TX11) (N := 17) dX11_torn_65 rfl inC_11 rfl tw_331) <|
    fm_c (si_aloadn dX11_torn_68 rfl) <|
    fm_c (si_getf (C := RX11) (T := TX11) (N := 17) dX11_torn_69 rfl inC_11 rfl tw_333) <|
    fm_c (si_getf (C := RX8) (T := TX8) (N := 5) dX11_torn_72 rfl inC_8 rfl tw_232) <|
    fm_c (si_callv (C := RX3) (T := TX3) (N := 5) snd_3_behindJoint rfl dX11_torn_75 tw_715 tw_716 tw_717 tw_71 tw_718 hdd_3_behindJoint ⟨rfl, rfl⟩) <|
    fm_c (si_iret rfl dX11_torn_78) <|
    fun _ h => absurd h List.not_mem_nil
def K11_fairs : List (Nat × am_O) := [(0, o_iload 2 1),
  (1, o_push (aI 1) 2),
  (2, o_ic (fun a b => a < b) 11 5),
  (5, o_iload 2 6),
  (6, o_push (aI 60) 8),
  (8, o_ic (fun a b => a ≤ b) 14 11),
  (11, o_push (aI (-2)) 13),
  (13, o_iret),
  (14, o_push (aI 0) 15),
  (15, o_istore 3 16),
  (16, o_aload 0 17),
  (17, o_getf 11 8 20),
  (20, o_iload 1 21),
  (21, o_putI 8 0 24),
  (24, o_push (aI 0) 25),
  (25, o_istore 4 27),
  (27, o_iload 4 29),
  (29, o_iload 2 30),
  (30, o_ic (fun a b => b ≤ a) 53 33),
  (33, o_aload 0 34),
  (34, o_callv S11_goThroughFair 11 0 true 37),
  (37, o_iload 3 38),
  (38, o_aload 0 39),
  (39, o_getf 11 8 42),
  (42, o_getf 8 4 45),
  (45, o_bin (fun a b => w32 (a + b)) 46),
  (46, o_istore 3 47),
  (47, o_iinc 4 1 50),
  (50, o_goto 27),
  (53, o_iload 3 54),
  (54, o_iret)]
def S11_fairs : am_E := am_S K11_fairs 5
theorem hdd_11_fairs : yX11_fairs.cls ≠ "java/lang/invoke/MethodHandle" ∧ yX11_fairs.cls ≠ "java/lang/invoke/VarHandle" ∧ (parseMethodDescriptor yX11_fairs.desc).map (fun d => d.parameters.length) = some 2 := by decide +kernel
set_option maxRecDepth 100000 in
theorem snd_11_fairs : am_Sound yX11_fairs cX11_fairs 5 (some .int) 4 89 S11_fairs :=
  am_sound_of (own := RX11) (by decide) rfl <|
    fm_c (si_iloadn dX11_fairs_0 rfl) <|
    fm_c (si_iconst dX11_fairs_1 rfl) <|
    fm_c (si_ic_lt dX11_fairs_2 rfl) <|
    fm_c (si_iloadn dX11_fairs_5 rfl) <|
    fm_c (si_bipush dX11_fairs_6 rfl) <|
    fm_c (si_ic_le dX11_fairs_8 rfl) <|
    fm_c (si_bipush dX11_fairs_11 rfl) <|
    fm_c (si_iret rfl dX11_fairs_13) <|
    fm_c (si_iconst dX11_fairs_14 rfl) <|
    fm_c (si_istoren dX11_fairs_15 rfl rfl) <|
    fm_c (si_aloadn dX11_fairs_16 rfl) <|
    fm_c (si_getf (C := RX11) (T := TX11) (N := 17) dX11_fairs_17 rfl inC_11 rfl tw_333) <|
    fm_c (si_iloadn dX11_fairs_20 rfl) <|
    fm_c (si_putI (C := RX8) (T := TX8) (N := 5) dX11_fairs_21 rfl inC_8 tyX8 tyX8_ok nmX8 rfl tw_229 rfl (tyX8_ok 0 (by decide))) <|
    fm_c (si_iconst dX11_fairs_24 rfl) <|
    fm_c (si_istore dX11_fairs_25 rfl) <|
    fm_c (si_iload dX11_fairs_27) <|
    fm_c (si_iloadn dX11_fairs_29 rfl) <|
    fm_c (si_ic_ge dX11_fairs_30 rfl) <|
    fm_c (si_aloadn dX11_fairs_33 rfl) <|
    fm_c (si_callv (C := RX11) (T := TX11) (N := 17) snd_11_goThroughFair rfl dX11_fairs_34 tw_695 tw_697 tw_14 tw_65 tw_698 hdd_11_goThroughFair ⟨rfl, rfl⟩) <|
    fm_c (si_iloadn dX11_fairs_37 rfl) <|
    fm_c (si_aloadn dX11_fairs_38 rfl) <|
    fm_c (si_getf (C := RX11) (T := TX11) (N := 17) dX11_fairs_39 rfl inC_11 rfl tw_333) <|
    fm_c (si_getf (C := RX8) (T := TX8) (N := 5) dX11_fairs_42 rfl inC_8 rfl tw_236) <|
    fm_c (si_iadd dX11_fairs_45) <|
    fm_c (si_istoren dX11_fairs_46 rfl rfl) <|
    fm_c (si_iinc dX11_fairs_47 rfl rfl) <|
    fm_c (si_goto dX11_fairs_50 rfl) <|
    fm_c (si_iloadn dX11_fairs_53 rfl) <|
    fm_c (si_iret rfl dX11_fairs_54) <|
    fun _ h => absurd h List.not_mem_nil
def K5_startAt : List (Nat × am_O) := [(0, o_aload 0 1),
  (1, o_getf 5 2 4),
  (4, o_push (aL 0) 5),
  (5, o_call SJ_fillL 2 true 8),
  (8, o_aload 0 9),
  (9, o_push (aL 1) 10),
  (10, o_putL 5 4 13),
  (13, o_iload 1 14),
  (14, o_call S2_isCell 1 false 17),
  (17, o_if (fun a => a = 0) 27 20),
  (20, o_aload 0 21),
  (21, o_getf 5 2 24),
  (24, o_iload 1 25),
  (25, o_push (aL 1) 26),
  (26, o_last 27),
  (27, o_vret)]
def S5_startAt : am_E := am_S K5_startAt 2
theorem hdd_5_startAt : yX5_startAt.cls ≠ "java/lang/invoke/MethodHandle" ∧ yX5_startAt.cls ≠ "java/lang/invoke/VarHandle" ∧ (parseMethodDescriptor yX5_startAt.desc).map (fun d => d.parameters.length) = some 1 := by decide +kernel
set_option maxRecDepth 100000 in
theorem snd_5_startAt : am_Sound yX5_startAt cX5_startAt 2 none 1 24 S5_startAt :=
  am_sound_of (own := RX5) (by decide) rfl <|
    fm_c (si_aloadn dX5_startAt_0 rfl) <|
    fm_c (si_getf (C := RX5) (T := TX5) (N := 5) dX5_startAt_1 rfl inC_5 rfl tw_256) <|
    fm_c (si_lconst0 dX5_startAt_4) <|
    fm_c (si_call snd_J_fillL dX5_startAt_5 tw_738 tw_739 tw_68 tw_740 hdd_J_fillL ⟨rfl, rfl⟩) <|
    fm_c (si_aloadn dX5_startAt_8 rfl) <|
    fm_c (si_lconst1 dX5_startAt_9) <|
    fm_c (si_putL (C := RX5) (T := TX5) (N := 5) dX5_startAt_10 rfl inC_5 tyX5 tyX5_ok nmX5 rfl tw_258 rfl (tyX5_ok 4 (by decide))) <|
    fm_c (si_iloadn dX5_startAt_13 rfl) <|
    fm_c (si_call snd_2_isCell dX5_startAt_14 tw_741 tw_482 tw_67 tw_483 hdd_2_isCell ⟨rfl, rfl⟩) <|
    fm_c (si_if_eq dX5_startAt_17 rfl) <|
    fm_c (si_aloadn dX5_startAt_20 rfl) <|
    fm_c (si_getf (C := RX5) (T := TX5) (N := 5) dX5_startAt_21 rfl inC_5 rfl tw_256) <|
    fm_c (si_iloadn dX5_startAt_24 rfl) <|
    fm_c (si_lconst1 dX5_startAt_25) <|
    fm_c (si_last dX5_startAt_26) <|
    fm_c (si_vret rfl dX5_startAt_27) <|
    fun _ h => absurd h List.not_mem_nil
def K5_spread : List (Nat × am_O) := [(0, o_push (aI 1) 1),
  (1, o_istore 2 2),
  (2, o_push (aI 0) 3),
  (3, o_istore 3 4),
  (4, o_iload 3 5),
  (5, o_push (aI 4) 6),
  (6, o_ic (fun a b => b ≤ a) 36 9),
  (9, o_iload 2 10),
  (10, o_aload 0 11),
  (11, o_getf 5 0 14),
  (14, o_iload 1 15),
  (15, o_iload 3 16),
  (16, o_callv S2_beside 2 2 false 19),
  (19, o_push (aI (-1)) 20),
  (20, o_ic (fun a b => ¬ a = b) 27 23),
  (23, o_push (aI 0) 24),
  (24, o_goto 28),
  (27, o_push (aI 1) 28),
  (28, o_bin (fun a b => w32 (a + b)) 29),
  (29, o_istore 2 30),
  (30, o_iinc 3 1 33),
  (33, o_goto 4),
  (36, o_aload 0 37),
  (37, o_getf 5 2 40),
  (40, o_iload 1 41),
  (41, o_lald 42),
  (42, o_push (aL 60) 45),
  (45, o_binL (fun a b => w64 (a * b)) 46),
  (46, o_iload 2 47),
  (47, o_i2l 48),
  (48, o_ldiv 49),
  (49, o_lstore 3 50),
  (50, o_aload 0 51),
  (51, o_getf 5 3 54),
  (54, o_iload 1 55),
  (55, o_dup2 56),
  (56, o_lald 57),
  (57, o_lload 3 58),
  (58, o_binL (fun a b => w64 (a + b)) 59),
  (59, o_last 60),
  (60, o_push (aI 0) 61),
  (61, o_istore 5 63),
  (63, o_iload 5 65),
  (65, o_push (aI 4) 66),
  (66, o_ic (fun a b => b ≤ a) 106 69),
  (69, o_aload 0 70),
  (70, o_getf 5 0 73),
  (73, o_iload 1 74),
  (74, o_iload 5 76),
  (76, o_callv S2_beside 2 2 false 79),
  (79, o_istore 6 81),
  (81, o_iload 6 83),
  (83, o_call S2_isCell 1 false 86),
  (86, o_if (fun a => a = 0) 100 89),
  (89, o_aload 0 90),
  (90, o_getf 5 3 93),
  (93, o_iload 6 95),
  (95, o_dup2 96),
  (96, o_lald 97),
  (97, o_lload 3 98),
  (98, o_binL (fun a b => w64 (a + b)) 99),
  (99, o_last 100),
  (100, o_iinc 5 1 103),
  (103, o_goto 63),
  (106, o_vret)]
def S5_spread : am_E := am_S K5_spread 7
theorem hdd_5_spread : yX5_spread.cls ≠ "java/lang/invoke/MethodHandle" ∧ yX5_spread.cls ≠ "java/lang/invoke/VarHandle" ∧ (parseMethodDescriptor yX5_spread.desc).map (fun d => d.parameters.length) = some 1 := by decide +kernel
set_option maxRecDepth 100000 in
theorem snd_5_spread : am_Sound yX5_spread cX5_spread 7 none 1 23 S5_spread :=
  am_sound_of (own := RX5) (by decide) rfl <|
    fm_c (si_iconst dX5_spread_0 rfl) <|
    fm_c (si_istoren dX5_spread_1 rfl rfl) <|
    fm_c (si_iconst dX5_spread_2 rfl) <|
    fm_c (si_istoren dX5_spread_3 rfl rfl) <|
    fm_c (si_iloadn dX5_spread_4 rfl) <|
    fm_c (si_iconst dX5_spread_5 rfl) <|
    fm_c (si_ic_ge dX5_spread_6 rfl) <|
    fm_c (si_iloadn dX5_spread_9 rfl) <|
    fm_c (si_aloadn dX5_spread_10 rfl) <|
    fm_c (si_getf (C := RX5) (T := TX5) (N := 5) dX5_spread_11 rfl inC_5 rfl tw_254) <|
    fm_c (si_iloadn dX5_spread_14 rfl) <|
    fm_c (si_iloadn dX5_spread_15 rfl) <|
    fm_c (si_callv (C := RX2) (T := TX2) (N := 3) snd_2_beside rfl dX5_spread_16 tw_750 tw_426 tw_427 tw_67 tw_428 hdd_2_beside ⟨rfl, rfl⟩) <|
    fm_c (si_iconst dX5_spread_19 rfl) <|
    fm_c (si_ic_ne dX5_spread_20 rfl) <|
    fm_c (si_iconst dX5_spread_23 rfl) <|
    fm_c (si_goto dX5_spread_24 rfl) <|
    fm_c (si_iconst dX5_spread_27 rfl) <|
    fm_c (si_iadd dX5_spread_28) <|
    fm_c (si_istoren dX5_spread_29 rfl rfl) <|
    fm_c (si_iinc dX5_spread_30 rfl rfl) <|
    fm_c (si_goto dX5_spread_33 rfl) <|
    fm_c (si_aloadn dX5_spread_36 rfl) <|
    fm_c (si_getf (C := RX5) (T := TX5) (N := 5) dX5_spread_37 rfl inC_5 rfl tw_256) <|
    fm_c (si_iloadn dX5_spread_40 rfl) <|
    fm_c (si_lald dX5_spread_41) <|
    fm_c (si_ldc2 dX5_spread_42 tw_751 rfl) <|
    fm_c (si_lmul dX5_spread_45) <|
    fm_c (si_iloadn dX5_spread_46 rfl) <|
    fm_c (si_i2l dX5_spread_47) <|
    fm_c (si_ldiv dX5_spread_48) <|
    fm_c (si_lstoren dX5_spread_49 rfl rfl) <|
    fm_c (si_aloadn dX5_spread_50 rfl) <|
    fm_c (si_getf (C := RX5) (T := TX5) (N := 5) dX5_spread_51 rfl inC_5 rfl tw_257) <|
    fm_c (si_iloadn dX5_spread_54 rfl) <|
    fm_c (si_dup2 dX5_spread_55) <|
    fm_c (si_lald dX5_spread_56) <|
    fm_c (si_lloadn dX5_spread_57 rfl) <|
    fm_c (si_ladd dX5_spread_58) <|
    fm_c (si_last dX5_spread_59) <|
    fm_c (si_iconst dX5_spread_60 rfl) <|
    fm_c (si_istore dX5_spread_61 rfl) <|
    fm_c (si_iload dX5_spread_63) <|
    fm_c (si_iconst dX5_spread_65 rfl) <|
    fm_c (si_ic_ge dX5_spread_66 rfl) <|
    fm_c (si_aloadn dX5_spread_69 rfl) <|
    fm_c (si_getf (C := RX5) (T := TX5) (N := 5) dX5_spread_70 rfl inC_5 rfl tw_254) <|
    fm_c (si_iloadn dX5_spread_73 rfl) <|
    fm_c (si_iload dX5_spread_74) <|
    fm_c (si_callv (C := RX2) (T := TX2) (N := 3) snd_2_beside rfl dX5_spread_76 tw_750 tw_426 tw_427 tw_67 tw_428 hdd_2_beside ⟨rfl, rfl⟩) <|
    fm_c (si_istore dX5_spread_79 rfl) <|
    fm_c (si_iload dX5_spread_81) <|
    fm_c (si_call snd_2_isCell dX5_spread_83 tw_741 tw_482 tw_67 tw_483 hdd_2_isCell ⟨rfl, rfl⟩) <|
    fm_c (si_if_eq dX5_spread_86 rfl) <|
    fm_c (si_aloadn dX5_spread_89 rfl) <|
    fm_c (si_getf (C := RX5) (T := TX5) (N := 5) dX5_spread_90 rfl inC_5 rfl tw_257) <|
    fm_c (si_iload dX5_spread_93) <|
    fm_c (si_dup2 dX5_spread_95) <|
    fm_c (si_lald dX5_spread_96) <|
    fm_c (si_lloadn dX5_spread_97 rfl) <|
    fm_c (si_ladd dX5_spread_98) <|
    fm_c (si_last dX5_spread_99) <|
    fm_c (si_iinc dX5_spread_100 rfl rfl) <|
    fm_c (si_goto dX5_spread_103 rfl) <|
    fm_c (si_vret rfl dX5_spread_106) <|
    fun _ h => absurd h List.not_mem_nil
def K5_wander : List (Nat × am_O) := [(0, o_aload 0 1),
  (1, o_getf 5 3 4),
  (4, o_push (aL 0) 5),
  (5, o_call SJ_fillL 2 true 8),
  (8, o_push (aI 0) 9),
  (9, o_istore 1 10),
  (10, o_iload 1 11),
  (11, o_push (aI 64) 13),
  (13, o_ic (fun a b => b ≤ a) 38 16),
  (16, o_aload 0 17),
  (17, o_getf 5 2 20),
  (20, o_iload 1 21),
  (21, o_lald 22),
  (22, o_push (aL 0) 23),
  (23, o_lcmp 24),
  (24, o_if (fun a => a = 0) 32 27),
  (27, o_aload 0 28),
  (28, o_iload 1 29),
  (29, o_callv S5_spread 5 1 true 32),
  (32, o_iinc 1 1 35),
  (35, o_goto 10),
  (38, o_aload 0 39),
  (39, o_getf 5 3 42),
  (42, o_push (aI 0) 43),
  (43, o_aload 0 44),
  (44, o_getf 5 2 47),
  (47, o_push (aI 0) 48),
  (48, o_push (aI 64) 50),
  (50, o_acpy 1 53),
  (53, o_aload 0 54),
  (54, o_dup 55),
  (55, o_getf 5 4 58),
  (58, o_push (aL 60) 61),
  (61, o_binL (fun a b => w64 (a * b)) 62),
  (62, o_putL 5 4 65),
  (65, o_vret)]
def S5_wander : am_E := am_S K5_wander 2
theorem hdd_5_wander : yX5_wander.cls ≠ "java/lang/invoke/MethodHandle" ∧ yX5_wander.cls ≠ "java/lang/invoke/VarHandle" ∧ (parseMethodDescriptor yX5_wander.desc).map (fun d => d.parameters.length) = some 0 := by decide +kernel
set_option maxRecDepth 100000 in
theorem snd_5_wander : am_Sound yX5_wander cX5_wander 2 none 2 49 S5_wander :=
  am_sound_of (own := RX5) (by decide) rfl <|
    fm_c (si_aloadn dX5_wander_0 rfl) <|
    fm_c (si_getf (C := RX5) (T := TX5) (N := 5) dX5_wander_1 rfl inC_5 rfl tw_257) <|
    fm_c (si_lconst0 dX5_wander_4) <|
    fm_c (si_call snd_J_fillL dX5_wander_5 tw_738 tw_739 tw_68 tw_740 hdd_J_fillL ⟨rfl, rfl⟩) <|
    fm_c (si_iconst dX5_wander_8 rfl) <|
    fm_c (si_istoren dX5_wander_9 rfl rfl) <|
    fm_c (si_iloadn dX5_wander_10 rfl) <|
    fm_c (si_bipush dX5_wander_11 rfl) <|
    fm_c (si_ic_ge dX5_wander_13 rfl) <|
    fm_c (si_aloadn dX5_wander_16 rfl) <|
    fm_c (si_getf (C := RX5) (T := TX5) (N := 5) dX5_wander_17 rfl inC_5 rfl tw_256) <|
    fm_c (si_iloadn dX5_wander_20 rfl) <|
    fm_c (si_lald dX5_wander_21) <|
    fm_c (si_lconst0 dX5_wander_22) <|
    fm_c (si_lcmp dX5_wander_23) <|
    fm_c (si_if_eq dX5_wander_24 rfl) <|
    fm_c (si_aloadn dX5_wander_27 rfl) <|
    fm_c (si_iloadn dX5_wander_28 rfl) <|
    fm_c (si_callv (C := RX5) (T := TX5) (N := 5) snd_5_spread rfl dX5_wander_29 tw_746 tw_748 tw_18 tw_74 tw_749 hdd_5_spread ⟨rfl, rfl⟩) <|
    fm_c (si_iinc dX5_wander_32 rfl rfl) <|
    fm_c (si_goto dX5_wander_35 rfl) <|
    fm_c (si_aloadn dX5_wander_38 rfl) <|
    fm_c (si_getf (C := RX5) (T := TX5) (N := 5) dX5_wander_39 rfl inC_5 rfl tw_257) <|
    fm_c (si_iconst dX5_wander_42 rfl) <|
    fm_c (si_aloadn dX5_wander_43 rfl) <|
    fm_c (si_getf (C := RX5) (T := TX5) (N := 5) dX5_wander_44 rfl inC_5 rfl tw_256) <|
    fm_c (si_iconst dX5_wander_47 rfl) <|
    fm_c (si_bipush dX5_wander_48 rfl) <|
    fm_c (si_acpyL dX5_wander_50 tw_752 tw_754 tw_753 tw_81 ⟨rfl, rfl⟩) <|
    fm_c (si_aloadn dX5_wander_53 rfl) <|
    fm_c (si_dup dX5_wander_54) <|
    fm_c (si_getf (C := RX5) (T := TX5) (N := 5) dX5_wander_55 rfl inC_5 rfl tw_258) <|
    fm_c (si_ldc2 dX5_wander_58 tw_751 rfl) <|
    fm_c (si_lmul dX5_wander_61) <|
    fm_c (si_putL (C := RX5) (T := TX5) (N := 5) dX5_wander_62 rfl inC_5 tyX5 tyX5_ok nmX5 rfl tw_258 rfl (tyX5_ok 4 (by decide))) <|
    fm_c (si_vret rfl dX5_wander_65) <|
    fun _ h => absurd h List.not_mem_nil
def K5_likeliestPlace : List (Nat × am_O) := [(0, o_push (aI 0) 1),
  (1, o_istore 1 2),
  (2, o_push (aI 1) 3),
  (3, o_istore 2 4),
  (4, o_iload 2 5),
  (5, o_push (aI 64) 7),
  (7, o_ic (fun a b => b ≤ a) 34 10),
  (10, o_aload 0 11),
  (11, o_getf 5 2 14),
  (14, o_iload 2 15),
  (15, o_lald 16),
  (16, o_aload 0 17),
  (17, o_getf 5 2 20),
  (20, o_iload 1 21),
  (21, o_lald 22),
  (22, o_lcmp 23),
  (23, o_if (fun a => a ≤ 0) 28 26),
  (26, o_iload 2 27),
  (27, o_istore 1 28),
  (28, o_iinc 2 1 31),
  (31, o_goto 4),
  (34, o_iload 1 35),
  (35, o_iret)]
def S5_likeliestPlace : am_E := am_S K5_likeliestPlace 3
theorem hdd_5_likeliestPlace : yX5_likeliestPlace.cls ≠ "java/lang/invoke/MethodHandle" ∧ yX5_likeliestPlace.cls ≠ "java/lang/invoke/VarHandle" ∧ (parseMethodDescriptor yX5_likeliestPlace.desc).map (fun d => d.parameters.length) = some 0 := by decide +kernel
set_option maxRecDepth 100000 in
theorem snd_5_likeliestPlace : am_Sound yX5_likeliestPlace cX5_likeliestPlace 3 (some .int) 0 0 S5_likeliestPlace :=
  am_sound_of (own := RX5) (by decide) rfl <|
    fm_c (si_iconst dX5_likeliestPlace_0 rfl) <|
    fm_c (si_istoren dX5_likeliestPlace_1 rfl rfl) <|
    fm_c (si_iconst dX5_likeliestPlace_2 rfl) <|
    fm_c (si_istoren dX5_likeliestPlace_3 rfl rfl) <|
    fm_c (si_iloadn dX5_likeliestPlace_4 rfl) <|
    fm_c (si_bipush dX5_likeliestPlace_5 rfl) <|
    fm_c (si_ic_ge dX5_likeliestPlace_7 rfl) <|
    fm_c (si_aloadn dX5_likeliestPlace_10 rfl) <|
    fm_c (si_getf (C := RX5) (T := TX5) (N := 5) dX5_likeliestPlace_11 rfl inC_5 rfl tw_256) <|
    fm_c (si_iloadn dX5_likeliestPlace_14 rfl) <|
    fm_c (si_lald dX5_likeliestPlace_15) <|
    fm_c (si_aloadn dX5_likeliestPlace_16 rfl) <|
    fm_c (si_getf (C := RX5) (T := TX5) (N := 5) dX5_likeliestPlace_17 rfl inC_5 rfl tw_256) <|
    fm_c (si_iloadn dX5_likeliestPlace_20 rfl) <|
    fm_c (si_lald dX5_likeliestPlace_21) <|
    fm_c (si_lcmp dX5_likeliestPlace_22) <|
    fm_c (si_if_le dX5_likeliestPlace_23 rfl) <|
    fm_c (si_iloadn dX5_likeliestPlace_26 rfl) <|
    fm_c (si_istoren dX5_likeliestPlace_27 rfl rfl) <|
    fm_c (si_iinc dX5_likeliestPlace_28 rfl rfl) <|
    fm_c (si_goto dX5_likeliestPlace_31 rfl) <|
    fm_c (si_iloadn dX5_likeliestPlace_34 rfl) <|
    fm_c (si_iret rfl dX5_likeliestPlace_35) <|
    fun _ h => absurd h List.not_mem_nil
def K5_goNearer : List (Nat × am_O) := [(0, o_aload 0 1),
  (1, o_callv S5_likeliestPlace 5 0 false 4),
  (4, o_istore 1 5),
  (5, o_aload 0 6),
  (6, o_getf 5 1 9),
  (9, o_iload 1 10),
  (10, o_callv S0_stepsTo 0 1 false 13),
  (13, o_istore 2 14),
  (14, o_push (aI 0) 15),
  (15, o_istore 3 16),
  (16, o_iload 3 17),
  (17, o_push (aI 4) 18),
  (18, o_ic (fun a b => b ≤ a) 68 21),
  (21, o_aload 0 22),
  (22, o_getf 5 0 25),
  (25, o_iload 1 26),
  (26, o_iload 3 27),
  (27, o_callv S2_beside 2 2 false 30),
  (30, o_istore 4 32),
  (32, o_iload 4 34),
  (34, o_push (aI (-1)) 35),
  (35, o_ic (fun a b => a = b) 62 38),
  (38, o_iload 2 39),
  (39, o_if (fun a => a ≤ 0) 62 42),
  (42, o_aload 0 43),
  (43, o_getf 5 1 46),
  (46, o_iload 4 48),
  (48, o_callv S0_stepsTo 0 1 false 51),
  (51, o_iload 2 52),
  (52, o_ic (fun a b => b ≤ a) 62 55),
  (55, o_aload 0 56),
  (56, o_iload 4 58),
  (58, o_callv S5_startAt 5 1 true 61),
  (61, o_vret),
  (62, o_iinc 3 1 65),
  (65, o_goto 16),
  (68, o_vret)]
def S5_goNearer : am_E := am_S K5_goNearer 5
theorem hdd_5_goNearer : yX5_goNearer.cls ≠ "java/lang/invoke/MethodHandle" ∧ yX5_goNearer.cls ≠ "java/lang/invoke/VarHandle" ∧ (parseMethodDescriptor yX5_goNearer.desc).map (fun d => d.parameters.length) = some 0 := by decide +kernel
set_option maxRecDepth 100000 in
theorem snd_5_goNearer : am_Sound yX5_goNearer cX5_goNearer 5 none 2 45 S5_goNearer :=
  am_sound_of (own := RX5) (by decide) rfl <|
    fm_c (si_aloadn dX5_goNearer_0 rfl) <|
    fm_c (si_callv (C := RX5) (T := TX5) (N := 5) snd_5_likeliestPlace rfl dX5_goNearer_1 tw_759 tw_760 tw_761 tw_74 tw_762 hdd_5_likeliestPlace ⟨rfl, rfl⟩) <|
    fm_c (si_istoren dX5_goNearer_4 rfl rfl) <|
    fm_c (si_aloadn dX5_goNearer_5 rfl) <|
    fm_c (si_getf (C := RX5) (T := TX5) (N := 5) dX5_goNearer_6 rfl inC_5 rfl tw_255) <|
    fm_c (si_iloadn dX5_goNearer_9 rfl) <|
    fm_c (si_callv (C := RX0) (T := TX0) (N := 3) snd_0_stepsTo rfl dX5_goNearer_10 tw_763 tw_542 tw_543 tw_69 tw_544 hdd_0_stepsTo ⟨rfl, rfl⟩) <|
    fm_c (si_istoren dX5_goNearer_13 rfl rfl) <|
    fm_c (si_iconst dX5_goNearer_14 rfl) <|
    fm_c (si_istoren dX5_goNearer_15 rfl rfl) <|
    fm_c (si_iloadn dX5_goNearer_16 rfl) <|
    fm_c (si_iconst dX5_goNearer_17 rfl) <|
    fm_c (si_ic_ge dX5_goNearer_18 rfl) <|
    fm_c (si_aloadn dX5_goNearer_21 rfl) <|
    fm_c (si_getf (C := RX5) (T := TX5) (N := 5) dX5_goNearer_22 rfl inC_5 rfl tw_254) <|
    fm_c (si_iloadn dX5_goNearer_25 rfl) <|
    fm_c (si_iloadn dX5_goNearer_26 rfl) <|
    fm_c (si_callv (C := RX2) (T := TX2) (N := 3) snd_2_beside rfl dX5_goNearer_27 tw_750 tw_426 tw_427 tw_67 tw_428 hdd_2_beside ⟨rfl, rfl⟩) <|
    fm_c (si_istore dX5_goNearer_30 rfl) <|
    fm_c (si_iload dX5_goNearer_32) <|
    fm_c (si_iconst dX5_goNearer_34 rfl) <|
    fm_c (si_ic_eq dX5_goNearer_35 rfl) <|
    fm_c (si_iloadn dX5_goNearer_38 rfl) <|
    fm_c (si_if_le dX5_goNearer_39 rfl) <|
    fm_c (si_aloadn dX5_goNearer_42 rfl) <|
    fm_c (si_getf (C := RX5) (T := TX5) (N := 5) dX5_goNearer_43 rfl inC_5 rfl tw_255) <|
    fm_c (si_iload dX5_goNearer_46) <|
    fm_c (si_callv (C := RX0) (T := TX0) (N := 3) snd_0_stepsTo rfl dX5_goNearer_48 tw_763 tw_542 tw_543 tw_69 tw_544 hdd_0_stepsTo ⟨rfl, rfl⟩) <|
    fm_c (si_iloadn dX5_goNearer_51 rfl) <|
    fm_c (si_ic_ge dX5_goNearer_52 rfl) <|
    fm_c (si_aloadn dX5_goNearer_55 rfl) <|
    fm_c (si_iload dX5_goNearer_56) <|
    fm_c (si_callv (C := RX5) (T := TX5) (N := 5) snd_5_startAt rfl dX5_goNearer_58 tw_764 tw_735 tw_736 tw_74 tw_737 hdd_5_startAt ⟨rfl, rfl⟩) <|
    fm_c (si_vret rfl dX5_goNearer_61) <|
    fm_c (si_iinc dX5_goNearer_62 rfl rfl) <|
    fm_c (si_goto dX5_goNearer_65 rfl) <|
    fm_c (si_vret rfl dX5_goNearer_68) <|
    fun _ h => absurd h List.not_mem_nil
def K11_loseFrom : List (Nat × am_O) := [(0, o_aload 0 1),
  (1, o_getf 11 9 4),
  (4, o_iload 1 5),
  (5, o_callv S5_startAt 5 1 true 8),
  (8, o_aload 0 9),
  (9, o_getf 11 15 12),
  (12, o_push (aI 2) 13),
  (13, o_ic (fun a b => ¬ a = b) 27 16),
  (16, o_aload 0 17),
  (17, o_getf 11 4 20),
  (20, o_aload 0 21),
  (21, o_getf 11 14 24),
  (24, o_callv S0_measureFrom 0 1 true 27),
  (27, o_push (aI 0) 28),
  (28, o_istore 3 29),
  (29, o_iload 3 30),
  (30, o_iload 2 31),
  (31, o_ic (fun a b => b ≤ a) 72 34),
  (34, o_aload 0 35),
  (35, o_getf 11 15 38),
  (38, o_if (fun a => a = 0) 72 41),
  (41, o_aload 0 42),
  (42, o_getf 11 15 45),
  (45, o_push (aI 1) 46),
  (46, o_ic (fun a b => ¬ a = b) 59 49),
  (49, o_aload 0 50),
  (50, o_getf 11 9 53),
  (53, o_callv S5_wander 5 0 true 56),
  (56, o_goto 66),
  (59, o_aload 0 60),
  (60, o_getf 11 9 63),
  (63, o_callv S5_goNearer 5 0 true 66),
  (66, o_iinc 3 1 69),
  (69, o_goto 29),
  (72, o_vret)]
def S11_loseFrom : am_E := am_S K11_loseFrom 4
theorem hdd_11_loseFrom : yX11_loseFrom.cls ≠ "java/lang/invoke/MethodHandle" ∧ yX11_loseFrom.cls ≠ "java/lang/invoke/VarHandle" ∧ (parseMethodDescriptor yX11_loseFrom.desc).map (fun d => d.parameters.length) = some 2 := by decide +kernel
set_option maxRecDepth 100000 in
theorem snd_11_loseFrom : am_Sound yX11_loseFrom cX11_loseFrom 4 none 3 70 S11_loseFrom :=
  am_sound_of (own := RX11) (by decide) rfl <|
    fm_c (si_aloadn dX11_loseFrom_0 rfl) <|
    fm_c (si_getf (C := RX11) (T := TX11) (N := 17) dX11_loseFrom_1 rfl inC_11 rfl tw_334) <|
    fm_c (si_iloadn dX11_loseFrom_4 rfl) <|
    fm_c (si_callv (C := RX5) (T := TX5) (N := 5) snd_5_startAt rfl dX11_loseFrom_5 tw_734 tw_735 tw_736 tw_74 tw_737 hdd_5_startAt ⟨rfl, rfl⟩) <|
    fm_c (si_aloadn dX11_loseFrom_8 rfl) <|
    fm_c (si_getf (C := RX11) (T := TX11) (N := 17) dX11_loseFrom_9 rfl inC_11 rfl tw_340) <|
    fm_c (si_iconst dX11_loseFrom_12 rfl) <|
    fm_c (si_ic_ne dX11_loseFrom_13 rfl) <|
    fm_c (si_aloadn dX11_loseFrom_16 rfl) <|
    fm_c (si_getf (C := RX11) (T := TX11) (N := 17) dX11_loseFrom_17 rfl inC_11 rfl tw_329) <|
    fm_c (si_aloadn dX11_loseFrom_20 rfl) <|
    fm_c (si_getf (C := RX11) (T := TX11) (N := 17) dX11_loseFrom_21 rfl inC_11 rfl tw_339) <|
    fm_c (si_callv (C := RX0) (T := TX0) (N := 3) snd_0_measureFrom rfl dX11_loseFrom_24 tw_534 tw_535 tw_536 tw_69 tw_537 hdd_0_measureFrom ⟨rfl, rfl⟩) <|
    fm_c (si_iconst dX11_loseFrom_27 rfl) <|
    fm_c (si_istoren dX11_loseFrom_28 rfl rfl) <|
    fm_c (si_iloadn dX11_loseFrom_29 rfl) <|
    fm_c (si_iloadn dX11_loseFrom_30 rfl) <|
    fm_c (si_ic_ge dX11_loseFrom_31 rfl) <|
    fm_c (si_aloadn dX11_loseFrom_34 rfl) <|
    fm_c (si_getf (C := RX11) (T := TX11) (N := 17) dX11_loseFrom_35 rfl inC_11 rfl tw_340) <|
    fm_c (si_if_eq dX11_loseFrom_38 rfl) <|
    fm_c (si_aloadn dX11_loseFrom_41 rfl) <|
    fm_c (si_getf (C := RX11) (T := TX11) (N := 17) dX11_loseFrom_42 rfl inC_11 rfl tw_340) <|
    fm_c (si_iconst dX11_loseFrom_45 rfl) <|
    fm_c (si_ic_ne dX11_loseFrom_46 rfl) <|
    fm_c (si_aloadn dX11_loseFrom_49 rfl) <|
    fm_c (si_getf (C := RX11) (T := TX11) (N := 17) dX11_loseFrom_50 rfl inC_11 rfl tw_334) <|
    fm_c (si_callv (C := RX5) (T := TX5) (N := 5) snd_5_wander rfl dX11_loseFrom_53 tw_742 tw_743 tw_744 tw_74 tw_745 hdd_5_wander ⟨rfl, rfl⟩) <|
    fm_c (si_goto dX11_loseFrom_56 rfl) <|
    fm_c (si_aloadn dX11_loseFrom_59 rfl) <|
    fm_c (si_getf (C := RX11) (T := TX11) (N := 17) dX11_loseFrom_60 rfl inC_11 rfl tw_334) <|
    fm_c (si_callv (C := RX5) (T := TX5) (N := 5) snd_5_goNearer rfl dX11_loseFrom_63 tw_755 tw_756 tw_757 tw_74 tw_758 hdd_5_goNearer ⟨rfl, rfl⟩) <|
    fm_c (si_iinc dX11_loseFrom_66 rfl rfl) <|
    fm_c (si_goto dX11_loseFrom_69 rfl) <|
    fm_c (si_vret rfl dX11_loseFrom_72) <|
    fun _ h => absurd h List.not_mem_nil
def K5_chanceOf : List (Nat × am_O) := [(0, o_iload 1 1),
  (1, o_call S2_isCell 1 false 4),
  (4, o_if (fun a => a = 0) 16 7),
  (7, o_aload 0 8),
  (8, o_getf 5 2 11),
  (11, o_iload 1 12),
  (12, o_lald 13),
  (13, o_goto 17),
  (16, o_push (aL 0) 17),
  (17, o_lret)]
def S5_chanceOf : am_E := am_S K5_chanceOf 2
theorem hdd_5_chanceOf : yX5_chanceOf.cls ≠ "java/lang/invoke/MethodHandle" ∧ yX5_chanceOf.cls ≠ "java/lang/invoke/VarHandle" ∧ (parseMethodDescriptor yX5_chanceOf.desc).map (fun d => d.parameters.length) = some 1 := by decide +kernel
set_option maxRecDepth 100000 in
theorem snd_5_chanceOf : am_Sound yX5_chanceOf cX5_chanceOf 2 (some .long) 1 20 S5_chanceOf :=
  am_sound_of (own := RX5) (by decide) rfl <|
    fm_c (si_iloadn dX5_chanceOf_0 rfl) <|
    fm_c (si_call snd_2_isCell dX5_chanceOf_1 tw_741 tw_482 tw_67 tw_483 hdd_2_isCell ⟨rfl, rfl⟩) <|
    fm_c (si_if_eq dX5_chanceOf_4 rfl) <|
    fm_c (si_aloadn dX5_chanceOf_7 rfl) <|
    fm_c (si_getf (C := RX5) (T := TX5) (N := 5) dX5_chanceOf_8 rfl inC_5 rfl tw_256) <|
    fm_c (si_iloadn dX5_chanceOf_11 rfl) <|
    fm_c (si_lald dX5_chanceOf_12) <|
    fm_c (si_goto dX5_chanceOf_13 rfl) <|
    fm_c (si_lconst0 dX5_chanceOf_16) <|
    fm_c (si_lret rfl dX5_chanceOf_17) <|
    fun _ h => absurd h List.not_mem_nil
def K11_is : List (Nat × am_O) := [(0, o_aload 0 1),
  (1, o_getf 11 3 4),
  (4, o_iload 1 5),
  (5, o_callv S2_isPlace 2 1 false 8),
  (8, o_if (fun a => a = 0) 37 11),
  (11, o_iload 2 12),
  (12, o_call S11_areMinutes 1 false 15),
  (15, o_if (fun a => a = 0) 37 18),
  (18, o_aload 0 19),
  (19, o_getf 11 3 22),
  (22, o_iload 3 23),
  (23, o_callv S2_isPlace 2 1 false 26),
  (26, o_if (fun a => a = 0) 37 29),
  (29, o_iload 4 31),
  (31, o_call S11_isPart 1 false 34),
  (34, o_if (fun a => ¬ a = 0) 43 37),
  (37, o_push (aI (-2)) 39),
  (39, o_call S11_refused 1 false 42),
  (42, o_lret),
  (43, o_aload 0 44),
  (44, o_iload 1 45),
  (45, o_iload 2 46),
  (46, o_callv S11_loseFrom 11 2 true 49),
  (49, o_aload 0 50),
  (50, o_getf 11 9 53),
  (53, o_iload 3 54),
  (54, o_callv S5_chanceOf 5 1 false 57),
  (57, o_aload 0 58),
  (58, o_getf 11 9 61),
  (61, o_getf 5 4 64),
  (64, o_iload 4 66),
  (66, o_call S11_lowest 3 false 69),
  (69, o_lret)]
def S11_is : am_E := am_S K11_is 5
theorem hdd_11_is : yX11_is.cls ≠ "java/lang/invoke/MethodHandle" ∧ yX11_is.cls ≠ "java/lang/invoke/VarHandle" ∧ (parseMethodDescriptor yX11_is.desc).map (fun d => d.parameters.length) = some 4 := by decide +kernel
set_option maxRecDepth 100000 in
theorem snd_11_is : am_Sound yX11_is cX11_is 5 (some .long) 4 93 S11_is :=
  am_sound_of (own := RX11) (by decide) rfl <|
    fm_c (si_aloadn dX11_is_0 rfl) <|
    fm_c (si_getf (C := RX11) (T := TX11) (N := 17) dX11_is_1 rfl inC_11 rfl tw_328) <|
    fm_c (si_iloadn dX11_is_4 rfl) <|
    fm_c (si_callv (C := RX2) (T := TX2) (N := 3) snd_2_isPlace rfl dX11_is_5 tw_513 tw_414 tw_415 tw_67 tw_416 hdd_2_isPlace ⟨rfl, rfl⟩) <|
    fm_c (si_if_eq dX11_is_8 rfl) <|
    fm_c (si_iloadn dX11_is_11 rfl) <|
    fm_c (si_call snd_11_areMinutes dX11_is_12 tw_727 tw_728 tw_65 tw_729 hdd_11_areMinutes ⟨rfl, rfl⟩) <|
    fm_c (si_if_eq dX11_is_15 rfl) <|
    fm_c (si_aloadn dX11_is_18 rfl) <|
    fm_c (si_getf (C := RX11) (T := TX11) (N := 17) dX11_is_19 rfl inC_11 rfl tw_328) <|
    fm_c (si_iloadn dX11_is_22 rfl) <|
    fm_c (si_callv (C := RX2) (T := TX2) (N := 3) snd_2_isPlace rfl dX11_is_23 tw_513 tw_414 tw_415 tw_67 tw_416 hdd_2_isPlace ⟨rfl, rfl⟩) <|
    fm_c (si_if_eq dX11_is_26 rfl) <|
    fm_c (si_iload dX11_is_29) <|
    fm_c (si_call snd_11_isPart dX11_is_31 tw_670 tw_671 tw_65 tw_672 hdd_11_isPart ⟨rfl, rfl⟩) <|
    fm_c (si_if_ne dX11_is_34 rfl) <|
    fm_c (si_bipush dX11_is_37 rfl) <|
    fm_c (si_call snd_11_refused dX11_is_39 tw_673 tw_674 tw_65 tw_675 hdd_11_refused ⟨rfl, rfl⟩) <|
    fm_c (si_lret rfl dX11_is_42) <|
    fm_c (si_aloadn dX11_is_43 rfl) <|
    fm_c (si_iloadn dX11_is_44 rfl) <|
    fm_c (si_iloadn dX11_is_45 rfl) <|
    fm_c (si_callv (C := RX11) (T := TX11) (N := 17) snd_11_loseFrom rfl dX11_is_46 tw_730 tw_732 tw_17 tw_65 tw_733 hdd_11_loseFrom ⟨rfl, rfl⟩) <|
    fm_c (si_aloadn dX11_is_49 rfl) <|
    fm_c (si_getf (C := RX11) (T := TX11) (N := 17) dX11_is_50 rfl inC_11 rfl tw_334) <|
    fm_c (si_iloadn dX11_is_53 rfl) <|
    fm_c (si_callv (C := RX5) (T := TX5) (N := 5) snd_5_chanceOf rfl dX11_is_54 tw_765 tw_766 tw_767 tw_74 tw_768 hdd_5_chanceOf ⟨rfl, rfl⟩) <|
    fm_c (si_aloadn dX11_is_57 rfl) <|
    fm_c (si_getf (C := RX11) (T := TX11) (N := 17) dX11_is_58 rfl inC_11 rfl tw_334) <|
    fm_c (si_getf (C := RX5) (T := TX5) (N := 5) dX11_is_61 rfl inC_5 rfl tw_259) <|
    fm_c (si_iload dX11_is_64) <|
    fm_c (si_call snd_11_lowest dX11_is_66 tw_679 tw_680 tw_65 tw_681 hdd_11_lowest ⟨rfl, rfl⟩) <|
    fm_c (si_lret rfl dX11_is_69) <|
    fun _ h => absurd h List.not_mem_nil
def K11_likeliest : List (Nat × am_O) := [(0, o_aload 0 1),
  (1, o_getf 11 3 4),
  (4, o_iload 1 5),
  (5, o_callv S2_isPlace 2 1 false 8),
  (8, o_if (fun a => a = 0) 18 11),
  (11, o_iload 2 12),
  (12, o_call S11_areMinutes 1 false 15),
  (15, o_if (fun a => ¬ a = 0) 21 18),
  (18, o_push (aI (-2)) 20),
  (20, o_iret),
  (21, o_aload 0 22),
  (22, o_iload 1 23),
  (23, o_iload 2 24),
  (24, o_callv S11_loseFrom 11 2 true 27),
  (27, o_aload 0 28),
  (28, o_getf 11 9 31),
  (31, o_callv S5_likeliestPlace 5 0 false 34),
  (34, o_iret)]
def S11_likeliest : am_E := am_S K11_likeliest 3
theorem hdd_11_likeliest : yX11_likeliest.cls ≠ "java/lang/invoke/MethodHandle" ∧ yX11_likeliest.cls ≠ "java/lang/invoke/VarHandle" ∧ (parseMethodDescriptor yX11_likeliest.desc).map (fun d => d.parameters.length) = some 2 := by decide +kernel
set_option maxRecDepth 100000 in
theorem snd_11_likeliest : am_Sound yX11_likeliest cX11_likeliest 3 (some .int) 4 93 S11_likeliest :=
  am_sound_of (own := RX11) (by decide) rfl <|
    fm_c (si_aloadn dX11_likeliest_0 rfl) <|
    fm_c (si_getf (C := RX11) (T := TX11) (N := 17) dX11_likeliest_1 rfl inC_11 rfl tw_328) <|
    fm_c (si_iloadn dX11_likeliest_4 rfl) <|
    fm_c (si_callv (C := RX2) (T := TX2) (N := 3) snd_2_isPlace rfl dX11_likeliest_5 tw_513 tw_414 tw_415 tw_67 tw_416 hdd_2_isPlace ⟨rfl, rfl⟩) <|
    fm_c (si_if_eq dX11_likeliest_8 rfl) <|
    fm_c (si_iloadn dX11_likeliest_11 rfl) <|
    fm_c (si_call snd_11_areMinutes dX11_likeliest_12 tw_727 tw_728 tw_65 tw_729 hdd_11_areMinutes ⟨rfl, rfl⟩) <|
    fm_c (si_if_ne dX11_likeliest_15 rfl) <|
    fm_c (si_bipush dX11_likeliest_18 rfl) <|
    fm_c (si_iret rfl dX11_likeliest_20) <|
    fm_c (si_aloadn dX11_likeliest_21 rfl) <|
    fm_c (si_iloadn dX11_likeliest_22 rfl) <|
    fm_c (si_iloadn dX11_likeliest_23 rfl) <|
    fm_c (si_callv (C := RX11) (T := TX11) (N := 17) snd_11_loseFrom rfl dX11_likeliest_24 tw_730 tw_732 tw_17 tw_65 tw_733 hdd_11_loseFrom ⟨rfl, rfl⟩) <|
    fm_c (si_aloadn dX11_likeliest_27 rfl) <|
    fm_c (si_getf (C := RX11) (T := TX11) (N := 17) dX11_likeliest_28 rfl inC_11 rfl tw_334) <|
    fm_c (si_callv (C := RX5) (T := TX5) (N := 5) snd_5_likeliestPlace rfl dX11_likeliest_31 tw_773 tw_760 tw_761 tw_74 tw_762 hdd_5_likeliestPlace ⟨rfl, rfl⟩) <|
    fm_c (si_iret rfl dX11_likeliest_34) <|
    fun _ h => absurd h List.not_mem_nil
def K11_withTearing : List (Nat × am_O) := [(0, o_lload 1 1),
  (1, o_lstore 3 2),
  (2, o_push (aI 0) 3),
  (3, o_istore 5 5),
  (5, o_iload 5 7),
  (7, o_push (aI 3) 8),
  (8, o_ic (fun a b => b < a) 33 11),
  (11, o_push (aL 31) 14),
  (14, o_lload 3 15),
  (15, o_binL (fun a b => w64 (a * b)) 16),
  (16, o_aload 0 17),
  (17, o_push (aI 7) 19),
  (19, o_iload 5 21),
  (21, o_callv S11_torn 11 2 false 24),
  (24, o_i2l 25),
  (25, o_binL (fun a b => w64 (a + b)) 26),
  (26, o_lstore 3 27),
  (27, o_iinc 5 1 30),
  (30, o_goto 5),
  (33, o_push (aL 31) 36),
  (36, o_lload 3 37),
  (37, o_binL (fun a b => w64 (a * b)) 38),
  (38, o_aload 0 39),
  (39, o_push (aI 7) 41),
  (41, o_push (aI 9) 43),
  (43, o_callv S11_fairs 11 2 false 46),
  (46, o_i2l 47),
  (47, o_binL (fun a b => w64 (a + b)) 48),
  (48, o_lstore 3 49),
  (49, o_push (aL 31) 52),
  (52, o_lload 3 53),
  (53, o_binL (fun a b => w64 (a * b)) 54),
  (54, o_aload 0 55),
  (55, o_push (aI 0) 56),
  (56, o_push (aI 3) 57),
  (57, o_push (aI 1) 58),
  (58, o_push (aI 0) 59),
  (59, o_callv S11_is 11 4 false 62),
  (62, o_binL (fun a b => w64 (a + b)) 63),
  (63, o_lstore 3 64),
  (64, o_push (aL 31) 67),
  (67, o_lload 3 68),
  (68, o_binL (fun a b => w64 (a * b)) 69),
  (69, o_aload 0 70),
  (70, o_push (aI 0) 71),
  (71, o_push (aI 3) 72),
  (72, o_push (aI 1) 73),
  (73, o_push (aI 1) 74),
  (74, o_callv S11_is 11 4 false 77),
  (77, o_binL (fun a b => w64 (a + b)) 78),
  (78, o_lstore 3 79),
  (79, o_push (aL 31) 82),
  (82, o_lload 3 83),
  (83, o_binL (fun a b => w64 (a * b)) 84),
  (84, o_aload 0 85),
  (85, o_push (aI 0) 86),
  (86, o_push (aI 4) 87),
  (87, o_callv S11_likeliest 11 2 false 90),
  (90, o_i2l 91),
  (91, o_binL (fun a b => w64 (a + b)) 92),
  (92, o_lret)]
def S11_withTearing : am_E := am_S K11_withTearing 6
theorem hdd_11_withTearing : yX11_withTearing.cls ≠ "java/lang/invoke/MethodHandle" ∧ yX11_withTearing.cls ≠ "java/lang/invoke/VarHandle" ∧ (parseMethodDescriptor yX11_withTearing.desc).map (fun d => d.parameters.length) = some 1 := by decide +kernel
set_option maxRecDepth 100000 in
theorem snd_11_withTearing : am_Sound yX11_withTearing cX11_withTearing 6 (some .long) 5 117 S11_withTearing :=
  am_sound_of (own := RX11) (by decide) rfl <|
    fm_c (si_lloadn dX11_withTearing_0 rfl) <|
    fm_c (si_lstoren dX11_withTearing_1 rfl rfl) <|
    fm_c (si_iconst dX11_withTearing_2 rfl) <|
    fm_c (si_istore dX11_withTearing_3 rfl) <|
    fm_c (si_iload dX11_withTearing_5) <|
    fm_c (si_iconst dX11_withTearing_7 rfl) <|
    fm_c (si_ic_gt dX11_withTearing_8 rfl) <|
    fm_c (si_ldc2 dX11_withTearing_11 tw_914 rfl) <|
    fm_c (si_lloadn dX11_withTearing_14 rfl) <|
    fm_c (si_lmul dX11_withTearing_15) <|
    fm_c (si_aloadn dX11_withTearing_16 rfl) <|
    fm_c (si_bipush dX11_withTearing_17 rfl) <|
    fm_c (si_iload dX11_withTearing_19) <|
    fm_c (si_callv (C := RX11) (T := TX11) (N := 17) snd_11_torn rfl dX11_withTearing_21 tw_940 tw_692 tw_693 tw_65 tw_694 hdd_11_torn ⟨rfl, rfl⟩) <|
    fm_c (si_i2l dX11_withTearing_24) <|
    fm_c (si_ladd dX11_withTearing_25) <|
    fm_c (si_lstoren dX11_withTearing_26 rfl rfl) <|
    fm_c (si_iinc dX11_withTearing_27 rfl rfl) <|
    fm_c (si_goto dX11_withTearing_30 rfl) <|
    fm_c (si_ldc2 dX11_withTearing_33 tw_914 rfl) <|
    fm_c (si_lloadn dX11_withTearing_36 rfl) <|
    fm_c (si_lmul dX11_withTearing_37) <|
    fm_c (si_aloadn dX11_withTearing_38 rfl) <|
    fm_c (si_bipush dX11_withTearing_39 rfl) <|
    fm_c (si_bipush dX11_withTearing_41 rfl) <|
    fm_c (si_callv (C := RX11) (T := TX11) (N := 17) snd_11_fairs rfl dX11_withTearing_43 tw_941 tw_720 tw_721 tw_65 tw_722 hdd_11_fairs ⟨rfl, rfl⟩) <|
    fm_c (si_i2l dX11_withTearing_46) <|
    fm_c (si_ladd dX11_withTearing_47) <|
    fm_c (si_lstoren dX11_withTearing_48 rfl rfl) <|
    fm_c (si_ldc2 dX11_withTearing_49 tw_914 rfl) <|
    fm_c (si_lloadn dX11_withTearing_52 rfl) <|
    fm_c (si_lmul dX11_withTearing_53) <|
    fm_c (si_aloadn dX11_withTearing_54 rfl) <|
    fm_c (si_iconst dX11_withTearing_55 rfl) <|
    fm_c (si_iconst dX11_withTearing_56 rfl) <|
    fm_c (si_iconst dX11_withTearing_57 rfl) <|
    fm_c (si_iconst dX11_withTearing_58 rfl) <|
    fm_c (si_callv (C := RX11) (T := TX11) (N := 17) snd_11_is rfl dX11_withTearing_59 tw_942 tw_724 tw_725 tw_65 tw_726 hdd_11_is ⟨rfl, rfl⟩) <|
    fm_c (si_ladd dX11_withTearing_62) <|
    fm_c (si_lstoren dX11_withTearing_63 rfl rfl) <|
    fm_c (si_ldc2 dX11_withTearing_64 tw_914 rfl) <|
    fm_c (si_lloadn dX11_withTearing_67 rfl) <|
    fm_c (si_lmul dX11_withTearing_68) <|
    fm_c (si_aloadn dX11_withTearing_69 rfl) <|
    fm_c (si_iconst dX11_withTearing_70 rfl) <|
    fm_c (si_iconst dX11_withTearing_71 rfl) <|
    fm_c (si_iconst dX11_withTearing_72 rfl) <|
    fm_c (si_iconst dX11_withTearing_73 rfl) <|
    fm_c (si_callv (C := RX11) (T := TX11) (N := 17) snd_11_is rfl dX11_withTearing_74 tw_942 tw_724 tw_725 tw_65 tw_726 hdd_11_is ⟨rfl, rfl⟩) <|
    fm_c (si_ladd dX11_withTearing_77) <|
    fm_c (si_lstoren dX11_withTearing_78 rfl rfl) <|
    fm_c (si_ldc2 dX11_withTearing_79 tw_914 rfl) <|
    fm_c (si_lloadn dX11_withTearing_82 rfl) <|
    fm_c (si_lmul dX11_withTearing_83) <|
    fm_c (si_aloadn dX11_withTearing_84 rfl) <|
    fm_c (si_iconst dX11_withTearing_85 rfl) <|
    fm_c (si_iconst dX11_withTearing_86 rfl) <|
    fm_c (si_callv (C := RX11) (T := TX11) (N := 17) snd_11_likeliest rfl dX11_withTearing_87 tw_943 tw_770 tw_771 tw_65 tw_772 hdd_11_likeliest ⟨rfl, rfl⟩) <|
    fm_c (si_i2l dX11_withTearing_90) <|
    fm_c (si_ladd dX11_withTearing_91) <|
    fm_c (si_lret rfl dX11_withTearing_92) <|
    fun _ h => absurd h List.not_mem_nil
def K6_leastParted : List (Nat × am_O) := [(0, o_aload 0 1),
  (1, o_push (aI 5) 2),
  (2, o_iload 1 3),
  (3, o_callv S6_leastFrom 6 2 false 6),
  (6, o_aload 0 7),
  (7, o_push (aI 6) 9),
  (9, o_iload 2 10),
  (10, o_iload 1 11),
  (11, o_push (aI (-1)) 12),
  (12, o_bin am_xor 13),
  (13, o_bin am_and 14),
  (14, o_callv S6_leastFrom 6 2 false 17),
  (17, o_bin (fun a b => w32 (a + b)) 18),
  (18, o_iret)]
def S6_leastParted : am_E := am_S K6_leastParted 3
theorem hdd_6_leastParted : yX6_leastParted.cls ≠ "java/lang/invoke/MethodHandle" ∧ yX6_leastParted.cls ≠ "java/lang/invoke/VarHandle" ∧ (parseMethodDescriptor yX6_leastParted.desc).map (fun d => d.parameters.length) = some 2 := by decide +kernel
set_option maxRecDepth 100000 in
theorem snd_6_leastParted : am_Sound yX6_leastParted cX6_leastParted 3 (some .int) 1 23 S6_leastParted :=
  am_sound_of (own := RX6) (by decide) rfl <|
    fm_c (si_aloadn dX6_leastParted_0 rfl) <|
    fm_c (si_iconst dX6_leastParted_1 rfl) <|
    fm_c (si_iloadn dX6_leastParted_2 rfl) <|
    fm_c (si_callv (C := RX6) (T := TX6) (N := 3) snd_6_leastFrom rfl dX6_leastParted_3 tw_656 tw_657 tw_658 tw_76 tw_659 hdd_6_leastFrom ⟨rfl, rfl⟩) <|
    fm_c (si_aloadn dX6_leastParted_6 rfl) <|
    fm_c (si_bipush dX6_leastParted_7 rfl) <|
    fm_c (si_iloadn dX6_leastParted_9 rfl) <|
    fm_c (si_iloadn dX6_leastParted_10 rfl) <|
    fm_c (si_iconst dX6_leastParted_11 rfl) <|
    fm_c (si_ixor dX6_leastParted_12) <|
    fm_c (si_iand dX6_leastParted_13) <|
    fm_c (si_callv (C := RX6) (T := TX6) (N := 3) snd_6_leastFrom rfl dX6_leastParted_14 tw_656 tw_657 tw_658 tw_76 tw_659 hdd_6_leastFrom ⟨rfl, rfl⟩) <|
    fm_c (si_iadd dX6_leastParted_17) <|
    fm_c (si_iret rfl dX6_leastParted_18) <|
    fun _ h => absurd h List.not_mem_nil
def K6_bestShare : List (Nat × am_O) := [(0, o_push (aI 0) 1),
  (1, o_istore 2 2),
  (2, o_push (aI 1) 3),
  (3, o_istore 3 4),
  (4, o_iload 3 5),
  (5, o_push (aI 32) 7),
  (7, o_ic (fun a b => b ≤ a) 53 10),
  (10, o_iload 3 11),
  (11, o_iload 1 12),
  (12, o_push (aI (-1)) 13),
  (13, o_bin am_xor 14),
  (14, o_bin am_and 15),
  (15, o_if (fun a => ¬ a = 0) 22 18),
  (18, o_push (aI 1) 19),
  (19, o_goto 23),
  (22, o_push (aI 0) 23),
  (23, o_istore 4 25),
  (25, o_iload 4 27),
  (27, o_if (fun a => a = 0) 47 30),
  (30, o_aload 0 31),
  (31, o_iload 3 32),
  (32, o_iload 1 33),
  (33, o_callv S6_leastParted 6 2 false 36),
  (36, o_aload 0 37),
  (37, o_iload 2 38),
  (38, o_iload 1 39),
  (39, o_callv S6_leastParted 6 2 false 42),
  (42, o_ic (fun a b => b ≤ a) 47 45),
  (45, o_iload 3 46),
  (46, o_istore 2 47),
  (47, o_iinc 3 1 50),
  (50, o_goto 4),
  (53, o_iload 2 54),
  (54, o_iret)]
def S6_bestShare : am_E := am_S K6_bestShare 5
theorem hdd_6_bestShare : yX6_bestShare.cls ≠ "java/lang/invoke/MethodHandle" ∧ yX6_bestShare.cls ≠ "java/lang/invoke/VarHandle" ∧ (parseMethodDescriptor yX6_bestShare.desc).map (fun d => d.parameters.length) = some 1 := by decide +kernel
set_option maxRecDepth 100000 in
theorem snd_6_bestShare : am_Sound yX6_bestShare cX6_bestShare 5 (some .int) 2 45 S6_bestShare :=
  am_sound_of (own := RX6) (by decide) rfl <|
    fm_c (si_iconst dX6_bestShare_0 rfl) <|
    fm_c (si_istoren dX6_bestShare_1 rfl rfl) <|
    fm_c (si_iconst dX6_bestShare_2 rfl) <|
    fm_c (si_istoren dX6_bestShare_3 rfl rfl) <|
    fm_c (si_iloadn dX6_bestShare_4 rfl) <|
    fm_c (si_bipush dX6_bestShare_5 rfl) <|
    fm_c (si_ic_ge dX6_bestShare_7 rfl) <|
    fm_c (si_iloadn dX6_bestShare_10 rfl) <|
    fm_c (si_iloadn dX6_bestShare_11 rfl) <|
    fm_c (si_iconst dX6_bestShare_12 rfl) <|
    fm_c (si_ixor dX6_bestShare_13) <|
    fm_c (si_iand dX6_bestShare_14) <|
    fm_c (si_if_ne dX6_bestShare_15 rfl) <|
    fm_c (si_iconst dX6_bestShare_18 rfl) <|
    fm_c (si_goto dX6_bestShare_19 rfl) <|
    fm_c (si_iconst dX6_bestShare_22 rfl) <|
    fm_c (si_istore dX6_bestShare_23 rfl) <|
    fm_c (si_iload dX6_bestShare_25) <|
    fm_c (si_if_eq dX6_bestShare_27 rfl) <|
    fm_c (si_aloadn dX6_bestShare_30 rfl) <|
    fm_c (si_iloadn dX6_bestShare_31 rfl) <|
    fm_c (si_iloadn dX6_bestShare_32 rfl) <|
    fm_c (si_callv (C := RX6) (T := TX6) (N := 3) snd_6_leastParted rfl dX6_bestShare_33 tw_828 tw_829 tw_830 tw_76 tw_831 hdd_6_leastParted ⟨rfl, rfl⟩) <|
    fm_c (si_aloadn dX6_bestShare_36 rfl) <|
    fm_c (si_iloadn dX6_bestShare_37 rfl) <|
    fm_c (si_iloadn dX6_bestShare_38 rfl) <|
    fm_c (si_callv (C := RX6) (T := TX6) (N := 3) snd_6_leastParted rfl dX6_bestShare_39 tw_828 tw_829 tw_830 tw_76 tw_831 hdd_6_leastParted ⟨rfl, rfl⟩) <|
    fm_c (si_ic_ge dX6_bestShare_42 rfl) <|
    fm_c (si_iloadn dX6_bestShare_45 rfl) <|
    fm_c (si_istoren dX6_bestShare_46 rfl rfl) <|
    fm_c (si_iinc dX6_bestShare_47 rfl rfl) <|
    fm_c (si_goto dX6_bestShare_50 rfl) <|
    fm_c (si_iloadn dX6_bestShare_53 rfl) <|
    fm_c (si_iret rfl dX6_bestShare_54) <|
    fun _ h => absurd h List.not_mem_nil
def K11_parted : List (Nat × am_O) := [(0, o_iload 1 1),
  (1, o_call S3_isPerson 1 false 4),
  (4, o_if (fun a => a = 0) 28 7),
  (7, o_iload 2 8),
  (8, o_call S3_isPerson 1 false 11),
  (11, o_if (fun a => a = 0) 28 14),
  (14, o_iload 1 15),
  (15, o_iload 2 16),
  (16, o_ic (fun a b => a = b) 28 19),
  (19, o_iload 3 20),
  (20, o_if (fun a => a < 0) 28 23),
  (23, o_iload 3 24),
  (24, o_push (aI 2) 25),
  (25, o_ic (fun a b => a ≤ b) 34 28),
  (28, o_push (aI (-2)) 30),
  (30, o_call S11_refused 1 false 33),
  (33, o_lret),
  (34, o_aload 0 35),
  (35, o_iload 1 36),
  (36, o_iload 2 37),
  (37, o_callv S11_canSeek 11 2 false 40),
  (40, o_if (fun a => ¬ a = 0) 49 43),
  (43, o_push (aI (-3)) 45),
  (45, o_call S11_refused 1 false 48),
  (48, o_lret),
  (49, o_aload 0 50),
  (50, o_getf 11 10 53),
  (53, o_callv S4_asBits 4 0 false 56),
  (56, o_istore 4 58),
  (58, o_aload 0 59),
  (59, o_getf 11 11 62),
  (62, o_iload 4 64),
  (64, o_callv S6_solve 6 1 true 67),
  (67, o_aload 0 68),
  (68, o_getf 11 11 71),
  (71, o_iload 4 73),
  (73, o_callv S6_bestShare 6 1 false 76),
  (76, o_istore 5 78),
  (78, o_iload 3 79),
  (79, o_push (aI 2) 80),
  (80, o_ic (fun a b => ¬ a = b) 89 83),
  (83, o_iload 5 85),
  (85, o_i2l 86),
  (86, o_goto 115),
  (89, o_aload 0 90),
  (90, o_getf 11 11 93),
  (93, o_iload 5 95),
  (95, o_iload 4 97),
  (97, o_callv S6_leastParted 6 2 false 100),
  (100, o_i2l 101),
  (101, o_aload 0 102),
  (102, o_getf 11 10 105),
  (105, o_iload 4 107),
  (107, o_callv S4_weightOf 4 1 false 110),
  (110, o_i2l 111),
  (111, o_iload 3 112),
  (112, o_call S11_lowest 3 false 115),
  (115, o_lret)]
def S11_parted : am_E := am_S K11_parted 6
theorem hdd_11_parted : yX11_parted.cls ≠ "java/lang/invoke/MethodHandle" ∧ yX11_parted.cls ≠ "java/lang/invoke/VarHandle" ∧ (parseMethodDescriptor yX11_parted.desc).map (fun d => d.parameters.length) = some 3 := by decide +kernel
set_option maxRecDepth 100000 in
theorem snd_11_parted : am_Sound yX11_parted cX11_parted 6 (some .long) 4 97 S11_parted :=
  am_sound_of (own := RX11) (by decide) rfl <|
    fm_c (si_iloadn dX11_parted_0 rfl) <|
    fm_c (si_call snd_3_isPerson dX11_parted_1 tw_465 tw_435 tw_71 tw_436 hdd_3_isPerson ⟨rfl, rfl⟩) <|
    fm_c (si_if_eq dX11_parted_4 rfl) <|
    fm_c (si_iloadn dX11_parted_7 rfl) <|
    fm_c (si_call snd_3_isPerson dX11_parted_8 tw_465 tw_435 tw_71 tw_436 hdd_3_isPerson ⟨rfl, rfl⟩) <|
    fm_c (si_if_eq dX11_parted_11 rfl) <|
    fm_c (si_iloadn dX11_parted_14 rfl) <|
    fm_c (si_iloadn dX11_parted_15 rfl) <|
    fm_c (si_ic_eq dX11_parted_16 rfl) <|
    fm_c (si_iloadn dX11_parted_19 rfl) <|
    fm_c (si_if_lt dX11_parted_20 rfl) <|
    fm_c (si_iloadn dX11_parted_23 rfl) <|
    fm_c (si_iconst dX11_parted_24 rfl) <|
    fm_c (si_ic_le dX11_parted_25 rfl) <|
    fm_c (si_bipush dX11_parted_28 rfl) <|
    fm_c (si_call snd_11_refused dX11_parted_30 tw_673 tw_674 tw_65 tw_675 hdd_11_refused ⟨rfl, rfl⟩) <|
    fm_c (si_lret rfl dX11_parted_33) <|
    fm_c (si_aloadn dX11_parted_34 rfl) <|
    fm_c (si_iloadn dX11_parted_35 rfl) <|
    fm_c (si_iloadn dX11_parted_36 rfl) <|
    fm_c (si_callv (C := RX11) (T := TX11) (N := 17) snd_11_canSeek rfl dX11_parted_37 tw_790 tw_792 tw_19 tw_65 tw_793 hdd_11_canSeek ⟨rfl, rfl⟩) <|
    fm_c (si_if_ne dX11_parted_40 rfl) <|
    fm_c (si_bipush dX11_parted_43 rfl) <|
    fm_c (si_call snd_11_refused dX11_parted_45 tw_673 tw_674 tw_65 tw_675 hdd_11_refused ⟨rfl, rfl⟩) <|
    fm_c (si_lret rfl dX11_parted_48) <|
    fm_c (si_aloadn dX11_parted_49 rfl) <|
    fm_c (si_getf (C := RX11) (T := TX11) (N := 17) dX11_parted_50 rfl inC_11 rfl tw_335) <|
    fm_c (si_callv (C := RX4) (T := TX4) (N := 3) snd_4_asBits rfl dX11_parted_53 tw_815 tw_816 tw_817 tw_75 tw_818 hdd_4_asBits ⟨rfl, rfl⟩) <|
    fm_c (si_istore dX11_parted_56 rfl) <|
    fm_c (si_aloadn dX11_parted_58 rfl) <|
    fm_c (si_getf (C := RX11) (T := TX11) (N := 17) dX11_parted_59 rfl inC_11 rfl tw_336) <|
    fm_c (si_iload dX11_parted_62) <|
    fm_c (si_callv (C := RX6) (T := TX6) (N := 3) snd_6_solve rfl dX11_parted_64 tw_644 tw_645 tw_646 tw_76 tw_647 hdd_6_solve ⟨rfl, rfl⟩) <|
    fm_c (si_aloadn dX11_parted_67 rfl) <|
    fm_c (si_getf (C := RX11) (T := TX11) (N := 17) dX11_parted_68 rfl inC_11 rfl tw_336) <|
    fm_c (si_iload dX11_parted_71) <|
    fm_c (si_callv (C := RX6) (T := TX6) (N := 3) snd_6_bestShare rfl dX11_parted_73 tw_824 tw_825 tw_826 tw_76 tw_827 hdd_6_bestShare ⟨rfl, rfl⟩) <|
    fm_c (si_istore dX11_parted_76 rfl) <|
    fm_c (si_iloadn dX11_parted_78 rfl) <|
    fm_c (si_iconst dX11_parted_79 rfl) <|
    fm_c (si_ic_ne dX11_parted_80 rfl) <|
    fm_c (si_iload dX11_parted_83) <|
    fm_c (si_i2l dX11_parted_85) <|
    fm_c (si_goto dX11_parted_86 rfl) <|
    fm_c (si_aloadn dX11_parted_89 rfl) <|
    fm_c (si_getf (C := RX11) (T := TX11) (N := 17) dX11_parted_90 rfl inC_11 rfl tw_336) <|
    fm_c (si_iload dX11_parted_93) <|
    fm_c (si_iload dX11_parted_95) <|
    fm_c (si_callv (C := RX6) (T := TX6) (N := 3) snd_6_leastParted rfl dX11_parted_97 tw_832 tw_829 tw_830 tw_76 tw_831 hdd_6_leastParted ⟨rfl, rfl⟩) <|
    fm_c (si_i2l dX11_parted_100) <|
    fm_c (si_aloadn dX11_parted_101 rfl) <|
    fm_c (si_getf (C := RX11) (T := TX11) (N := 17) dX11_parted_102 rfl inC_11 rfl tw_335) <|
    fm_c (si_iload dX11_parted_105) <|
    fm_c (si_callv (C := RX4) (T := TX4) (N := 3) snd_4_weightOf rfl dX11_parted_107 tw_819 tw_799 tw_800 tw_75 tw_801 hdd_4_weightOf ⟨rfl, rfl⟩) <|
    fm_c (si_i2l dX11_parted_110) <|
    fm_c (si_iloadn dX11_parted_111 rfl) <|
    fm_c (si_call snd_11_lowest dX11_parted_112 tw_679 tw_680 tw_65 tw_681 hdd_11_lowest ⟨rfl, rfl⟩) <|
    fm_c (si_lret rfl dX11_parted_115) <|
    fun _ h => absurd h List.not_mem_nil
def K11_leastFar : List (Nat × am_O) := [(0, o_push (aI (-1)) 1),
  (1, o_istore 1 2),
  (2, o_push (aI 0) 3),
  (3, o_istore 2 4),
  (4, o_iload 2 5),
  (5, o_push (aI 64) 7),
  (7, o_ic (fun a b => b ≤ a) 48 10),
  (10, o_aload 0 11),
  (11, o_getf 11 13 14),
  (14, o_iload 2 15),
  (15, o_iald 16),
  (16, o_push (aI (-1)) 17),
  (17, o_ic (fun a b => a = b) 42 20),
  (20, o_iload 1 21),
  (21, o_push (aI (-1)) 22),
  (22, o_ic (fun a b => a = b) 40 25),
  (25, o_aload 0 26),
  (26, o_getf 11 13 29),
  (29, o_iload 2 30),
  (30, o_iald 31),
  (31, o_aload 0 32),
  (32, o_getf 11 13 35),
  (35, o_iload 1 36),
  (36, o_iald 37),
  (37, o_ic (fun a b => b ≤ a) 42 40),
  (40, o_iload 2 41),
  (41, o_istore 1 42),
  (42, o_iinc 2 1 45),
  (45, o_goto 4),
  (48, o_iload 1 49),
  (49, o_iret)]
def S11_leastFar : am_E := am_S K11_leastFar 3
theorem hdd_11_leastFar : yX11_leastFar.cls ≠ "java/lang/invoke/MethodHandle" ∧ yX11_leastFar.cls ≠ "java/lang/invoke/VarHandle" ∧ (parseMethodDescriptor yX11_leastFar.desc).map (fun d => d.parameters.length) = some 0 := by decide +kernel
set_option maxRecDepth 100000 in
theorem snd_11_leastFar : am_Sound yX11_leastFar cX11_leastFar 3 (some .int) 0 0 S11_leastFar :=
  am_sound_of (own := RX11) (by decide) rfl <|
    fm_c (si_iconst dX11_leastFar_0 rfl) <|
    fm_c (si_istoren dX11_leastFar_1 rfl rfl) <|
    fm_c (si_iconst dX11_leastFar_2 rfl) <|
    fm_c (si_istoren dX11_leastFar_3 rfl rfl) <|
    fm_c (si_iloadn dX11_leastFar_4 rfl) <|
    fm_c (si_bipush dX11_leastFar_5 rfl) <|
    fm_c (si_ic_ge dX11_leastFar_7 rfl) <|
    fm_c (si_aloadn dX11_leastFar_10 rfl) <|
    fm_c (si_getf (C := RX11) (T := TX11) (N := 17) dX11_leastFar_11 rfl inC_11 rfl tw_338) <|
    fm_c (si_iloadn dX11_leastFar_14 rfl) <|
    fm_c (si_iald dX11_leastFar_15) <|
    fm_c (si_iconst dX11_leastFar_16 rfl) <|
    fm_c (si_ic_eq dX11_leastFar_17 rfl) <|
    fm_c (si_iloadn dX11_leastFar_20 rfl) <|
    fm_c (si_iconst dX11_leastFar_21 rfl) <|
    fm_c (si_ic_eq dX11_leastFar_22 rfl) <|
    fm_c (si_aloadn dX11_leastFar_25 rfl) <|
    fm_c (si_getf (C := RX11) (T := TX11) (N := 17) dX11_leastFar_26 rfl inC_11 rfl tw_338) <|
    fm_c (si_iloadn dX11_leastFar_29 rfl) <|
    fm_c (si_iald dX11_leastFar_30) <|
    fm_c (si_aloadn dX11_leastFar_31 rfl) <|
    fm_c (si_getf (C := RX11) (T := TX11) (N := 17) dX11_leastFar_32 rfl inC_11 rfl tw_338) <|
    fm_c (si_iloadn dX11_leastFar_35 rfl) <|
    fm_c (si_iald dX11_leastFar_36) <|
    fm_c (si_ic_ge dX11_leastFar_37 rfl) <|
    fm_c (si_iloadn dX11_leastFar_40 rfl) <|
    fm_c (si_istoren dX11_leastFar_41 rfl rfl) <|
    fm_c (si_iinc dX11_leastFar_42 rfl rfl) <|
    fm_c (si_goto dX11_leastFar_45 rfl) <|
    fm_c (si_iloadn dX11_leastFar_48 rfl) <|
    fm_c (si_iret rfl dX11_leastFar_49) <|
    fun _ h => absurd h List.not_mem_nil
def K11_meet : List (Nat × am_O) := [(0, o_iload 1 1),
  (1, o_push (aI 1) 2),
  (2, o_ic (fun a b => a < b) 18 5),
  (5, o_iload 1 6),
  (6, o_push (aI 31) 8),
  (8, o_ic (fun a b => b < a) 18 11),
  (11, o_iload 2 12),
  (12, o_call S11_isPart 1 false 15),
  (15, o_if (fun a => ¬ a = 0) 21 18),
  (18, o_push (aI (-2)) 20),
  (20, o_iret),
  (21, o_aload 0 22),
  (22, o_getf 11 13 25),
  (25, o_push (aI 0) 26),
  (26, o_call SJ_fillI 2 true 29),
  (29, o_push (aI 0) 30),
  (30, o_istore 3 31),
  (31, o_iload 3 32),
  (32, o_push (aI 5) 33),
  (33, o_ic (fun a b => b ≤ a) 62 36),
  (36, o_iload 1 37),
  (37, o_iload 3 38),
  (38, o_sh am_shr 39),
  (39, o_push (aI 1) 40),
  (40, o_bin am_and 41),
  (41, o_if (fun a => a = 0) 56 44),
  (44, o_aload 0 45),
  (45, o_aload 0 46),
  (46, o_getf 11 6 49),
  (49, o_iload 3 50),
  (50, o_callv S3_standOf 3 1 false 53),
  (53, o_callv S11_comeFrom 11 1 true 56),
  (56, o_iinc 3 1 59),
  (59, o_goto 31),
  (62, o_aload 0 63),
  (63, o_callv S11_leastFar 11 0 false 66),
  (66, o_istore 3 67),
  (67, o_iload 2 68),
  (68, o_if (fun a => a = 0) 78 71),
  (71, o_iload 3 72),
  (72, o_call S2_isCell 1 false 75),
  (75, o_if (fun a => ¬ a = 0) 82 78),
  (78, o_iload 3 79),
  (79, o_goto 88),
  (82, o_aload 0 83),
  (83, o_getf 11 13 86),
  (86, o_iload 3 87),
  (87, o_iald 88),
  (88, o_iret)]
def S11_meet : am_E := am_S K11_meet 4
theorem hdd_11_meet : yX11_meet.cls ≠ "java/lang/invoke/MethodHandle" ∧ yX11_meet.cls ≠ "java/lang/invoke/VarHandle" ∧ (parseMethodDescriptor yX11_meet.desc).map (fun d => d.parameters.length) = some 2 := by decide +kernel
set_option maxRecDepth 100000 in
theorem snd_11_meet : am_Sound yX11_meet cX11_meet 4 (some .int) 3 73 S11_meet :=
  am_sound_of (own := RX11) (by decide) rfl <|
    fm_c (si_iloadn dX11_meet_0 rfl) <|
    fm_c (si_iconst dX11_meet_1 rfl) <|
    fm_c (si_ic_lt dX11_meet_2 rfl) <|
    fm_c (si_iloadn dX11_meet_5 rfl) <|
    fm_c (si_bipush dX11_meet_6 rfl) <|
    fm_c (si_ic_gt dX11_meet_8 rfl) <|
    fm_c (si_iloadn dX11_meet_11 rfl) <|
    fm_c (si_call snd_11_isPart dX11_meet_12 tw_670 tw_671 tw_65 tw_672 hdd_11_isPart ⟨rfl, rfl⟩) <|
    fm_c (si_if_ne dX11_meet_15 rfl) <|
    fm_c (si_bipush dX11_meet_18 rfl) <|
    fm_c (si_iret rfl dX11_meet_20) <|
    fm_c (si_aloadn dX11_meet_21 rfl) <|
    fm_c (si_getf (C := RX11) (T := TX11) (N := 17) dX11_meet_22 rfl inC_11 rfl tw_338) <|
    fm_c (si_iconst dX11_meet_25 rfl) <|
    fm_c (si_call snd_J_fillI dX11_meet_26 tw_837 tw_122 tw_68 tw_123 hdd_J_fillI ⟨rfl, rfl⟩) <|
    fm_c (si_iconst dX11_meet_29 rfl) <|
    fm_c (si_istoren dX11_meet_30 rfl rfl) <|
    fm_c (si_iloadn dX11_meet_31 rfl) <|
    fm_c (si_iconst dX11_meet_32 rfl) <|
    fm_c (si_ic_ge dX11_meet_33 rfl) <|
    fm_c (si_iloadn dX11_meet_36 rfl) <|
    fm_c (si_iloadn dX11_meet_37 rfl) <|
    fm_c (si_ishr dX11_meet_38) <|
    fm_c (si_iconst dX11_meet_39 rfl) <|
    fm_c (si_iand dX11_meet_40) <|
    fm_c (si_if_eq dX11_meet_41 rfl) <|
    fm_c (si_aloadn dX11_meet_44 rfl) <|
    fm_c (si_aloadn dX11_meet_45 rfl) <|
    fm_c (si_getf (C := RX11) (T := TX11) (N := 17) dX11_meet_46 rfl inC_11 rfl tw_331) <|
    fm_c (si_iloadn dX11_meet_49 rfl) <|
    fm_c (si_callv (C := RX3) (T := TX3) (N := 5) snd_3_standOf rfl dX11_meet_50 tw_811 tw_812 tw_813 tw_71 tw_814 hdd_3_standOf ⟨rfl, rfl⟩) <|
    fm_c (si_callv (C := RX11) (T := TX11) (N := 17) snd_11_comeFrom rfl dX11_meet_53 tw_838 tw_840 tw_21 tw_65 tw_841 hdd_11_comeFrom ⟨rfl, rfl⟩) <|
    fm_c (si_iinc dX11_meet_56 rfl rfl) <|
    fm_c (si_goto dX11_meet_59 rfl) <|
    fm_c (si_aloadn dX11_meet_62 rfl) <|
    fm_c (si_callv (C := RX11) (T := TX11) (N := 17) snd_11_leastFar rfl dX11_meet_63 tw_843 tw_845 tw_22 tw_65 tw_846 hdd_11_leastFar ⟨rfl, rfl⟩) <|
    fm_c (si_istoren dX11_meet_66 rfl rfl) <|
    fm_c (si_iloadn dX11_meet_67 rfl) <|
    fm_c (si_if_eq dX11_meet_68 rfl) <|
    fm_c (si_iloadn dX11_meet_71 rfl) <|
    fm_c (si_call snd_2_isCell dX11_meet_72 tw_481 tw_482 tw_67 tw_483 hdd_2_isCell ⟨rfl, rfl⟩) <|
    fm_c (si_if_ne dX11_meet_75 rfl) <|
    fm_c (si_iloadn dX11_meet_78 rfl) <|
    fm_c (si_goto dX11_meet_79 rfl) <|
    fm_c (si_aloadn dX11_meet_82 rfl) <|
    fm_c (si_getf (C := RX11) (T := TX11) (N := 17) dX11_meet_83 rfl inC_11 rfl tw_338) <|
    fm_c (si_iloadn dX11_meet_86 rfl) <|
    fm_c (si_iald dX11_meet_87) <|
    fm_c (si_iret rfl dX11_meet_88) <|
    fun _ h => absurd h List.not_mem_nil
def K11_withSeeking : List (Nat × am_O) := [(0, o_lload 1 1),
  (1, o_lstore 3 2),
  (2, o_push (aI 0) 3),
  (3, o_istore 5 5),
  (5, o_iload 5 7),
  (7, o_push (aI 2) 8),
  (8, o_ic (fun a b => b < a) 32 11),
  (11, o_push (aL 31) 14),
  (14, o_lload 3 15),
  (15, o_binL (fun a b => w64 (a * b)) 16),
  (16, o_aload 0 17),
  (17, o_push (aI 0) 18),
  (18, o_push (aI 1) 19),
  (19, o_iload 5 21),
  (21, o_callv S11_parted 11 3 false 24),
  (24, o_binL (fun a b => w64 (a + b)) 25),
  (25, o_lstore 3 26),
  (26, o_iinc 5 1 29),
  (29, o_goto 5),
  (32, o_push (aL 31) 35),
  (35, o_lload 3 36),
  (36, o_binL (fun a b => w64 (a * b)) 37),
  (37, o_aload 0 38),
  (38, o_push (aI 7) 40),
  (40, o_push (aI 0) 41),
  (41, o_callv S11_meet 11 2 false 44),
  (44, o_i2l 45),
  (45, o_binL (fun a b => w64 (a + b)) 46),
  (46, o_lstore 3 47),
  (47, o_push (aL 31) 50),
  (50, o_lload 3 51),
  (51, o_binL (fun a b => w64 (a * b)) 52),
  (52, o_aload 0 53),
  (53, o_push (aI 7) 55),
  (55, o_push (aI 1) 56),
  (56, o_callv S11_meet 11 2 false 59),
  (59, o_i2l 60),
  (60, o_binL (fun a b => w64 (a + b)) 61),
  (61, o_lstore 3 62),
  (62, o_push (aL 31) 65),
  (65, o_lload 3 66),
  (66, o_binL (fun a b => w64 (a * b)) 67),
  (67, o_aload 0 68),
  (68, o_push (aI 60) 70),
  (70, o_push (aI 3) 71),
  (71, o_push (aI 2) 72),
  (72, o_callv S11_counts 11 3 false 75),
  (75, o_i2l 76),
  (76, o_binL (fun a b => w64 (a + b)) 77),
  (77, o_lret)]
def S11_withSeeking : am_E := am_S K11_withSeeking 6
theorem hdd_11_withSeeking : yX11_withSeeking.cls ≠ "java/lang/invoke/MethodHandle" ∧ yX11_withSeeking.cls ≠ "java/lang/invoke/VarHandle" ∧ (parseMethodDescriptor yX11_withSeeking.desc).map (fun d => d.parameters.length) = some 1 := by decide +kernel
set_option maxRecDepth 100000 in
theorem snd_11_withSeeking : am_Sound yX11_withSeeking cX11_withSeeking 6 (some .long) 5 122 S11_withSeeking :=
  am_sound_of (own := RX11) (by decide) rfl <|
    fm_c (si_lloadn dX11_withSeeking_0 rfl) <|
    fm_c (si_lstoren dX11_withSeeking_1 rfl rfl) <|
    fm_c (si_iconst dX11_withSeeking_2 rfl) <|
    fm_c (si_istore dX11_withSeeking_3 rfl) <|
    fm_c (si_iload dX11_withSeeking_5) <|
    fm_c (si_iconst dX11_withSeeking_7 rfl) <|
    fm_c (si_ic_gt dX11_withSeeking_8 rfl) <|
    fm_c (si_ldc2 dX11_withSeeking_11 tw_914 rfl) <|
    fm_c (si_lloadn dX11_withSeeking_14 rfl) <|
    fm_c (si_lmul dX11_withSeeking_15) <|
    fm_c (si_aloadn dX11_withSeeking_16 rfl) <|
    fm_c (si_iconst dX11_withSeeking_17 rfl) <|
    fm_c (si_iconst dX11_withSeeking_18 rfl) <|
    fm_c (si_iload dX11_withSeeking_19) <|
    fm_c (si_callv (C := RX11) (T := TX11) (N := 17) snd_11_parted rfl dX11_withSeeking_21 tw_948 tw_821 tw_822 tw_65 tw_823 hdd_11_parted ⟨rfl, rfl⟩) <|
    fm_c (si_ladd dX11_withSeeking_24) <|
    fm_c (si_lstoren dX11_withSeeking_25 rfl rfl) <|
    fm_c (si_iinc dX11_withSeeking_26 rfl rfl) <|
    fm_c (si_goto dX11_withSeeking_29 rfl) <|
    fm_c (si_ldc2 dX11_withSeeking_32 tw_914 rfl) <|
    fm_c (si_lloadn dX11_withSeeking_35 rfl) <|
    fm_c (si_lmul dX11_withSeeking_36) <|
    fm_c (si_aloadn dX11_withSeeking_37 rfl) <|
    fm_c (si_bipush dX11_withSeeking_38 rfl) <|
    fm_c (si_iconst dX11_withSeeking_40 rfl) <|
    fm_c (si_callv (C := RX11) (T := TX11) (N := 17) snd_11_meet rfl dX11_withSeeking_41 tw_949 tw_834 tw_835 tw_65 tw_836 hdd_11_meet ⟨rfl, rfl⟩) <|
    fm_c (si_i2l dX11_withSeeking_44) <|
    fm_c (si_ladd dX11_withSeeking_45) <|
    fm_c (si_lstoren dX11_withSeeking_46 rfl rfl) <|
    fm_c (si_ldc2 dX11_withSeeking_47 tw_914 rfl) <|
    fm_c (si_lloadn dX11_withSeeking_50 rfl) <|
    fm_c (si_lmul dX11_withSeeking_51) <|
    fm_c (si_aloadn dX11_withSeeking_52 rfl) <|
    fm_c (si_bipush dX11_withSeeking_53 rfl) <|
    fm_c (si_iconst dX11_withSeeking_55 rfl) <|
    fm_c (si_callv (C := RX11) (T := TX11) (N := 17) snd_11_meet rfl dX11_withSeeking_56 tw_949 tw_834 tw_835 tw_65 tw_836 hdd_11_meet ⟨rfl, rfl⟩) <|
    fm_c (si_i2l dX11_withSeeking_59) <|
    fm_c (si_ladd dX11_withSeeking_60) <|
    fm_c (si_lstoren dX11_withSeeking_61 rfl rfl) <|
    fm_c (si_ldc2 dX11_withSeeking_62 tw_914 rfl) <|
    fm_c (si_lloadn dX11_withSeeking_65 rfl) <|
    fm_c (si_lmul dX11_withSeeking_66) <|
    fm_c (si_aloadn dX11_withSeeking_67 rfl) <|
    fm_c (si_bipush dX11_withSeeking_68 rfl) <|
    fm_c (si_iconst dX11_withSeeking_70 rfl) <|
    fm_c (si_iconst dX11_withSeeking_71 rfl) <|
    fm_c (si_callv (C := RX11) (T := TX11) (N := 17) snd_11_counts rfl dX11_withSeeking_72 tw_950 tw_848 tw_849 tw_65 tw_850 hdd_11_counts ⟨rfl, rfl⟩) <|
    fm_c (si_i2l dX11_withSeeking_75) <|
    fm_c (si_ladd dX11_withSeeking_76) <|
    fm_c (si_lret rfl dX11_withSeeking_77) <|
    fun _ h => absurd h List.not_mem_nil
def K11_digest : List (Nat × am_O) := [(0, o_push (aL 17) 3),
  (3, o_lstore 1 4),
  (4, o_push (aI 0) 5),
  (5, o_istore 3 6),
  (6, o_iload 3 7),
  (7, o_push (aI 8) 9),
  (9, o_ic (fun a b => b ≤ a) 31 12),
  (12, o_push (aL 31) 15),
  (15, o_lload 1 16),
  (16, o_binL (fun a b => w64 (a * b)) 17),
  (17, o_aload 0 18),
  (18, o_iload 3 19),
  (19, o_callv S11_count 11 1 false 22),
  (22, o_i2l 23),
  (23, o_binL (fun a b => w64 (a + b)) 24),
  (24, o_lstore 1 25),
  (25, o_iinc 3 1 28),
  (28, o_goto 6),
  (31, o_push (aI 0) 32),
  (32, o_istore 3 33),
  (33, o_iload 3 34),
  (34, o_push (aI 3) 35),
  (35, o_ic (fun a b => b ≤ a) 57 38),
  (38, o_push (aL 31) 41),
  (41, o_lload 1 42),
  (42, o_binL (fun a b => w64 (a * b)) 43),
  (43, o_aload 0 44),
  (44, o_iload 3 45),
  (45, o_callv S11_fault 11 1 false 48),
  (48, o_i2l 49),
  (49, o_binL (fun a b => w64 (a + b)) 50),
  (50, o_lstore 1 51),
  (51, o_iinc 3 1 54),
  (54, o_goto 33),
  (57, o_push (aL 31) 60),
  (60, o_lload 1 61),
  (61, o_binL (fun a b => w64 (a * b)) 62),
  (62, o_aload 0 63),
  (63, o_callv S11_judged 11 0 false 66),
  (66, o_i2l 67),
  (67, o_binL (fun a b => w64 (a + b)) 68),
  (68, o_lstore 1 69),
  (69, o_push (aL 31) 72),
  (72, o_lload 1 73),
  (73, o_binL (fun a b => w64 (a * b)) 74),
  (74, o_aload 0 75),
  (75, o_aload 0 76),
  (76, o_getf 11 7 79),
  (79, o_getf 10 4 82),
  (82, o_callv S11_at 11 1 false 85),
  (85, o_i2l 86),
  (86, o_binL (fun a b => w64 (a + b)) 87),
  (87, o_lstore 1 88),
  (88, o_push (aL 31) 91),
  (91, o_lload 1 92),
  (92, o_binL (fun a b => w64 (a * b)) 93),
  (93, o_aload 0 94),
  (94, o_callv S11_loose 11 0 false 97),
  (97, o_i2l 98),
  (98, o_binL (fun a b => w64 (a + b)) 99),
  (99, o_lstore 1 100),
  (100, o_push (aL 31) 103),
  (103, o_lload 1 104),
  (104, o_binL (fun a b => w64 (a * b)) 105),
  (105, o_aload 0 106),
  (106, o_callv S11_risk 11 0 false 109),
  (109, o_i2l 110),
  (110, o_binL (fun a b => w64 (a + b)) 111),
  (111, o_lstore 1 112),
  (112, o_push (aL 31) 115),
  (115, o_lload 1 116),
  (116, o_binL (fun a b => w64 (a * b)) 117),
  (117, o_aload 0 118),
  (118, o_push (aI 0) 119),
  (119, o_callv S11_alike 11 1 false 122),
  (122, o_binL (fun a b => w64 (a + b)) 123),
  (123, o_lstore 1 124),
  (124, o_push (aL 31) 127),
  (127, o_lload 1 128),
  (128, o_binL (fun a b => w64 (a * b)) 129),
  (129, o_aload 0 130),
  (130, o_push (aI 1) 131),
  (131, o_callv S11_alike 11 1 false 134),
  (134, o_binL (fun a b => w64 (a + b)) 135),
  (135, o_lstore 1 136),
  (136, o_aload 0 137),
  (137, o_lload 1 138),
  (138, o_callv S11_withPersons 11 1 false 141),
  (141, o_lstore 1 142),
  (142, o_aload 0 143),
  (143, o_lload 1 144),
  (144, o_callv S11_withWays 11 1 false 147),
  (147, o_lstore 1 148),
  (148, o_aload 0 149),
  (149, o_lload 1 150),
  (150, o_callv S11_withTearing 11 1 false 153),
  (153, o_lstore 1 154),
  (154, o_aload 0 155),
  (155, o_lload 1 156),
  (156, o_callv S11_withSeeking 11 1 false 159),
  (159, o_lret)]
def S11_digest : am_E := am_S K11_digest 4
theorem hdd_11_digest : yX11_digest.cls ≠ "java/lang/invoke/MethodHandle" ∧ yX11_digest.cls ≠ "java/lang/invoke/VarHandle" ∧ (parseMethodDescriptor yX11_digest.desc).map (fun d => d.parameters.length) = some 0 := by decide +kernel
set_option maxRecDepth 100000 in
theorem snd_11_digest : am_Sound yX11_digest cX11_digest 4 (some .long) 6 148 S11_digest :=
  am_sound_of (own := RX11) (by decide) rfl <|
    fm_c (si_ldc2 dX11_digest_0 tw_913 rfl) <|
    fm_c (si_lstoren dX11_digest_3 rfl rfl) <|
    fm_c (si_iconst dX11_digest_4 rfl) <|
    fm_c (si_istoren dX11_digest_5 rfl rfl) <|
    fm_c (si_iloadn dX11_digest_6 rfl) <|
    fm_c (si_bipush dX11_digest_7 rfl) <|
    fm_c (si_ic_ge dX11_digest_9 rfl) <|
    fm_c (si_ldc2 dX11_digest_12 tw_914 rfl) <|
    fm_c (si_lloadn dX11_digest_15 rfl) <|
    fm_c (si_lmul dX11_digest_16) <|
    fm_c (si_aloadn dX11_digest_17 rfl) <|
    fm_c (si_iloadn dX11_digest_18 rfl) <|
    fm_c (si_callv (C := RX11) (T := TX11) (N := 17) snd_11_count rfl dX11_digest_19 tw_915 tw_906 tw_907 tw_65 tw_908 hdd_11_count ⟨rfl, rfl⟩) <|
    fm_c (si_i2l dX11_digest_22) <|
    fm_c (si_ladd dX11_digest_23) <|
    fm_c (si_lstoren dX11_digest_24 rfl rfl) <|
    fm_c (si_iinc dX11_digest_25 rfl rfl) <|
    fm_c (si_goto dX11_digest_28 rfl) <|
    fm_c (si_iconst dX11_digest_31 rfl) <|
    fm_c (si_istoren dX11_digest_32 rfl rfl) <|
    fm_c (si_iloadn dX11_digest_33 rfl) <|
    fm_c (si_iconst dX11_digest_34 rfl) <|
    fm_c (si_ic_ge dX11_digest_35 rfl) <|
    fm_c (si_ldc2 dX11_digest_38 tw_914 rfl) <|
    fm_c (si_lloadn dX11_digest_41 rfl) <|
    fm_c (si_lmul dX11_digest_42) <|
    fm_c (si_aloadn dX11_digest_43 rfl) <|
    fm_c (si_iloadn dX11_digest_44 rfl) <|
    fm_c (si_callv (C := RX11) (T := TX11) (N := 17) snd_11_fault rfl dX11_digest_45 tw_916 tw_454 tw_455 tw_65 tw_456 hdd_11_fault ⟨rfl, rfl⟩) <|
    fm_c (si_i2l dX11_digest_48) <|
    fm_c (si_ladd dX11_digest_49) <|
    fm_c (si_lstoren dX11_digest_50 rfl rfl) <|
    fm_c (si_iinc dX11_digest_51 rfl rfl) <|
    fm_c (si_goto dX11_digest_54 rfl) <|
    fm_c (si_ldc2 dX11_digest_57 tw_914 rfl) <|
    fm_c (si_lloadn dX11_digest_60 rfl) <|
    fm_c (si_lmul dX11_digest_61) <|
    fm_c (si_aloadn dX11_digest_62 rfl) <|
    fm_c (si_callv (C := RX11) (T := TX11) (N := 17) snd_11_judged rfl dX11_digest_63 tw_917 tw_519 tw_520 tw_65 tw_521 hdd_11_judged ⟨rfl, rfl⟩) <|
    fm_c (si_i2l dX11_digest_66) <|
    fm_c (si_ladd dX11_digest_67) <|
    fm_c (si_lstoren dX11_digest_68 rfl rfl) <|
    fm_c (si_ldc2 dX11_digest_69 tw_914 rfl) <|
    fm_c (si_lloadn dX11_digest_72 rfl) <|
    fm_c (si_lmul dX11_digest_73) <|
    fm_c (si_aloadn dX11_digest_74 rfl) <|
    fm_c (si_aloadn dX11_digest_75 rfl) <|
    fm_c (si_getf (C := RX11) (T := TX11) (N := 17) dX11_digest_76 rfl inC_11 rfl tw_332) <|
    fm_c (si_getf (C := RX10) (T := TX10) (N := 5) dX11_digest_79 rfl inC_10 rfl tw_206) <|
    fm_c (si_callv (C := RX11) (T := TX11) (N := 17) snd_11_at rfl dX11_digest_82 tw_918 tw_523 tw_524 tw_65 tw_525 hdd_11_at ⟨rfl, rfl⟩) <|
    fm_c (si_i2l dX11_digest_85) <|
    fm_c (si_ladd dX11_digest_86) <|
    fm_c (si_lstoren dX11_digest_87 rfl rfl) <|
    fm_c (si_ldc2 dX11_digest_88 tw_914 rfl) <|
    fm_c (si_lloadn dX11_digest_91 rfl) <|
    fm_c (si_lmul dX11_digest_92) <|
    fm_c (si_aloadn dX11_digest_93 rfl) <|
    fm_c (si_callv (C := RX11) (T := TX11) (N := 17) snd_11_loose rfl dX11_digest_94 tw_919 tw_596 tw_597 tw_65 tw_598 hdd_11_loose ⟨rfl, rfl⟩) <|
    fm_c (si_i2l dX11_digest_97) <|
    fm_c (si_ladd dX11_digest_98) <|
    fm_c (si_lstoren dX11_digest_99 rfl rfl) <|
    fm_c (si_ldc2 dX11_digest_100 tw_914 rfl) <|
    fm_c (si_lloadn dX11_digest_103 rfl) <|
    fm_c (si_lmul dX11_digest_104) <|
    fm_c (si_aloadn dX11_digest_105 rfl) <|
    fm_c (si_callv (C := RX11) (T := TX11) (N := 17) snd_11_risk rfl dX11_digest_106 tw_920 tw_617 tw_618 tw_65 tw_619 hdd_11_risk ⟨rfl, rfl⟩) <|
    fm_c (si_i2l dX11_digest_109) <|
    fm_c (si_ladd dX11_digest_110) <|
    fm_c (si_lstoren dX11_digest_111 rfl rfl) <|
    fm_c (si_ldc2 dX11_digest_112 tw_914 rfl) <|
    fm_c (si_lloadn dX11_digest_115 rfl) <|
    fm_c (si_lmul dX11_digest_116) <|
    fm_c (si_aloadn dX11_digest_117 rfl) <|
    fm_c (si_iconst dX11_digest_118 rfl) <|
    fm_c (si_callv (C := RX11) (T := TX11) (N := 17) snd_11_alike rfl dX11_digest_119 tw_921 tw_683 tw_684 tw_65 tw_685 hdd_11_alike ⟨rfl, rfl⟩) <|
    fm_c (si_ladd dX11_digest_122) <|
    fm_c (si_lstoren dX11_digest_123 rfl rfl) <|
    fm_c (si_ldc2 dX11_digest_124 tw_914 rfl) <|
    fm_c (si_lloadn dX11_digest_127 rfl) <|
    fm_c (si_lmul dX11_digest_128) <|
    fm_c (si_aloadn dX11_digest_129 rfl) <|
    fm_c (si_iconst dX11_digest_130 rfl) <|
    fm_c (si_callv (C := RX11) (T := TX11) (N := 17) snd_11_alike rfl dX11_digest_131 tw_921 tw_683 tw_684 tw_65 tw_685 hdd_11_alike ⟨rfl, rfl⟩) <|
    fm_c (si_ladd dX11_digest_134) <|
    fm_c (si_lstoren dX11_digest_135 rfl rfl) <|
    fm_c (si_aloadn dX11_digest_136 rfl) <|
    fm_c (si_lloadn dX11_digest_137 rfl) <|
    fm_c (si_callv (C := RX11) (T := TX11) (N := 17) snd_11_withPersons rfl dX11_digest_138 tw_922 tw_924 tw_23 tw_65 tw_925 hdd_11_withPersons ⟨rfl, rfl⟩) <|
    fm_c (si_lstoren dX11_digest_141 rfl rfl) <|
    fm_c (si_aloadn dX11_digest_142 rfl) <|
    fm_c (si_lloadn dX11_digest_143 rfl) <|
    fm_c (si_callv (C := RX11) (T := TX11) (N := 17) snd_11_withWays rfl dX11_digest_144 tw_928 tw_930 tw_24 tw_65 tw_931 hdd_11_withWays ⟨rfl, rfl⟩) <|
    fm_c (si_lstoren dX11_digest_147 rfl rfl) <|
    fm_c (si_aloadn dX11_digest_148 rfl) <|
    fm_c (si_lloadn dX11_digest_149 rfl) <|
    fm_c (si_callv (C := RX11) (T := TX11) (N := 17) snd_11_withTearing rfl dX11_digest_150 tw_936 tw_938 tw_25 tw_65 tw_939 hdd_11_withTearing ⟨rfl, rfl⟩) <|
    fm_c (si_lstoren dX11_digest_153 rfl rfl) <|
    fm_c (si_aloadn dX11_digest_154 rfl) <|
    fm_c (si_lloadn dX11_digest_155 rfl) <|
    fm_c (si_callv (C := RX11) (T := TX11) (N := 17) snd_11_withSeeking rfl dX11_digest_156 tw_944 tw_946 tw_26 tw_65 tw_947 hdd_11_withSeeking ⟨rfl, rfl⟩) <|
    fm_c (si_lret rfl dX11_digest_159) <|
    fun _ h => absurd h List.not_mem_nil
def K11_forget : List (Nat × am_O) := [(0, o_aload 0 1),
  (1, o_getf 11 10 4),
  (4, o_getf 4 2 7),
  (7, o_istore 1 8),
  (8, o_aload 0 9),
  (9, o_getf 11 10 12),
  (12, o_push (aI 0) 13),
  (13, o_putI 4 2 16),
  (16, o_iload 1 17),
  (17, o_iret)]
def S11_forget : am_E := am_S K11_forget 2
theorem hdd_11_forget : yX11_forget.cls ≠ "java/lang/invoke/MethodHandle" ∧ yX11_forget.cls ≠ "java/lang/invoke/VarHandle" ∧ (parseMethodDescriptor yX11_forget.desc).map (fun d => d.parameters.length) = some 0 := by decide +kernel
set_option maxRecDepth 100000 in
theorem snd_11_forget : am_Sound yX11_forget cX11_forget 2 (some .int) 0 0 S11_forget :=
  am_sound_of (own := RX11) (by decide) rfl <|
    fm_c (si_aloadn dX11_forget_0 rfl) <|
    fm_c (si_getf (C := RX11) (T := TX11) (N := 17) dX11_forget_1 rfl inC_11 rfl tw_335) <|
    fm_c (si_getf (C := RX4) (T := TX4) (N := 3) dX11_forget_4 rfl inC_4 rfl tw_281) <|
    fm_c (si_istoren dX11_forget_7 rfl rfl) <|
    fm_c (si_aloadn dX11_forget_8 rfl) <|
    fm_c (si_getf (C := RX11) (T := TX11) (N := 17) dX11_forget_9 rfl inC_11 rfl tw_335) <|
    fm_c (si_iconst dX11_forget_12 rfl) <|
    fm_c (si_putI (C := RX4) (T := TX4) (N := 3) dX11_forget_13 rfl inC_4 tyX4 tyX4_ok nmX4 rfl tw_281 rfl (tyX4_ok 2 (by decide))) <|
    fm_c (si_iloadn dX11_forget_16 rfl) <|
    fm_c (si_iret rfl dX11_forget_17) <|
    fun _ h => absurd h List.not_mem_nil
def K11_isForm : List (Nat × am_O) := [(0, o_iload 0 1),
  (1, o_if (fun a => a < 0) 13 4),
  (4, o_iload 0 5),
  (5, o_push (aI 3) 6),
  (6, o_ic (fun a b => b ≤ a) 13 9),
  (9, o_push (aI 1) 10),
  (10, o_goto 14),
  (13, o_push (aI 0) 14),
  (14, o_zret)]
def S11_isForm : am_E := am_S K11_isForm 1
theorem hdd_11_isForm : yX11_isForm.cls ≠ "java/lang/invoke/MethodHandle" ∧ yX11_isForm.cls ≠ "java/lang/invoke/VarHandle" ∧ (parseMethodDescriptor yX11_isForm.desc).map (fun d => d.parameters.length) = some 1 := by decide +kernel
set_option maxRecDepth 100000 in
theorem snd_11_isForm : am_Sound yX11_isForm cX11_isForm 1 (some .boolean) 0 0 S11_isForm :=
  am_sound_of (own := RX11) (by decide) rfl <|
    fm_c (si_iloadn dX11_isForm_0 rfl) <|
    fm_c (si_if_lt dX11_isForm_1 rfl) <|
    fm_c (si_iloadn dX11_isForm_4 rfl) <|
    fm_c (si_iconst dX11_isForm_5 rfl) <|
    fm_c (si_ic_ge dX11_isForm_6 rfl) <|
    fm_c (si_iconst dX11_isForm_9 rfl) <|
    fm_c (si_goto dX11_isForm_10 rfl) <|
    fm_c (si_iconst dX11_isForm_13 rfl) <|
    fm_c (si_zret rfl dX11_isForm_14) <|
    fun _ h => absurd h List.not_mem_nil
def K7_has : List (Nat × am_O) := [(0, o_iload 1 1),
  (1, o_if (fun a => a < 0) 22 4),
  (4, o_iload 1 5),
  (5, o_aload 0 6),
  (6, o_getf 7 2 9),
  (9, o_ic (fun a b => b ≤ a) 22 12),
  (12, o_iload 1 13),
  (13, o_push (aI 64) 15),
  (15, o_ic (fun a b => b ≤ a) 22 18),
  (18, o_push (aI 1) 19),
  (19, o_goto 23),
  (22, o_push (aI 0) 23),
  (23, o_zret)]
def S7_has : am_E := am_S K7_has 2
theorem hdd_7_has : yX7_has.cls ≠ "java/lang/invoke/MethodHandle" ∧ yX7_has.cls ≠ "java/lang/invoke/VarHandle" ∧ (parseMethodDescriptor yX7_has.desc).map (fun d => d.parameters.length) = some 1 := by decide +kernel
set_option maxRecDepth 100000 in
theorem snd_7_has : am_Sound yX7_has cX7_has 2 (some .boolean) 0 0 S7_has :=
  am_sound_of (own := RX7) (by decide) rfl <|
    fm_c (si_iloadn dX7_has_0 rfl) <|
    fm_c (si_if_lt dX7_has_1 rfl) <|
    fm_c (si_iloadn dX7_has_4 rfl) <|
    fm_c (si_aloadn dX7_has_5 rfl) <|
    fm_c (si_getf (C := RX7) (T := TX7) (N := 3) dX7_has_6 rfl inC_7 rfl tw_316) <|
    fm_c (si_ic_ge dX7_has_9 rfl) <|
    fm_c (si_iloadn dX7_has_12 rfl) <|
    fm_c (si_bipush dX7_has_13 rfl) <|
    fm_c (si_ic_ge dX7_has_15 rfl) <|
    fm_c (si_iconst dX7_has_18 rfl) <|
    fm_c (si_goto dX7_has_19 rfl) <|
    fm_c (si_iconst dX7_has_22 rfl) <|
    fm_c (si_zret rfl dX7_has_23) <|
    fun _ h => absurd h List.not_mem_nil
def K7_wrongWith : List (Nat × am_O) := [(0, o_aload 0 1),
  (1, o_callv S7_isLost 7 0 false 4),
  (4, o_if (fun a => a = 0) 9 7),
  (7, o_push (aI 1) 8),
  (8, o_iret),
  (9, o_aload 0 10),
  (10, o_getf 7 1 13),
  (13, o_iload 1 14),
  (14, o_ic (fun a b => a = b) 19 17),
  (17, o_push (aI 3) 18),
  (18, o_iret),
  (19, o_aload 0 20),
  (20, o_iload 2 21),
  (21, o_callv S7_has 7 1 false 24),
  (24, o_if (fun a => a = 0) 31 27),
  (27, o_push (aI 0) 28),
  (28, o_goto 32),
  (31, o_push (aI 2) 32),
  (32, o_iret)]
def S7_wrongWith : am_E := am_S K7_wrongWith 3
theorem hdd_7_wrongWith : yX7_wrongWith.cls ≠ "java/lang/invoke/MethodHandle" ∧ yX7_wrongWith.cls ≠ "java/lang/invoke/VarHandle" ∧ (parseMethodDescriptor yX7_wrongWith.desc).map (fun d => d.parameters.length) = some 2 := by decide +kernel
set_option maxRecDepth 100000 in
theorem snd_7_wrongWith : am_Sound yX7_wrongWith cX7_wrongWith 3 (some .int) 1 21 S7_wrongWith :=
  am_sound_of (own := RX7) (by decide) rfl <|
    fm_c (si_aloadn dX7_wrongWith_0 rfl) <|
    fm_c (si_callv (C := RX7) (T := TX7) (N := 3) snd_7_isLost rfl dX7_wrongWith_1 tw_882 tw_493 tw_494 tw_77 tw_495 hdd_7_isLost ⟨rfl, rfl⟩) <|
    fm_c (si_if_eq dX7_wrongWith_4 rfl) <|
    fm_c (si_iconst dX7_wrongWith_7 rfl) <|
    fm_c (si_iret rfl dX7_wrongWith_8) <|
    fm_c (si_aloadn dX7_wrongWith_9 rfl) <|
    fm_c (si_getf (C := RX7) (T := TX7) (N := 3) dX7_wrongWith_10 rfl inC_7 rfl tw_314) <|
    fm_c (si_iloadn dX7_wrongWith_13 rfl) <|
    fm_c (si_ic_eq dX7_wrongWith_14 rfl) <|
    fm_c (si_iconst dX7_wrongWith_17 rfl) <|
    fm_c (si_iret rfl dX7_wrongWith_18) <|
    fm_c (si_aloadn dX7_wrongWith_19 rfl) <|
    fm_c (si_iloadn dX7_wrongWith_20 rfl) <|
    fm_c (si_callv (C := RX7) (T := TX7) (N := 3) snd_7_has rfl dX7_wrongWith_21 tw_508 tw_501 tw_502 tw_77 tw_503 hdd_7_has ⟨rfl, rfl⟩) <|
    fm_c (si_if_eq dX7_wrongWith_24 rfl) <|
    fm_c (si_iconst dX7_wrongWith_27 rfl) <|
    fm_c (si_goto dX7_wrongWith_28 rfl) <|
    fm_c (si_iconst dX7_wrongWith_31 rfl) <|
    fm_c (si_iret rfl dX7_wrongWith_32) <|
    fun _ h => absurd h List.not_mem_nil
def K7_itemAt : List (Nat × am_O) := [(0, o_aload 0 1),
  (1, o_iload 1 2),
  (2, o_callv S7_has 7 1 false 5),
  (5, o_if (fun a => a = 0) 17 8),
  (8, o_aload 0 9),
  (9, o_getf 7 0 12),
  (12, o_iload 1 13),
  (13, o_iald 14),
  (14, o_goto 18),
  (17, o_push (aI 0) 18),
  (18, o_iret)]
def S7_itemAt : am_E := am_S K7_itemAt 2
theorem hdd_7_itemAt : yX7_itemAt.cls ≠ "java/lang/invoke/MethodHandle" ∧ yX7_itemAt.cls ≠ "java/lang/invoke/VarHandle" ∧ (parseMethodDescriptor yX7_itemAt.desc).map (fun d => d.parameters.length) = some 1 := by decide +kernel
set_option maxRecDepth 100000 in
theorem snd_7_itemAt : am_Sound yX7_itemAt cX7_itemAt 2 (some .int) 1 21 S7_itemAt :=
  am_sound_of (own := RX7) (by decide) rfl <|
    fm_c (si_aloadn dX7_itemAt_0 rfl) <|
    fm_c (si_iloadn dX7_itemAt_1 rfl) <|
    fm_c (si_callv (C := RX7) (T := TX7) (N := 3) snd_7_has rfl dX7_itemAt_2 tw_508 tw_501 tw_502 tw_77 tw_503 hdd_7_has ⟨rfl, rfl⟩) <|
    fm_c (si_if_eq dX7_itemAt_5 rfl) <|
    fm_c (si_aloadn dX7_itemAt_8 rfl) <|
    fm_c (si_getf (C := RX7) (T := TX7) (N := 3) dX7_itemAt_9 rfl inC_7 rfl tw_312) <|
    fm_c (si_iloadn dX7_itemAt_12 rfl) <|
    fm_c (si_iald dX7_itemAt_13) <|
    fm_c (si_goto dX7_itemAt_14 rfl) <|
    fm_c (si_iconst dX7_itemAt_17 rfl) <|
    fm_c (si_iret rfl dX7_itemAt_18) <|
    fun _ h => absurd h List.not_mem_nil
def K11_get : List (Nat × am_O) := [(0, o_aload 0 1),
  (1, o_iload 1 2),
  (2, o_callv S11_sheetOf 11 1 false 5),
  (5, o_astore 4 7),
  (7, o_aload 4 9),
  (9, o_nul 19 12),
  (12, o_iload 2 13),
  (13, o_call S11_isForm 1 false 16),
  (16, o_if (fun a => ¬ a = 0) 23 19),
  (19, o_push (aI (-2147483648)) 22),
  (22, o_iret),
  (23, o_aload 4 25),
  (25, o_iload 2 26),
  (26, o_iload 3 27),
  (27, o_callv S7_wrongWith 7 2 false 30),
  (30, o_istore 5 32),
  (32, o_iload 5 34),
  (34, o_if (fun a => a = 0) 47 37),
  (37, o_aload 0 38),
  (38, o_iload 5 40),
  (40, o_putI 11 16 43),
  (43, o_push (aI (-2147483648)) 46),
  (46, o_iret),
  (47, o_aload 4 49),
  (49, o_iload 3 50),
  (50, o_callv S7_itemAt 7 1 false 53),
  (53, o_iret)]
def S11_get : am_E := am_S K11_get 6
theorem hdd_11_get : yX11_get.cls ≠ "java/lang/invoke/MethodHandle" ∧ yX11_get.cls ≠ "java/lang/invoke/VarHandle" ∧ (parseMethodDescriptor yX11_get.desc).map (fun d => d.parameters.length) = some 3 := by decide +kernel
set_option maxRecDepth 100000 in
theorem snd_11_get : am_Sound yX11_get cX11_get 6 (some .int) 2 43 S11_get :=
  am_sound_of (own := RX11) (by decide) rfl <|
    fm_c (si_aloadn dX11_get_0 rfl) <|
    fm_c (si_iloadn dX11_get_1 rfl) <|
    fm_c (si_callv (C := RX11) (T := TX11) (N := 17) snd_11_sheetOf rfl dX11_get_2 tw_488 tw_490 tw_5 tw_65 tw_491 hdd_11_sheetOf ⟨rfl, rfl⟩) <|
    fm_c (si_astore dX11_get_5 rfl) <|
    fm_c (si_aload dX11_get_7) <|
    fm_c (si_ifnull dX11_get_9 rfl) <|
    fm_c (si_iloadn dX11_get_12 rfl) <|
    fm_c (si_call snd_11_isForm dX11_get_13 tw_855 tw_856 tw_65 tw_857 hdd_11_isForm ⟨rfl, rfl⟩) <|
    fm_c (si_if_ne dX11_get_16 rfl) <|
    fm_c (si_ldcw dX11_get_19 tw_891 rfl) <|
    fm_c (si_iret rfl dX11_get_22) <|
    fm_c (si_aload dX11_get_23) <|
    fm_c (si_iloadn dX11_get_25 rfl) <|
    fm_c (si_iloadn dX11_get_26 rfl) <|
    fm_c (si_callv (C := RX7) (T := TX7) (N := 3) snd_7_wrongWith rfl dX11_get_27 tw_878 tw_879 tw_880 tw_77 tw_881 hdd_7_wrongWith ⟨rfl, rfl⟩) <|
    fm_c (si_istore dX11_get_30 rfl) <|
    fm_c (si_iload dX11_get_32) <|
    fm_c (si_if_eq dX11_get_34 rfl) <|
    fm_c (si_aloadn dX11_get_37 rfl) <|
    fm_c (si_iload dX11_get_38) <|
    fm_c (si_putI (C := RX11) (T := TX11) (N := 17) dX11_get_40 rfl inC_11 tyX11 tyX11_ok nmX11 rfl tw_341 rfl (tyX11_ok 16 (by decide))) <|
    fm_c (si_ldcw dX11_get_43 tw_891 rfl) <|
    fm_c (si_iret rfl dX11_get_46) <|
    fm_c (si_aload dX11_get_47) <|
    fm_c (si_iloadn dX11_get_49 rfl) <|
    fm_c (si_callv (C := RX7) (T := TX7) (N := 3) snd_7_itemAt rfl dX11_get_50 tw_504 tw_505 tw_506 tw_77 tw_507 hdd_7_itemAt ⟨rfl, rfl⟩) <|
    fm_c (si_iret rfl dX11_get_53) <|
    fun _ h => absurd h List.not_mem_nil
