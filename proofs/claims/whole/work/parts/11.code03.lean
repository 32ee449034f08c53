def K11_isSixteenths : List (Nat × am_O) := [(0, o_iload 0 1),
  (1, o_if (fun a => a < 0) 14 4),
  (4, o_iload 0 5),
  (5, o_push (aI 16) 7),
  (7, o_ic (fun a b => b < a) 14 10),
  (10, o_push (aI 1) 11),
  (11, o_goto 15),
  (14, o_push (aI 0) 15),
  (15, o_zret)]
def S11_isSixteenths : am_E := am_S K11_isSixteenths 1
theorem hdd_11_isSixteenths : yX11_isSixteenths.cls ≠ "java/lang/invoke/MethodHandle" ∧ yX11_isSixteenths.cls ≠ "java/lang/invoke/VarHandle" ∧ (parseMethodDescriptor yX11_isSixteenths.desc).map (fun d => d.parameters.length) = some 1 := by decide +kernel
set_option maxRecDepth 100000 in
theorem snd_11_isSixteenths : am_Sound yX11_isSixteenths cX11_isSixteenths 1 (some .boolean) 0 0 S11_isSixteenths :=
  am_sound_of (own := RX11) (by decide) rfl <|
    fm_c (si_iloadn dX11_isSixteenths_0 rfl) <|
    fm_c (si_if_lt dX11_isSixteenths_1 rfl) <|
    fm_c (si_iloadn dX11_isSixteenths_4 rfl) <|
    fm_c (si_bipush dX11_isSixteenths_5 rfl) <|
    fm_c (si_ic_gt dX11_isSixteenths_7 rfl) <|
    fm_c (si_iconst dX11_isSixteenths_10 rfl) <|
    fm_c (si_goto dX11_isSixteenths_11 rfl) <|
    fm_c (si_iconst dX11_isSixteenths_14 rfl) <|
    fm_c (si_zret rfl dX11_isSixteenths_15) <|
    fun _ h => absurd h List.not_mem_nil
def K3_putGrip : List (Nat × am_O) := [(0, o_iload 1 1),
  (1, o_call S3_isPerson 1 false 4),
  (4, o_if (fun a => a = 0) 36 7),
  (7, o_iload 2 8),
  (8, o_call S3_isPerson 1 false 11),
  (11, o_if (fun a => a = 0) 36 14),
  (14, o_aload 0 15),
  (15, o_getf 3 0 18),
  (18, o_iload 1 19),
  (19, o_push (aI 5) 20),
  (20, o_bin (fun a b => w32 (a * b)) 21),
  (21, o_iload 2 22),
  (22, o_bin (fun a b => w32 (a + b)) 23),
  (23, o_iload 3 24),
  (24, o_iast 25),
  (25, o_aload 0 26),
  (26, o_getf 3 0 29),
  (29, o_iload 2 30),
  (30, o_push (aI 5) 31),
  (31, o_bin (fun a b => w32 (a * b)) 32),
  (32, o_iload 1 33),
  (33, o_bin (fun a b => w32 (a + b)) 34),
  (34, o_iload 3 35),
  (35, o_iast 36),
  (36, o_vret)]
def S3_putGrip : am_E := am_S K3_putGrip 4
theorem hdd_3_putGrip : yX3_putGrip.cls ≠ "java/lang/invoke/MethodHandle" ∧ yX3_putGrip.cls ≠ "java/lang/invoke/VarHandle" ∧ (parseMethodDescriptor yX3_putGrip.desc).map (fun d => d.parameters.length) = some 3 := by decide +kernel
set_option maxRecDepth 100000 in
theorem snd_3_putGrip : am_Sound yX3_putGrip cX3_putGrip 4 none 1 20 S3_putGrip :=
  am_sound_of (own := RX3) (by decide) rfl <|
    fm_c (si_iloadn dX3_putGrip_0 rfl) <|
    fm_c (si_call snd_3_isPerson dX3_putGrip_1 tw_434 tw_435 tw_71 tw_436 hdd_3_isPerson ⟨rfl, rfl⟩) <|
    fm_c (si_if_eq dX3_putGrip_4 rfl) <|
    fm_c (si_iloadn dX3_putGrip_7 rfl) <|
    fm_c (si_call snd_3_isPerson dX3_putGrip_8 tw_434 tw_435 tw_71 tw_436 hdd_3_isPerson ⟨rfl, rfl⟩) <|
    fm_c (si_if_eq dX3_putGrip_11 rfl) <|
    fm_c (si_aloadn dX3_putGrip_14 rfl) <|
    fm_c (si_getf (C := RX3) (T := TX3) (N := 5) dX3_putGrip_15 rfl inC_3 rfl tw_174) <|
    fm_c (si_iloadn dX3_putGrip_18 rfl) <|
    fm_c (si_iconst dX3_putGrip_19 rfl) <|
    fm_c (si_imul dX3_putGrip_20) <|
    fm_c (si_iloadn dX3_putGrip_21 rfl) <|
    fm_c (si_iadd dX3_putGrip_22) <|
    fm_c (si_iloadn dX3_putGrip_23 rfl) <|
    fm_c (si_iast dX3_putGrip_24) <|
    fm_c (si_aloadn dX3_putGrip_25 rfl) <|
    fm_c (si_getf (C := RX3) (T := TX3) (N := 5) dX3_putGrip_26 rfl inC_3 rfl tw_174) <|
    fm_c (si_iloadn dX3_putGrip_29 rfl) <|
    fm_c (si_iconst dX3_putGrip_30 rfl) <|
    fm_c (si_imul dX3_putGrip_31) <|
    fm_c (si_iloadn dX3_putGrip_32 rfl) <|
    fm_c (si_iadd dX3_putGrip_33) <|
    fm_c (si_iloadn dX3_putGrip_34 rfl) <|
    fm_c (si_iast dX3_putGrip_35) <|
    fm_c (si_vret rfl dX3_putGrip_36) <|
    fun _ h => absurd h List.not_mem_nil
def K11_grip : List (Nat × am_O) := [(0, o_iload 1 1),
  (1, o_call S3_isPerson 1 false 4),
  (4, o_if (fun a => a = 0) 26 7),
  (7, o_iload 2 8),
  (8, o_call S3_isPerson 1 false 11),
  (11, o_if (fun a => a = 0) 26 14),
  (14, o_iload 1 15),
  (15, o_iload 2 16),
  (16, o_ic (fun a b => a = b) 26 19),
  (19, o_iload 3 20),
  (20, o_call S11_isSixteenths 1 false 23),
  (23, o_if (fun a => ¬ a = 0) 29 26),
  (26, o_push (aI (-2)) 28),
  (28, o_iret),
  (29, o_aload 0 30),
  (30, o_getf 11 6 33),
  (33, o_iload 1 34),
  (34, o_iload 2 35),
  (35, o_callv S3_gripOf 3 2 false 38),
  (38, o_istore 4 40),
  (40, o_aload 0 41),
  (41, o_getf 11 6 44),
  (44, o_iload 1 45),
  (45, o_iload 2 46),
  (46, o_iload 3 47),
  (47, o_callv S3_putGrip 3 3 true 50),
  (50, o_iload 4 52),
  (52, o_iret)]
def S11_grip : am_E := am_S K11_grip 5
theorem hdd_11_grip : yX11_grip.cls ≠ "java/lang/invoke/MethodHandle" ∧ yX11_grip.cls ≠ "java/lang/invoke/VarHandle" ∧ (parseMethodDescriptor yX11_grip.desc).map (fun d => d.parameters.length) = some 3 := by decide +kernel
set_option maxRecDepth 100000 in
theorem snd_11_grip : am_Sound yX11_grip cX11_grip 5 (some .int) 2 43 S11_grip :=
  am_sound_of (own := RX11) (by decide) rfl <|
    fm_c (si_iloadn dX11_grip_0 rfl) <|
    fm_c (si_call snd_3_isPerson dX11_grip_1 tw_465 tw_435 tw_71 tw_436 hdd_3_isPerson ⟨rfl, rfl⟩) <|
    fm_c (si_if_eq dX11_grip_4 rfl) <|
    fm_c (si_iloadn dX11_grip_7 rfl) <|
    fm_c (si_call snd_3_isPerson dX11_grip_8 tw_465 tw_435 tw_71 tw_436 hdd_3_isPerson ⟨rfl, rfl⟩) <|
    fm_c (si_if_eq dX11_grip_11 rfl) <|
    fm_c (si_iloadn dX11_grip_14 rfl) <|
    fm_c (si_iloadn dX11_grip_15 rfl) <|
    fm_c (si_ic_eq dX11_grip_16 rfl) <|
    fm_c (si_iloadn dX11_grip_19 rfl) <|
    fm_c (si_call snd_11_isSixteenths dX11_grip_20 tw_466 tw_467 tw_65 tw_468 hdd_11_isSixteenths ⟨rfl, rfl⟩) <|
    fm_c (si_if_ne dX11_grip_23 rfl) <|
    fm_c (si_bipush dX11_grip_26 rfl) <|
    fm_c (si_iret rfl dX11_grip_28) <|
    fm_c (si_aloadn dX11_grip_29 rfl) <|
    fm_c (si_getf (C := RX11) (T := TX11) (N := 17) dX11_grip_30 rfl inC_11 rfl tw_331) <|
    fm_c (si_iloadn dX11_grip_33 rfl) <|
    fm_c (si_iloadn dX11_grip_34 rfl) <|
    fm_c (si_callv (C := RX3) (T := TX3) (N := 5) snd_3_gripOf rfl dX11_grip_35 tw_469 tw_470 tw_471 tw_71 tw_472 hdd_3_gripOf ⟨rfl, rfl⟩) <|
    fm_c (si_istore dX11_grip_38 rfl) <|
    fm_c (si_aloadn dX11_grip_40 rfl) <|
    fm_c (si_getf (C := RX11) (T := TX11) (N := 17) dX11_grip_41 rfl inC_11 rfl tw_331) <|
    fm_c (si_iloadn dX11_grip_44 rfl) <|
    fm_c (si_iloadn dX11_grip_45 rfl) <|
    fm_c (si_iloadn dX11_grip_46 rfl) <|
    fm_c (si_callv (C := RX3) (T := TX3) (N := 5) snd_3_putGrip rfl dX11_grip_47 tw_473 tw_474 tw_475 tw_71 tw_476 hdd_3_putGrip ⟨rfl, rfl⟩) <|
    fm_c (si_iload dX11_grip_50) <|
    fm_c (si_iret rfl dX11_grip_52) <|
    fun _ h => absurd h List.not_mem_nil
def K7_putItem : List (Nat × am_O) := [(0, o_aload 0 1),
  (1, o_iload 1 2),
  (2, o_callv S7_has 7 1 false 5),
  (5, o_if (fun a => a = 0) 40 8),
  (8, o_aload 0 9),
  (9, o_getf 7 0 12),
  (12, o_iload 1 13),
  (13, o_aload 0 14),
  (14, o_getf 7 1 17),
  (17, o_if (fun a => ¬ a = 0) 25 20),
  (20, o_iload 2 21),
  (21, o_un w8 22),
  (22, o_goto 39),
  (25, o_aload 0 26),
  (26, o_getf 7 1 29),
  (29, o_push (aI 1) 30),
  (30, o_ic (fun a b => ¬ a = b) 38 33),
  (33, o_iload 2 34),
  (34, o_un w16 35),
  (35, o_goto 39),
  (38, o_iload 2 39),
  (39, o_iast 40),
  (40, o_vret)]
def S7_putItem : am_E := am_S K7_putItem 3
theorem hdd_7_putItem : yX7_putItem.cls ≠ "java/lang/invoke/MethodHandle" ∧ yX7_putItem.cls ≠ "java/lang/invoke/VarHandle" ∧ (parseMethodDescriptor yX7_putItem.desc).map (fun d => d.parameters.length) = some 2 := by decide +kernel
set_option maxRecDepth 100000 in
theorem snd_7_putItem : am_Sound yX7_putItem cX7_putItem 3 none 1 21 S7_putItem :=
  am_sound_of (own := RX7) (by decide) rfl <|
    fm_c (si_aloadn dX7_putItem_0 rfl) <|
    fm_c (si_iloadn dX7_putItem_1 rfl) <|
    fm_c (si_callv (C := RX7) (T := TX7) (N := 3) snd_7_has rfl dX7_putItem_2 tw_508 tw_501 tw_502 tw_77 tw_503 hdd_7_has ⟨rfl, rfl⟩) <|
    fm_c (si_if_eq dX7_putItem_5 rfl) <|
    fm_c (si_aloadn dX7_putItem_8 rfl) <|
    fm_c (si_getf (C := RX7) (T := TX7) (N := 3) dX7_putItem_9 rfl inC_7 rfl tw_312) <|
    fm_c (si_iloadn dX7_putItem_12 rfl) <|
    fm_c (si_aloadn dX7_putItem_13 rfl) <|
    fm_c (si_getf (C := RX7) (T := TX7) (N := 3) dX7_putItem_14 rfl inC_7 rfl tw_314) <|
    fm_c (si_if_ne dX7_putItem_17 rfl) <|
    fm_c (si_iloadn dX7_putItem_20 rfl) <|
    fm_c (si_i2b dX7_putItem_21) <|
    fm_c (si_goto dX7_putItem_22 rfl) <|
    fm_c (si_aloadn dX7_putItem_25 rfl) <|
    fm_c (si_getf (C := RX7) (T := TX7) (N := 3) dX7_putItem_26 rfl inC_7 rfl tw_314) <|
    fm_c (si_iconst dX7_putItem_29 rfl) <|
    fm_c (si_ic_ne dX7_putItem_30 rfl) <|
    fm_c (si_iloadn dX7_putItem_33 rfl) <|
    fm_c (si_i2s dX7_putItem_34) <|
    fm_c (si_goto dX7_putItem_35 rfl) <|
    fm_c (si_iloadn dX7_putItem_38 rfl) <|
    fm_c (si_iast dX7_putItem_39) <|
    fm_c (si_vret rfl dX7_putItem_40) <|
    fun _ h => absurd h List.not_mem_nil
def K11_lay : List (Nat × am_O) := [(0, o_aload 0 1),
  (1, o_iload 1 2),
  (2, o_callv S11_sheetOf 11 1 false 5),
  (5, o_astore 5 7),
  (7, o_aload 5 9),
  (9, o_nul 19 12),
  (12, o_iload 2 13),
  (13, o_call S11_isForm 1 false 16),
  (16, o_if (fun a => ¬ a = 0) 22 19),
  (19, o_push (aI (-2)) 21),
  (21, o_iret),
  (22, o_aload 5 24),
  (24, o_iload 2 25),
  (25, o_iload 3 26),
  (26, o_callv S7_wrongWith 7 2 false 29),
  (29, o_istore 6 31),
  (31, o_iload 6 33),
  (33, o_if (fun a => a = 0) 43 36),
  (36, o_aload 0 37),
  (37, o_iload 6 39),
  (39, o_callv S11_found 11 1 false 42),
  (42, o_iret),
  (43, o_aload 5 45),
  (45, o_iload 3 46),
  (46, o_iload 4 48),
  (48, o_callv S7_putItem 7 2 true 51),
  (51, o_push (aI 1) 52),
  (52, o_iret)]
def S11_lay : am_E := am_S K11_lay 7
theorem hdd_11_lay : yX11_lay.cls ≠ "java/lang/invoke/MethodHandle" ∧ yX11_lay.cls ≠ "java/lang/invoke/VarHandle" ∧ (parseMethodDescriptor yX11_lay.desc).map (fun d => d.parameters.length) = some 4 := by decide +kernel
set_option maxRecDepth 100000 in
theorem snd_11_lay : am_Sound yX11_lay cX11_lay 7 (some .int) 2 43 S11_lay :=
  am_sound_of (own := RX11) (by decide) rfl <|
    fm_c (si_aloadn dX11_lay_0 rfl) <|
    fm_c (si_iloadn dX11_lay_1 rfl) <|
    fm_c (si_callv (C := RX11) (T := TX11) (N := 17) snd_11_sheetOf rfl dX11_lay_2 tw_488 tw_490 tw_5 tw_65 tw_491 hdd_11_sheetOf ⟨rfl, rfl⟩) <|
    fm_c (si_astore dX11_lay_5 rfl) <|
    fm_c (si_aload dX11_lay_7) <|
    fm_c (si_ifnull dX11_lay_9 rfl) <|
    fm_c (si_iloadn dX11_lay_12 rfl) <|
    fm_c (si_call snd_11_isForm dX11_lay_13 tw_855 tw_856 tw_65 tw_857 hdd_11_isForm ⟨rfl, rfl⟩) <|
    fm_c (si_if_ne dX11_lay_16 rfl) <|
    fm_c (si_bipush dX11_lay_19 rfl) <|
    fm_c (si_iret rfl dX11_lay_21) <|
    fm_c (si_aload dX11_lay_22) <|
    fm_c (si_iloadn dX11_lay_24 rfl) <|
    fm_c (si_iloadn dX11_lay_25 rfl) <|
    fm_c (si_callv (C := RX7) (T := TX7) (N := 3) snd_7_wrongWith rfl dX11_lay_26 tw_878 tw_879 tw_880 tw_77 tw_881 hdd_7_wrongWith ⟨rfl, rfl⟩) <|
    fm_c (si_istore dX11_lay_29 rfl) <|
    fm_c (si_iload dX11_lay_31) <|
    fm_c (si_if_eq dX11_lay_33 rfl) <|
    fm_c (si_aloadn dX11_lay_36 rfl) <|
    fm_c (si_iload dX11_lay_37) <|
    fm_c (si_callv (C := RX11) (T := TX11) (N := 17) snd_11_found rfl dX11_lay_39 tw_496 tw_498 tw_6 tw_65 tw_499 hdd_11_found ⟨rfl, rfl⟩) <|
    fm_c (si_iret rfl dX11_lay_42) <|
    fm_c (si_aload dX11_lay_43) <|
    fm_c (si_iloadn dX11_lay_45 rfl) <|
    fm_c (si_iload dX11_lay_46) <|
    fm_c (si_callv (C := RX7) (T := TX7) (N := 3) snd_7_putItem rfl dX11_lay_48 tw_883 tw_884 tw_885 tw_77 tw_886 hdd_7_putItem ⟨rfl, rfl⟩) <|
    fm_c (si_iconst dX11_lay_51 rfl) <|
    fm_c (si_iret rfl dX11_lay_52) <|
    fun _ h => absurd h List.not_mem_nil
def K4_append : List (Nat × am_O) := [(0, o_aload 0 1),
  (1, o_getf 4 2 4),
  (4, o_if (fun a => a < 0) 45 7),
  (7, o_aload 0 8),
  (8, o_getf 4 2 11),
  (11, o_push (aI 5) 12),
  (12, o_ic (fun a b => b ≤ a) 45 15),
  (15, o_aload 0 16),
  (16, o_getf 4 0 19),
  (19, o_aload 0 20),
  (20, o_getf 4 2 23),
  (23, o_iload 1 24),
  (24, o_iast 25),
  (25, o_aload 0 26),
  (26, o_getf 4 1 29),
  (29, o_aload 0 30),
  (30, o_getf 4 2 33),
  (33, o_iload 2 34),
  (34, o_iast 35),
  (35, o_aload 0 36),
  (36, o_dup 37),
  (37, o_getf 4 2 40),
  (40, o_push (aI 1) 41),
  (41, o_bin (fun a b => w32 (a + b)) 42),
  (42, o_putI 4 2 45),
  (45, o_vret)]
def S4_append : am_E := am_S K4_append 3
theorem hdd_4_append : yX4_append.cls ≠ "java/lang/invoke/MethodHandle" ∧ yX4_append.cls ≠ "java/lang/invoke/VarHandle" ∧ (parseMethodDescriptor yX4_append.desc).map (fun d => d.parameters.length) = some 2 := by decide +kernel
set_option maxRecDepth 100000 in
theorem snd_4_append : am_Sound yX4_append cX4_append 3 none 0 0 S4_append :=
  am_sound_of (own := RX4) (by decide) rfl <|
    fm_c (si_aloadn dX4_append_0 rfl) <|
    fm_c (si_getf (C := RX4) (T := TX4) (N := 3) dX4_append_1 rfl inC_4 rfl tw_280) <|
    fm_c (si_if_lt dX4_append_4 rfl) <|
    fm_c (si_aloadn dX4_append_7 rfl) <|
    fm_c (si_getf (C := RX4) (T := TX4) (N := 3) dX4_append_8 rfl inC_4 rfl tw_280) <|
    fm_c (si_iconst dX4_append_11 rfl) <|
    fm_c (si_ic_ge dX4_append_12 rfl) <|
    fm_c (si_aloadn dX4_append_15 rfl) <|
    fm_c (si_getf (C := RX4) (T := TX4) (N := 3) dX4_append_16 rfl inC_4 rfl tw_278) <|
    fm_c (si_aloadn dX4_append_19 rfl) <|
    fm_c (si_getf (C := RX4) (T := TX4) (N := 3) dX4_append_20 rfl inC_4 rfl tw_280) <|
    fm_c (si_iloadn dX4_append_23 rfl) <|
    fm_c (si_iast dX4_append_24) <|
    fm_c (si_aloadn dX4_append_25 rfl) <|
    fm_c (si_getf (C := RX4) (T := TX4) (N := 3) dX4_append_26 rfl inC_4 rfl tw_279) <|
    fm_c (si_aloadn dX4_append_29 rfl) <|
    fm_c (si_getf (C := RX4) (T := TX4) (N := 3) dX4_append_30 rfl inC_4 rfl tw_280) <|
    fm_c (si_iloadn dX4_append_33 rfl) <|
    fm_c (si_iast dX4_append_34) <|
    fm_c (si_aloadn dX4_append_35 rfl) <|
    fm_c (si_dup dX4_append_36) <|
    fm_c (si_getf (C := RX4) (T := TX4) (N := 3) dX4_append_37 rfl inC_4 rfl tw_280) <|
    fm_c (si_iconst dX4_append_40 rfl) <|
    fm_c (si_iadd dX4_append_41) <|
    fm_c (si_putI (C := RX4) (T := TX4) (N := 3) dX4_append_42 rfl inC_4 tyX4 tyX4_ok nmX4 rfl tw_280 rfl (tyX4_ok 2 (by decide))) <|
    fm_c (si_vret rfl dX4_append_45) <|
    fun _ h => absurd h List.not_mem_nil
def K11_look : List (Nat × am_O) := [(0, o_iload 1 1),
  (1, o_call S2_isCell 1 false 4),
  (4, o_if (fun a => a = 0) 18 7),
  (7, o_iload 2 8),
  (8, o_push (aI 1) 9),
  (9, o_ic (fun a b => a < b) 18 12),
  (12, o_iload 2 13),
  (13, o_push (aI 9) 15),
  (15, o_ic (fun a b => a ≤ b) 21 18),
  (18, o_push (aI (-2)) 20),
  (20, o_iret),
  (21, o_aload 0 22),
  (22, o_getf 11 10 25),
  (25, o_getf 4 2 28),
  (28, o_push (aI 5) 29),
  (29, o_ic (fun a b => a < b) 35 32),
  (32, o_push (aI (-4)) 34),
  (34, o_iret),
  (35, o_aload 0 36),
  (36, o_getf 11 10 39),
  (39, o_iload 1 40),
  (40, o_iload 2 41),
  (41, o_callv S4_append 4 2 true 44),
  (44, o_aload 0 45),
  (45, o_getf 11 10 48),
  (48, o_getf 4 2 51),
  (51, o_iret)]
def S11_look : am_E := am_S K11_look 3
theorem hdd_11_look : yX11_look.cls ≠ "java/lang/invoke/MethodHandle" ∧ yX11_look.cls ≠ "java/lang/invoke/VarHandle" ∧ (parseMethodDescriptor yX11_look.desc).map (fun d => d.parameters.length) = some 2 := by decide +kernel
set_option maxRecDepth 100000 in
theorem snd_11_look : am_Sound yX11_look cX11_look 3 (some .int) 1 22 S11_look :=
  am_sound_of (own := RX11) (by decide) rfl <|
    fm_c (si_iloadn dX11_look_0 rfl) <|
    fm_c (si_call snd_2_isCell dX11_look_1 tw_481 tw_482 tw_67 tw_483 hdd_2_isCell ⟨rfl, rfl⟩) <|
    fm_c (si_if_eq dX11_look_4 rfl) <|
    fm_c (si_iloadn dX11_look_7 rfl) <|
    fm_c (si_iconst dX11_look_8 rfl) <|
    fm_c (si_ic_lt dX11_look_9 rfl) <|
    fm_c (si_iloadn dX11_look_12 rfl) <|
    fm_c (si_bipush dX11_look_13 rfl) <|
    fm_c (si_ic_le dX11_look_15 rfl) <|
    fm_c (si_bipush dX11_look_18 rfl) <|
    fm_c (si_iret rfl dX11_look_20) <|
    fm_c (si_aloadn dX11_look_21 rfl) <|
    fm_c (si_getf (C := RX11) (T := TX11) (N := 17) dX11_look_22 rfl inC_11 rfl tw_335) <|
    fm_c (si_getf (C := RX4) (T := TX4) (N := 3) dX11_look_25 rfl inC_4 rfl tw_281) <|
    fm_c (si_iconst dX11_look_28 rfl) <|
    fm_c (si_ic_lt dX11_look_29 rfl) <|
    fm_c (si_bipush dX11_look_32 rfl) <|
    fm_c (si_iret rfl dX11_look_34) <|
    fm_c (si_aloadn dX11_look_35 rfl) <|
    fm_c (si_getf (C := RX11) (T := TX11) (N := 17) dX11_look_36 rfl inC_11 rfl tw_335) <|
    fm_c (si_iloadn dX11_look_39 rfl) <|
    fm_c (si_iloadn dX11_look_40 rfl) <|
    fm_c (si_callv (C := RX4) (T := TX4) (N := 3) snd_4_append rfl dX11_look_41 tw_778 tw_779 tw_780 tw_75 tw_781 hdd_4_append ⟨rfl, rfl⟩) <|
    fm_c (si_aloadn dX11_look_44 rfl) <|
    fm_c (si_getf (C := RX11) (T := TX11) (N := 17) dX11_look_45 rfl inC_11 rfl tw_335) <|
    fm_c (si_getf (C := RX4) (T := TX4) (N := 3) dX11_look_48 rfl inC_4 rfl tw_281) <|
    fm_c (si_iret rfl dX11_look_51) <|
    fun _ h => absurd h List.not_mem_nil
def K7_giveUp : List (Nat × am_O) := [(0, o_aload 0 1),
  (1, o_push (aI (-1)) 2),
  (2, o_putI 7 1 5),
  (5, o_aload 0 6),
  (6, o_push (aI 0) 7),
  (7, o_putI 7 2 10),
  (10, o_vret)]
def S7_giveUp : am_E := am_S K7_giveUp 1
theorem hdd_7_giveUp : yX7_giveUp.cls ≠ "java/lang/invoke/MethodHandle" ∧ yX7_giveUp.cls ≠ "java/lang/invoke/VarHandle" ∧ (parseMethodDescriptor yX7_giveUp.desc).map (fun d => d.parameters.length) = some 0 := by decide +kernel
set_option maxRecDepth 100000 in
theorem snd_7_giveUp : am_Sound yX7_giveUp cX7_giveUp 1 none 0 0 S7_giveUp :=
  am_sound_of (own := RX7) (by decide) rfl <|
    fm_c (si_aloadn dX7_giveUp_0 rfl) <|
    fm_c (si_iconst dX7_giveUp_1 rfl) <|
    fm_c (si_putI (C := RX7) (T := TX7) (N := 3) dX7_giveUp_2 rfl inC_7 tyX7 tyX7_ok nmX7 rfl tw_314 rfl (tyX7_ok 1 (by decide))) <|
    fm_c (si_aloadn dX7_giveUp_5 rfl) <|
    fm_c (si_iconst dX7_giveUp_6 rfl) <|
    fm_c (si_putI (C := RX7) (T := TX7) (N := 3) dX7_giveUp_7 rfl inC_7 tyX7 tyX7_ok nmX7 rfl tw_316 rfl (tyX7_ok 2 (by decide))) <|
    fm_c (si_vret rfl dX7_giveUp_10) <|
    fun _ h => absurd h List.not_mem_nil
def K11_lose : List (Nat × am_O) := [(0, o_aload 0 1),
  (1, o_iload 1 2),
  (2, o_callv S11_sheetOf 11 1 false 5),
  (5, o_astore 2 6),
  (6, o_aload 2 7),
  (7, o_nul 10 13),
  (10, o_push (aI (-2)) 12),
  (12, o_iret),
  (13, o_aload 2 14),
  (14, o_callv S7_isLost 7 0 false 17),
  (17, o_if (fun a => a = 0) 26 20),
  (20, o_aload 0 21),
  (21, o_push (aI 1) 22),
  (22, o_callv S11_found 11 1 false 25),
  (25, o_iret),
  (26, o_aload 2 27),
  (27, o_getf 7 2 30),
  (30, o_istore 3 31),
  (31, o_aload 2 32),
  (32, o_callv S7_giveUp 7 0 true 35),
  (35, o_iload 3 36),
  (36, o_iret)]
def S11_lose : am_E := am_S K11_lose 4
theorem hdd_11_lose : yX11_lose.cls ≠ "java/lang/invoke/MethodHandle" ∧ yX11_lose.cls ≠ "java/lang/invoke/VarHandle" ∧ (parseMethodDescriptor yX11_lose.desc).map (fun d => d.parameters.length) = some 1 := by decide +kernel
set_option maxRecDepth 100000 in
theorem snd_11_lose : am_Sound yX11_lose cX11_lose 4 (some .int) 1 21 S11_lose :=
  am_sound_of (own := RX11) (by decide) rfl <|
    fm_c (si_aloadn dX11_lose_0 rfl) <|
    fm_c (si_iloadn dX11_lose_1 rfl) <|
    fm_c (si_callv (C := RX11) (T := TX11) (N := 17) snd_11_sheetOf rfl dX11_lose_2 tw_488 tw_490 tw_5 tw_65 tw_491 hdd_11_sheetOf ⟨rfl, rfl⟩) <|
    fm_c (si_astoren dX11_lose_5 rfl rfl) <|
    fm_c (si_aloadn dX11_lose_6 rfl) <|
    fm_c (si_ifnonnull dX11_lose_7 rfl) <|
    fm_c (si_bipush dX11_lose_10 rfl) <|
    fm_c (si_iret rfl dX11_lose_12) <|
    fm_c (si_aloadn dX11_lose_13 rfl) <|
    fm_c (si_callv (C := RX7) (T := TX7) (N := 3) snd_7_isLost rfl dX11_lose_14 tw_492 tw_493 tw_494 tw_77 tw_495 hdd_7_isLost ⟨rfl, rfl⟩) <|
    fm_c (si_if_eq dX11_lose_17 rfl) <|
    fm_c (si_aloadn dX11_lose_20 rfl) <|
    fm_c (si_iconst dX11_lose_21 rfl) <|
    fm_c (si_callv (C := RX11) (T := TX11) (N := 17) snd_11_found rfl dX11_lose_22 tw_496 tw_498 tw_6 tw_65 tw_499 hdd_11_found ⟨rfl, rfl⟩) <|
    fm_c (si_iret rfl dX11_lose_25) <|
    fm_c (si_aloadn dX11_lose_26 rfl) <|
    fm_c (si_getf (C := RX7) (T := TX7) (N := 3) dX11_lose_27 rfl inC_7 rfl tw_317) <|
    fm_c (si_istoren dX11_lose_30 rfl rfl) <|
    fm_c (si_aloadn dX11_lose_31 rfl) <|
    fm_c (si_callv (C := RX7) (T := TX7) (N := 3) snd_7_giveUp rfl dX11_lose_32 tw_870 tw_871 tw_872 tw_77 tw_873 hdd_7_giveUp ⟨rfl, rfl⟩) <|
    fm_c (si_iloadn dX11_lose_35 rfl) <|
    fm_c (si_iret rfl dX11_lose_36) <|
    fun _ h => absurd h List.not_mem_nil
def K11_person : List (Nat × am_O) := [(0, o_iload 1 1),
  (1, o_call S3_isPerson 1 false 4),
  (4, o_if (fun a => ¬ a = 0) 10 7),
  (7, o_push (aI (-2)) 9),
  (9, o_iret),
  (10, o_iload 2 11),
  (11, o_if (fun a => ¬ a = 0) 45 14),
  (14, o_iload 3 15),
  (15, o_call S11_isSixteenths 1 false 18),
  (18, o_if (fun a => a = 0) 45 21),
  (21, o_aload 0 22),
  (22, o_getf 11 6 25),
  (25, o_getf 3 1 28),
  (28, o_iload 1 29),
  (29, o_iald 30),
  (30, o_istore 4 32),
  (32, o_aload 0 33),
  (33, o_getf 11 6 36),
  (36, o_getf 3 1 39),
  (39, o_iload 1 40),
  (40, o_iload 3 41),
  (41, o_iast 42),
  (42, o_iload 4 44),
  (44, o_iret),
  (45, o_iload 2 46),
  (46, o_push (aI 1) 47),
  (47, o_ic (fun a b => ¬ a = b) 81 50),
  (50, o_iload 3 51),
  (51, o_call S2_isCell 1 false 54),
  (54, o_if (fun a => a = 0) 81 57),
  (57, o_aload 0 58),
  (58, o_getf 11 6 61),
  (61, o_getf 3 2 64),
  (64, o_iload 1 65),
  (65, o_iald 66),
  (66, o_istore 4 68),
  (68, o_aload 0 69),
  (69, o_getf 11 6 72),
  (72, o_getf 3 2 75),
  (75, o_iload 1 76),
  (76, o_iload 3 77),
  (77, o_iast 78),
  (78, o_iload 4 80),
  (80, o_iret),
  (81, o_push (aI (-2)) 83),
  (83, o_iret)]
def S11_person : am_E := am_S K11_person 5
theorem hdd_11_person : yX11_person.cls ≠ "java/lang/invoke/MethodHandle" ∧ yX11_person.cls ≠ "java/lang/invoke/VarHandle" ∧ (parseMethodDescriptor yX11_person.desc).map (fun d => d.parameters.length) = some 3 := by decide +kernel
set_option maxRecDepth 100000 in
theorem snd_11_person : am_Sound yX11_person cX11_person 5 (some .int) 1 20 S11_person :=
  am_sound_of (own := RX11) (by decide) rfl <|
    fm_c (si_iloadn dX11_person_0 rfl) <|
    fm_c (si_call snd_3_isPerson dX11_person_1 tw_465 tw_435 tw_71 tw_436 hdd_3_isPerson ⟨rfl, rfl⟩) <|
    fm_c (si_if_ne dX11_person_4 rfl) <|
    fm_c (si_bipush dX11_person_7 rfl) <|
    fm_c (si_iret rfl dX11_person_9) <|
    fm_c (si_iloadn dX11_person_10 rfl) <|
    fm_c (si_if_ne dX11_person_11 rfl) <|
    fm_c (si_iloadn dX11_person_14 rfl) <|
    fm_c (si_call snd_11_isSixteenths dX11_person_15 tw_466 tw_467 tw_65 tw_468 hdd_11_isSixteenths ⟨rfl, rfl⟩) <|
    fm_c (si_if_eq dX11_person_18 rfl) <|
    fm_c (si_aloadn dX11_person_21 rfl) <|
    fm_c (si_getf (C := RX11) (T := TX11) (N := 17) dX11_person_22 rfl inC_11 rfl tw_331) <|
    fm_c (si_getf (C := RX3) (T := TX3) (N := 5) dX11_person_25 rfl inC_3 rfl tw_176) <|
    fm_c (si_iloadn dX11_person_28 rfl) <|
    fm_c (si_iald dX11_person_29) <|
    fm_c (si_istore dX11_person_30 rfl) <|
    fm_c (si_aloadn dX11_person_32 rfl) <|
    fm_c (si_getf (C := RX11) (T := TX11) (N := 17) dX11_person_33 rfl inC_11 rfl tw_331) <|
    fm_c (si_getf (C := RX3) (T := TX3) (N := 5) dX11_person_36 rfl inC_3 rfl tw_176) <|
    fm_c (si_iloadn dX11_person_39 rfl) <|
    fm_c (si_iloadn dX11_person_40 rfl) <|
    fm_c (si_iast dX11_person_41) <|
    fm_c (si_iload dX11_person_42) <|
    fm_c (si_iret rfl dX11_person_44) <|
    fm_c (si_iloadn dX11_person_45 rfl) <|
    fm_c (si_iconst dX11_person_46 rfl) <|
    fm_c (si_ic_ne dX11_person_47 rfl) <|
    fm_c (si_iloadn dX11_person_50 rfl) <|
    fm_c (si_call snd_2_isCell dX11_person_51 tw_481 tw_482 tw_67 tw_483 hdd_2_isCell ⟨rfl, rfl⟩) <|
    fm_c (si_if_eq dX11_person_54 rfl) <|
    fm_c (si_aloadn dX11_person_57 rfl) <|
    fm_c (si_getf (C := RX11) (T := TX11) (N := 17) dX11_person_58 rfl inC_11 rfl tw_331) <|
    fm_c (si_getf (C := RX3) (T := TX3) (N := 5) dX11_person_61 rfl inC_3 rfl tw_178) <|
    fm_c (si_iloadn dX11_person_64 rfl) <|
    fm_c (si_iald dX11_person_65) <|
    fm_c (si_istore dX11_person_66 rfl) <|
    fm_c (si_aloadn dX11_person_68 rfl) <|
    fm_c (si_getf (C := RX11) (T := TX11) (N := 17) dX11_person_69 rfl inC_11 rfl tw_331) <|
    fm_c (si_getf (C := RX3) (T := TX3) (N := 5) dX11_person_72 rfl inC_3 rfl tw_178) <|
    fm_c (si_iloadn dX11_person_75 rfl) <|
    fm_c (si_iloadn dX11_person_76 rfl) <|
    fm_c (si_iast dX11_person_77) <|
    fm_c (si_iload dX11_person_78) <|
    fm_c (si_iret rfl dX11_person_80) <|
    fm_c (si_bipush dX11_person_81 rfl) <|
    fm_c (si_iret rfl dX11_person_83) <|
    fun _ h => absurd h List.not_mem_nil
def K11_read : List (Nat × am_O) := [(0, o_aload 0 1),
  (1, o_iload 1 2),
  (2, o_callv S11_sheetOf 11 1 false 5),
  (5, o_astore 2 6),
  (6, o_aload 2 7),
  (7, o_nul 10 13),
  (10, o_push (aI (-2)) 12),
  (12, o_iret),
  (13, o_aload 2 14),
  (14, o_callv S7_isLost 7 0 false 17),
  (17, o_if (fun a => a = 0) 26 20),
  (20, o_aload 0 21),
  (21, o_push (aI 1) 22),
  (22, o_callv S11_found 11 1 false 25),
  (25, o_iret),
  (26, o_push (aI 0) 27),
  (27, o_istore 3 28),
  (28, o_iload 3 29),
  (29, o_push (aI 5) 30),
  (30, o_ic (fun a b => b ≤ a) 72 33),
  (33, o_aload 2 34),
  (34, o_iload 3 35),
  (35, o_callv S7_has 7 1 false 38),
  (38, o_if (fun a => a = 0) 72 41),
  (41, o_aload 2 42),
  (42, o_iload 3 43),
  (43, o_callv S7_itemAt 7 1 false 46),
  (46, o_call S11_isSixteenths 1 false 49),
  (49, o_if (fun a => a = 0) 72 52),
  (52, o_aload 0 53),
  (53, o_getf 11 6 56),
  (56, o_getf 3 1 59),
  (59, o_iload 3 60),
  (60, o_aload 2 61),
  (61, o_iload 3 62),
  (62, o_callv S7_itemAt 7 1 false 65),
  (65, o_iast 66),
  (66, o_iinc 3 1 69),
  (69, o_goto 28),
  (72, o_iload 3 73),
  (73, o_iret)]
def S11_read : am_E := am_S K11_read 4
theorem hdd_11_read : yX11_read.cls ≠ "java/lang/invoke/MethodHandle" ∧ yX11_read.cls ≠ "java/lang/invoke/VarHandle" ∧ (parseMethodDescriptor yX11_read.desc).map (fun d => d.parameters.length) = some 1 := by decide +kernel
set_option maxRecDepth 100000 in
theorem snd_11_read : am_Sound yX11_read cX11_read 4 (some .int) 2 42 S11_read :=
  am_sound_of (own := RX11) (by decide) rfl <|
    fm_c (si_aloadn dX11_read_0 rfl) <|
    fm_c (si_iloadn dX11_read_1 rfl) <|
    fm_c (si_callv (C := RX11) (T := TX11) (N := 17) snd_11_sheetOf rfl dX11_read_2 tw_488 tw_490 tw_5 tw_65 tw_491 hdd_11_sheetOf ⟨rfl, rfl⟩) <|
    fm_c (si_astoren dX11_read_5 rfl rfl) <|
    fm_c (si_aloadn dX11_read_6 rfl) <|
    fm_c (si_ifnonnull dX11_read_7 rfl) <|
    fm_c (si_bipush dX11_read_10 rfl) <|
    fm_c (si_iret rfl dX11_read_12) <|
    fm_c (si_aloadn dX11_read_13 rfl) <|
    fm_c (si_callv (C := RX7) (T := TX7) (N := 3) snd_7_isLost rfl dX11_read_14 tw_492 tw_493 tw_494 tw_77 tw_495 hdd_7_isLost ⟨rfl, rfl⟩) <|
    fm_c (si_if_eq dX11_read_17 rfl) <|
    fm_c (si_aloadn dX11_read_20 rfl) <|
    fm_c (si_iconst dX11_read_21 rfl) <|
    fm_c (si_callv (C := RX11) (T := TX11) (N := 17) snd_11_found rfl dX11_read_22 tw_496 tw_498 tw_6 tw_65 tw_499 hdd_11_found ⟨rfl, rfl⟩) <|
    fm_c (si_iret rfl dX11_read_25) <|
    fm_c (si_iconst dX11_read_26 rfl) <|
    fm_c (si_istoren dX11_read_27 rfl rfl) <|
    fm_c (si_iloadn dX11_read_28 rfl) <|
    fm_c (si_iconst dX11_read_29 rfl) <|
    fm_c (si_ic_ge dX11_read_30 rfl) <|
    fm_c (si_aloadn dX11_read_33 rfl) <|
    fm_c (si_iloadn dX11_read_34 rfl) <|
    fm_c (si_callv (C := RX7) (T := TX7) (N := 3) snd_7_has rfl dX11_read_35 tw_500 tw_501 tw_502 tw_77 tw_503 hdd_7_has ⟨rfl, rfl⟩) <|
    fm_c (si_if_eq dX11_read_38 rfl) <|
    fm_c (si_aloadn dX11_read_41 rfl) <|
    fm_c (si_iloadn dX11_read_42 rfl) <|
    fm_c (si_callv (C := RX7) (T := TX7) (N := 3) snd_7_itemAt rfl dX11_read_43 tw_504 tw_505 tw_506 tw_77 tw_507 hdd_7_itemAt ⟨rfl, rfl⟩) <|
    fm_c (si_call snd_11_isSixteenths dX11_read_46 tw_466 tw_467 tw_65 tw_468 hdd_11_isSixteenths ⟨rfl, rfl⟩) <|
    fm_c (si_if_eq dX11_read_49 rfl) <|
    fm_c (si_aloadn dX11_read_52 rfl) <|
    fm_c (si_getf (C := RX11) (T := TX11) (N := 17) dX11_read_53 rfl inC_11 rfl tw_331) <|
    fm_c (si_getf (C := RX3) (T := TX3) (N := 5) dX11_read_56 rfl inC_3 rfl tw_176) <|
    fm_c (si_iloadn dX11_read_59 rfl) <|
    fm_c (si_aloadn dX11_read_60 rfl) <|
    fm_c (si_iloadn dX11_read_61 rfl) <|
    fm_c (si_callv (C := RX7) (T := TX7) (N := 3) snd_7_itemAt rfl dX11_read_62 tw_504 tw_505 tw_506 tw_77 tw_507 hdd_7_itemAt ⟨rfl, rfl⟩) <|
    fm_c (si_iast dX11_read_65) <|
    fm_c (si_iinc dX11_read_66 rfl rfl) <|
    fm_c (si_goto dX11_read_69 rfl) <|
    fm_c (si_iloadn dX11_read_72 rfl) <|
    fm_c (si_iret rfl dX11_read_73) <|
    fun _ h => absurd h List.not_mem_nil
def K2_layRows : List (Nat × am_O) := [(0, o_push (aI 0) 1),
  (1, o_istore 2 2),
  (2, o_push (aI 0) 3),
  (3, o_istore 3 4),
  (4, o_push (aI 8) 6),
  (6, o_istore 4 8),
  (8, o_push (aI 0) 9),
  (9, o_istore 5 11),
  (11, o_iload 5 13),
  (13, o_aload 1 14),
  (14, o_getf 9 2 17),
  (17, o_ic (fun a b => b ≤ a) 148 20),
  (20, o_aload 1 21),
  (21, o_iload 5 23),
  (23, o_callv S9_byteAt 9 1 false 26),
  (26, o_istore 6 28),
  (28, o_iload 2 29),
  (29, o_push (aI 8) 31),
  (31, o_ic (fun a b => a < b) 37 34),
  (34, o_iload 5 36),
  (36, o_iret),
  (37, o_iload 6 39),
  (39, o_push (aI 59) 41),
  (41, o_ic (fun a b => ¬ a = b) 72 44),
  (44, o_iload 3 45),
  (45, o_if (fun a => a = 0) 58 48),
  (48, o_iload 2 49),
  (49, o_if (fun a => a ≤ 0) 61 52),
  (52, o_iload 3 53),
  (53, o_iload 4 55),
  (55, o_ic (fun a b => b ≤ a) 61 58),
  (58, o_iload 5 60),
  (60, o_iret),
  (61, o_iload 3 62),
  (62, o_istore 4 64),
  (64, o_iinc 2 1 67),
  (67, o_push (aI 0) 68),
  (68, o_istore 3 69),
  (69, o_goto 142),
  (72, o_iload 6 74),
  (74, o_push (aI 48) 76),
  (76, o_ic (fun a b => a < b) 90 79),
  (79, o_iload 6 81),
  (81, o_push (aI 57) 83),
  (83, o_ic (fun a b => b < a) 90 86),
  (86, o_push (aI 1) 87),
  (87, o_goto 91),
  (90, o_push (aI 0) 91),
  (91, o_istore 7 93),
  (93, o_iload 3 94),
  (94, o_iload 4 96),
  (96, o_ic (fun a b => b ≤ a) 111 99),
  (99, o_iload 7 101),
  (101, o_if (fun a => ¬ a = 0) 114 104),
  (104, o_iload 6 106),
  (106, o_push (aI 35) 108),
  (108, o_ic (fun a b => a = b) 114 111),
  (111, o_iload 5 113),
  (113, o_iret),
  (114, o_aload 0 115),
  (115, o_getf 2 0 118),
  (118, o_push (aI 8) 120),
  (120, o_iload 2 121),
  (121, o_bin (fun a b => w32 (a * b)) 122),
  (122, o_iload 3 123),
  (123, o_bin (fun a b => w32 (a + b)) 124),
  (124, o_iload 7 126),
  (126, o_if (fun a => a = 0) 137 129),
  (129, o_iload 6 131),
  (131, o_push (aI 48) 133),
  (133, o_bin (fun a b => w32 (a - b)) 134),
  (134, o_goto 138),
  (137, o_push (aI (-1)) 138),
  (138, o_iast 139),
  (139, o_iinc 3 1 142),
  (142, o_iinc 5 1 145),
  (145, o_goto 11),
  (148, o_iload 2 149),
  (149, o_if (fun a => a ≤ 0) 165 152),
  (152, o_iload 3 153),
  (153, o_iload 4 155),
  (155, o_ic (fun a b => b ≤ a) 165 158),
  (158, o_aload 1 159),
  (159, o_getf 9 2 162),
  (162, o_goto 166),
  (165, o_push (aI (-1)) 166),
  (166, o_iret)]
def S2_layRows : am_E := am_S K2_layRows 8
theorem hdd_2_layRows : yX2_layRows.cls ≠ "java/lang/invoke/MethodHandle" ∧ yX2_layRows.cls ≠ "java/lang/invoke/VarHandle" ∧ (parseMethodDescriptor yX2_layRows.desc).map (fun d => d.parameters.length) = some 1 := by decide +kernel
set_option maxRecDepth 100000 in
theorem snd_2_layRows : am_Sound yX2_layRows cX2_layRows 8 (some .int) 1 21 S2_layRows :=
  am_sound_of (own := RX2) (by decide) rfl <|
    fm_c (si_iconst dX2_layRows_0 rfl) <|
    fm_c (si_istoren dX2_layRows_1 rfl rfl) <|
    fm_c (si_iconst dX2_layRows_2 rfl) <|
    fm_c (si_istoren dX2_layRows_3 rfl rfl) <|
    fm_c (si_bipush dX2_layRows_4 rfl) <|
    fm_c (si_istore dX2_layRows_6 rfl) <|
    fm_c (si_iconst dX2_layRows_8 rfl) <|
    fm_c (si_istore dX2_layRows_9 rfl) <|
    fm_c (si_iload dX2_layRows_11) <|
    fm_c (si_aloadn dX2_layRows_13 rfl) <|
    fm_c (si_getf (C := RX9) (T := TX9) (N := 4) dX2_layRows_14 rfl inC_9 rfl tw_102) <|
    fm_c (si_ic_ge dX2_layRows_17 rfl) <|
    fm_c (si_aloadn dX2_layRows_20 rfl) <|
    fm_c (si_iload dX2_layRows_21) <|
    fm_c (si_callv (C := RX9) (T := TX9) (N := 4) snd_9_byteAt rfl dX2_layRows_23 tw_405 tw_406 tw_407 tw_66 tw_408 hdd_9_byteAt ⟨rfl, rfl⟩) <|
    fm_c (si_istore dX2_layRows_26 rfl) <|
    fm_c (si_iloadn dX2_layRows_28 rfl) <|
    fm_c (si_bipush dX2_layRows_29 rfl) <|
    fm_c (si_ic_lt dX2_layRows_31 rfl) <|
    fm_c (si_iload dX2_layRows_34) <|
    fm_c (si_iret rfl dX2_layRows_36) <|
    fm_c (si_iload dX2_layRows_37) <|
    fm_c (si_bipush dX2_layRows_39 rfl) <|
    fm_c (si_ic_ne dX2_layRows_41 rfl) <|
    fm_c (si_iloadn dX2_layRows_44 rfl) <|
    fm_c (si_if_eq dX2_layRows_45 rfl) <|
    fm_c (si_iloadn dX2_layRows_48 rfl) <|
    fm_c (si_if_le dX2_layRows_49 rfl) <|
    fm_c (si_iloadn dX2_layRows_52 rfl) <|
    fm_c (si_iload dX2_layRows_53) <|
    fm_c (si_ic_ge dX2_layRows_55 rfl) <|
    fm_c (si_iload dX2_layRows_58) <|
    fm_c (si_iret rfl dX2_layRows_60) <|
    fm_c (si_iloadn dX2_layRows_61 rfl) <|
    fm_c (si_istore dX2_layRows_62 rfl) <|
    fm_c (si_iinc dX2_layRows_64 rfl rfl) <|
    fm_c (si_iconst dX2_layRows_67 rfl) <|
    fm_c (si_istoren dX2_layRows_68 rfl rfl) <|
    fm_c (si_goto dX2_layRows_69 rfl) <|
    fm_c (si_iload dX2_layRows_72) <|
    fm_c (si_bipush dX2_layRows_74 rfl) <|
    fm_c (si_ic_lt dX2_layRows_76 rfl) <|
    fm_c (si_iload dX2_layRows_79) <|
    fm_c (si_bipush dX2_layRows_81 rfl) <|
    fm_c (si_ic_gt dX2_layRows_83 rfl) <|
    fm_c (si_iconst dX2_layRows_86 rfl) <|
    fm_c (si_goto dX2_layRows_87 rfl) <|
    fm_c (si_iconst dX2_layRows_90 rfl) <|
    fm_c (si_istore dX2_layRows_91 rfl) <|
    fm_c (si_iloadn dX2_layRows_93 rfl) <|
    fm_c (si_iload dX2_layRows_94) <|
    fm_c (si_ic_ge dX2_layRows_96 rfl) <|
    fm_c (si_iload dX2_layRows_99) <|
    fm_c (si_if_ne dX2_layRows_101 rfl) <|
    fm_c (si_iload dX2_layRows_104) <|
    fm_c (si_bipush dX2_layRows_106 rfl) <|
    fm_c (si_ic_eq dX2_layRows_108 rfl) <|
    fm_c (si_iload dX2_layRows_111) <|
    fm_c (si_iret rfl dX2_layRows_113) <|
    fm_c (si_aloadn dX2_layRows_114 rfl) <|
    fm_c (si_getf (C := RX2) (T := TX2) (N := 3) dX2_layRows_115 rfl inC_2 rfl tw_124) <|
    fm_c (si_bipush dX2_layRows_118 rfl) <|
    fm_c (si_iloadn dX2_layRows_120 rfl) <|
    fm_c (si_imul dX2_layRows_121) <|
    fm_c (si_iloadn dX2_layRows_122 rfl) <|
    fm_c (si_iadd dX2_layRows_123) <|
    fm_c (si_iload dX2_layRows_124) <|
    fm_c (si_if_eq dX2_layRows_126 rfl) <|
    fm_c (si_iload dX2_layRows_129) <|
    fm_c (si_bipush dX2_layRows_131 rfl) <|
    fm_c (si_isub dX2_layRows_133) <|
    fm_c (si_goto dX2_layRows_134 rfl) <|
    fm_c (si_iconst dX2_layRows_137 rfl) <|
    fm_c (si_iast dX2_layRows_138) <|
    fm_c (si_iinc dX2_layRows_139 rfl rfl) <|
    fm_c (si_iinc dX2_layRows_142 rfl rfl) <|
    fm_c (si_goto dX2_layRows_145 rfl) <|
    fm_c (si_iloadn dX2_layRows_148 rfl) <|
    fm_c (si_if_le dX2_layRows_149 rfl) <|
    fm_c (si_iloadn dX2_layRows_152 rfl) <|
    fm_c (si_iload dX2_layRows_153) <|
    fm_c (si_ic_ge dX2_layRows_155 rfl) <|
    fm_c (si_aloadn dX2_layRows_158 rfl) <|
    fm_c (si_getf (C := RX9) (T := TX9) (N := 4) dX2_layRows_159 rfl inC_9 rfl tw_102) <|
    fm_c (si_goto dX2_layRows_162 rfl) <|
    fm_c (si_iconst dX2_layRows_165 rfl) <|
    fm_c (si_iret rfl dX2_layRows_166) <|
    fun _ h => absurd h List.not_mem_nil
def K2_placeOrNone : List (Nat × am_O) := [(0, o_aload 0 1),
  (1, o_iload 1 2),
  (2, o_callv S2_isPlace 2 1 false 5),
  (5, o_if (fun a => a = 0) 12 8),
  (8, o_iload 1 9),
  (9, o_goto 13),
  (12, o_push (aI (-1)) 13),
  (13, o_iret)]
def S2_placeOrNone : am_E := am_S K2_placeOrNone 2
theorem hdd_2_placeOrNone : yX2_placeOrNone.cls ≠ "java/lang/invoke/MethodHandle" ∧ yX2_placeOrNone.cls ≠ "java/lang/invoke/VarHandle" ∧ (parseMethodDescriptor yX2_placeOrNone.desc).map (fun d => d.parameters.length) = some 1 := by decide +kernel
set_option maxRecDepth 100000 in
theorem snd_2_placeOrNone : am_Sound yX2_placeOrNone cX2_placeOrNone 2 (some .int) 1 21 S2_placeOrNone :=
  am_sound_of (own := RX2) (by decide) rfl <|
    fm_c (si_aloadn dX2_placeOrNone_0 rfl) <|
    fm_c (si_iloadn dX2_placeOrNone_1 rfl) <|
    fm_c (si_callv (C := RX2) (T := TX2) (N := 3) snd_2_isPlace rfl dX2_placeOrNone_2 tw_413 tw_414 tw_415 tw_67 tw_416 hdd_2_isPlace ⟨rfl, rfl⟩) <|
    fm_c (si_if_eq dX2_placeOrNone_5 rfl) <|
    fm_c (si_iloadn dX2_placeOrNone_8 rfl) <|
    fm_c (si_goto dX2_placeOrNone_9 rfl) <|
    fm_c (si_iconst dX2_placeOrNone_12 rfl) <|
    fm_c (si_iret rfl dX2_placeOrNone_13) <|
    fun _ h => absurd h List.not_mem_nil
def K2_link : List (Nat × am_O) := [(0, o_push (aI 0) 1),
  (1, o_istore 1 2),
  (2, o_iload 1 3),
  (3, o_push (aI 64) 5),
  (5, o_ic (fun a b => b ≤ a) 120 8),
  (8, o_aload 0 9),
  (9, o_iload 1 10),
  (10, o_callv S2_isPlace 2 1 false 13),
  (13, o_if (fun a => a = 0) 114 16),
  (16, o_aload 0 17),
  (17, o_dup 18),
  (18, o_getf 2 2 21),
  (21, o_push (aI 1) 22),
  (22, o_bin (fun a b => w32 (a + b)) 23),
  (23, o_putI 2 2 26),
  (26, o_iload 1 27),
  (27, o_push (aI 4) 28),
  (28, o_bin (fun a b => w32 (a * b)) 29),
  (29, o_istore 2 30),
  (30, o_aload 0 31),
  (31, o_getf 2 1 34),
  (34, o_iload 2 35),
  (35, o_aload 0 36),
  (36, o_iload 1 37),
  (37, o_push (aI 8) 39),
  (39, o_bin (fun a b => w32 (a - b)) 40),
  (40, o_callv S2_placeOrNone 2 1 false 43),
  (43, o_iast 44),
  (44, o_aload 0 45),
  (45, o_getf 2 1 48),
  (48, o_iload 2 49),
  (49, o_push (aI 1) 50),
  (50, o_bin (fun a b => w32 (a + b)) 51),
  (51, o_iload 1 52),
  (52, o_push (aI 8) 54),
  (54, o_irem 55),
  (55, o_push (aI 7) 57),
  (57, o_ic (fun a b => ¬ a = b) 64 60),
  (60, o_push (aI (-1)) 61),
  (61, o_goto 71),
  (64, o_aload 0 65),
  (65, o_iload 1 66),
  (66, o_push (aI 1) 67),
  (67, o_bin (fun a b => w32 (a + b)) 68),
  (68, o_callv S2_placeOrNone 2 1 false 71),
  (71, o_iast 72),
  (72, o_aload 0 73),
  (73, o_getf 2 1 76),
  (76, o_iload 2 77),
  (77, o_push (aI 2) 78),
  (78, o_bin (fun a b => w32 (a + b)) 79),
  (79, o_aload 0 80),
  (80, o_iload 1 81),
  (81, o_push (aI 8) 83),
  (83, o_bin (fun a b => w32 (a + b)) 84),
  (84, o_callv S2_placeOrNone 2 1 false 87),
  (87, o_iast 88),
  (88, o_aload 0 89),
  (89, o_getf 2 1 92),
  (92, o_iload 2 93),
  (93, o_push (aI 3) 94),
  (94, o_bin (fun a b => w32 (a + b)) 95),
  (95, o_iload 1 96),
  (96, o_push (aI 8) 98),
  (98, o_irem 99),
  (99, o_if (fun a => ¬ a = 0) 106 102),
  (102, o_push (aI (-1)) 103),
  (103, o_goto 113),
  (106, o_aload 0 107),
  (107, o_iload 1 108),
  (108, o_push (aI 1) 109),
  (109, o_bin (fun a b => w32 (a - b)) 110),
  (110, o_callv S2_placeOrNone 2 1 false 113),
  (113, o_iast 114),
  (114, o_iinc 1 1 117),
  (117, o_goto 2),
  (120, o_vret)]
def S2_link : am_E := am_S K2_link 3
theorem hdd_2_link : yX2_link.cls ≠ "java/lang/invoke/MethodHandle" ∧ yX2_link.cls ≠ "java/lang/invoke/VarHandle" ∧ (parseMethodDescriptor yX2_link.desc).map (fun d => d.parameters.length) = some 0 := by decide +kernel
set_option maxRecDepth 100000 in
theorem snd_2_link : am_Sound yX2_link cX2_link 3 none 2 42 S2_link :=
  am_sound_of (own := RX2) (by decide) rfl <|
    fm_c (si_iconst dX2_link_0 rfl) <|
    fm_c (si_istoren dX2_link_1 rfl rfl) <|
    fm_c (si_iloadn dX2_link_2 rfl) <|
    fm_c (si_bipush dX2_link_3 rfl) <|
    fm_c (si_ic_ge dX2_link_5 rfl) <|
    fm_c (si_aloadn dX2_link_8 rfl) <|
    fm_c (si_iloadn dX2_link_9 rfl) <|
    fm_c (si_callv (C := RX2) (T := TX2) (N := 3) snd_2_isPlace rfl dX2_link_10 tw_413 tw_414 tw_415 tw_67 tw_416 hdd_2_isPlace ⟨rfl, rfl⟩) <|
    fm_c (si_if_eq dX2_link_13 rfl) <|
    fm_c (si_aloadn dX2_link_16 rfl) <|
    fm_c (si_dup dX2_link_17) <|
    fm_c (si_getf (C := RX2) (T := TX2) (N := 3) dX2_link_18 rfl inC_2 rfl tw_126) <|
    fm_c (si_iconst dX2_link_21 rfl) <|
    fm_c (si_iadd dX2_link_22) <|
    fm_c (si_putI (C := RX2) (T := TX2) (N := 3) dX2_link_23 rfl inC_2 tyX2 tyX2_ok nmX2 rfl tw_126 rfl (tyX2_ok 2 (by decide))) <|
    fm_c (si_iloadn dX2_link_26 rfl) <|
    fm_c (si_iconst dX2_link_27 rfl) <|
    fm_c (si_imul dX2_link_28) <|
    fm_c (si_istoren dX2_link_29 rfl rfl) <|
    fm_c (si_aloadn dX2_link_30 rfl) <|
    fm_c (si_getf (C := RX2) (T := TX2) (N := 3) dX2_link_31 rfl inC_2 rfl tw_125) <|
    fm_c (si_iloadn dX2_link_34 rfl) <|
    fm_c (si_aloadn dX2_link_35 rfl) <|
    fm_c (si_iloadn dX2_link_36 rfl) <|
    fm_c (si_bipush dX2_link_37 rfl) <|
    fm_c (si_isub dX2_link_39) <|
    fm_c (si_callv (C := RX2) (T := TX2) (N := 3) snd_2_placeOrNone rfl dX2_link_40 tw_417 tw_419 tw_4 tw_67 tw_420 hdd_2_placeOrNone ⟨rfl, rfl⟩) <|
    fm_c (si_iast dX2_link_43) <|
    fm_c (si_aloadn dX2_link_44 rfl) <|
    fm_c (si_getf (C := RX2) (T := TX2) (N := 3) dX2_link_45 rfl inC_2 rfl tw_125) <|
    fm_c (si_iloadn dX2_link_48 rfl) <|
    fm_c (si_iconst dX2_link_49 rfl) <|
    fm_c (si_iadd dX2_link_50) <|
    fm_c (si_iloadn dX2_link_51 rfl) <|
    fm_c (si_bipush dX2_link_52 rfl) <|
    fm_c (si_irem dX2_link_54) <|
    fm_c (si_bipush dX2_link_55 rfl) <|
    fm_c (si_ic_ne dX2_link_57 rfl) <|
    fm_c (si_iconst dX2_link_60 rfl) <|
    fm_c (si_goto dX2_link_61 rfl) <|
    fm_c (si_aloadn dX2_link_64 rfl) <|
    fm_c (si_iloadn dX2_link_65 rfl) <|
    fm_c (si_iconst dX2_link_66 rfl) <|
    fm_c (si_iadd dX2_link_67) <|
    fm_c (si_callv (C := RX2) (T := TX2) (N := 3) snd_2_placeOrNone rfl dX2_link_68 tw_417 tw_419 tw_4 tw_67 tw_420 hdd_2_placeOrNone ⟨rfl, rfl⟩) <|
    fm_c (si_iast dX2_link_71) <|
    fm_c (si_aloadn dX2_link_72 rfl) <|
    fm_c (si_getf (C := RX2) (T := TX2) (N := 3) dX2_link_73 rfl inC_2 rfl tw_125) <|
    fm_c (si_iloadn dX2_link_76 rfl) <|
    fm_c (si_iconst dX2_link_77 rfl) <|
    fm_c (si_iadd dX2_link_78) <|
    fm_c (si_aloadn dX2_link_79 rfl) <|
    fm_c (si_iloadn dX2_link_80 rfl) <|
    fm_c (si_bipush dX2_link_81 rfl) <|
    fm_c (si_iadd dX2_link_83) <|
    fm_c (si_callv (C := RX2) (T := TX2) (N := 3) snd_2_placeOrNone rfl dX2_link_84 tw_417 tw_419 tw_4 tw_67 tw_420 hdd_2_placeOrNone ⟨rfl, rfl⟩) <|
    fm_c (si_iast dX2_link_87) <|
    fm_c (si_aloadn dX2_link_88 rfl) <|
    fm_c (si_getf (C := RX2) (T := TX2) (N := 3) dX2_link_89 rfl inC_2 rfl tw_125) <|
    fm_c (si_iloadn dX2_link_92 rfl) <|
    fm_c (si_iconst dX2_link_93 rfl) <|
    fm_c (si_iadd dX2_link_94) <|
    fm_c (si_iloadn dX2_link_95 rfl) <|
    fm_c (si_bipush dX2_link_96 rfl) <|
    fm_c (si_irem dX2_link_98) <|
    fm_c (si_if_ne dX2_link_99 rfl) <|
    fm_c (si_iconst dX2_link_102 rfl) <|
    fm_c (si_goto dX2_link_103 rfl) <|
    fm_c (si_aloadn dX2_link_106 rfl) <|
    fm_c (si_iloadn dX2_link_107 rfl) <|
    fm_c (si_iconst dX2_link_108 rfl) <|
    fm_c (si_isub dX2_link_109) <|
    fm_c (si_callv (C := RX2) (T := TX2) (N := 3) snd_2_placeOrNone rfl dX2_link_110 tw_417 tw_419 tw_4 tw_67 tw_420 hdd_2_placeOrNone ⟨rfl, rfl⟩) <|
    fm_c (si_iast dX2_link_113) <|
    fm_c (si_iinc dX2_link_114 rfl rfl) <|
    fm_c (si_goto dX2_link_117 rfl) <|
    fm_c (si_vret rfl dX2_link_120) <|
    fun _ h => absurd h List.not_mem_nil
def K2_takeText : List (Nat × am_O) := [(0, o_aload 0 1),
  (1, o_getf 2 0 4),
  (4, o_push (aI (-1)) 5),
  (5, o_call SJ_fillI 2 true 8),
  (8, o_aload 0 9),
  (9, o_getf 2 1 12),
  (12, o_push (aI (-1)) 13),
  (13, o_call SJ_fillI 2 true 16),
  (16, o_aload 0 17),
  (17, o_push (aI 0) 18),
  (18, o_putI 2 2 21),
  (21, o_aload 0 22),
  (22, o_aload 1 23),
  (23, o_callv S2_layRows 2 1 false 26),
  (26, o_istore 2 27),
  (27, o_iload 2 28),
  (28, o_push (aI (-1)) 29),
  (29, o_ic (fun a b => ¬ a = b) 39 32),
  (32, o_aload 0 33),
  (33, o_callv S2_link 2 0 true 36),
  (36, o_goto 47),
  (39, o_aload 0 40),
  (40, o_getf 2 0 43),
  (43, o_push (aI (-1)) 44),
  (44, o_call SJ_fillI 2 true 47),
  (47, o_iload 2 48),
  (48, o_iret)]
def S2_takeText : am_E := am_S K2_takeText 3
theorem hdd_2_takeText : yX2_takeText.cls ≠ "java/lang/invoke/MethodHandle" ∧ yX2_takeText.cls ≠ "java/lang/invoke/VarHandle" ∧ (parseMethodDescriptor yX2_takeText.desc).map (fun d => d.parameters.length) = some 1 := by decide +kernel
set_option maxRecDepth 100000 in
theorem snd_2_takeText : am_Sound yX2_takeText cX2_takeText 3 (some .int) 3 64 S2_takeText :=
  am_sound_of (own := RX2) (by decide) rfl <|
    fm_c (si_aloadn dX2_takeText_0 rfl) <|
    fm_c (si_getf (C := RX2) (T := TX2) (N := 3) dX2_takeText_1 rfl inC_2 rfl tw_124) <|
    fm_c (si_iconst dX2_takeText_4 rfl) <|
    fm_c (si_call snd_J_fillI dX2_takeText_5 tw_121 tw_122 tw_68 tw_123 hdd_J_fillI ⟨rfl, rfl⟩) <|
    fm_c (si_aloadn dX2_takeText_8 rfl) <|
    fm_c (si_getf (C := RX2) (T := TX2) (N := 3) dX2_takeText_9 rfl inC_2 rfl tw_125) <|
    fm_c (si_iconst dX2_takeText_12 rfl) <|
    fm_c (si_call snd_J_fillI dX2_takeText_13 tw_121 tw_122 tw_68 tw_123 hdd_J_fillI ⟨rfl, rfl⟩) <|
    fm_c (si_aloadn dX2_takeText_16 rfl) <|
    fm_c (si_iconst dX2_takeText_17 rfl) <|
    fm_c (si_putI (C := RX2) (T := TX2) (N := 3) dX2_takeText_18 rfl inC_2 tyX2 tyX2_ok nmX2 rfl tw_126 rfl (tyX2_ok 2 (by decide))) <|
    fm_c (si_aloadn dX2_takeText_21 rfl) <|
    fm_c (si_aloadn dX2_takeText_22 rfl) <|
    fm_c (si_callv (C := RX2) (T := TX2) (N := 3) snd_2_layRows rfl dX2_takeText_23 tw_401 tw_403 tw_2 tw_67 tw_404 hdd_2_layRows ⟨rfl, rfl⟩) <|
    fm_c (si_istoren dX2_takeText_26 rfl rfl) <|
    fm_c (si_iloadn dX2_takeText_27 rfl) <|
    fm_c (si_iconst dX2_takeText_28 rfl) <|
    fm_c (si_ic_ne dX2_takeText_29 rfl) <|
    fm_c (si_aloadn dX2_takeText_32 rfl) <|
    fm_c (si_callv (C := RX2) (T := TX2) (N := 3) snd_2_link rfl dX2_takeText_33 tw_409 tw_411 tw_3 tw_67 tw_412 hdd_2_link ⟨rfl, rfl⟩) <|
    fm_c (si_goto dX2_takeText_36 rfl) <|
    fm_c (si_aloadn dX2_takeText_39 rfl) <|
    fm_c (si_getf (C := RX2) (T := TX2) (N := 3) dX2_takeText_40 rfl inC_2 rfl tw_124) <|
    fm_c (si_iconst dX2_takeText_43 rfl) <|
    fm_c (si_call snd_J_fillI dX2_takeText_44 tw_121 tw_122 tw_68 tw_123 hdd_J_fillI ⟨rfl, rfl⟩) <|
    fm_c (si_iloadn dX2_takeText_47 rfl) <|
    fm_c (si_iret rfl dX2_takeText_48) <|
    fun _ h => absurd h List.not_mem_nil
def K3_takeText : List (Nat × am_O) := [(0, o_push (aI 0) 1),
  (1, o_istore 2 2),
  (2, o_aload 0 3),
  (3, o_push (aI 0) 4),
  (4, o_putI 3 4 7),
  (7, o_push (aI 0) 8),
  (8, o_istore 3 9),
  (9, o_iload 3 10),
  (10, o_aload 1 11),
  (11, o_getf 9 2 14),
  (14, o_ic (fun a b => b ≤ a) 72 17),
  (17, o_aload 1 18),
  (18, o_iload 3 19),
  (19, o_callv S9_byteAt 9 1 false 22),
  (22, o_push (aI 97) 24),
  (24, o_bin (fun a b => w32 (a - b)) 25),
  (25, o_istore 4 27),
  (27, o_iload 4 29),
  (29, o_call S3_isPerson 1 false 32),
  (32, o_if (fun a => a = 0) 49 35),
  (35, o_iload 2 36),
  (36, o_iload 4 38),
  (38, o_sh am_shr 39),
  (39, o_push (aI 1) 40),
  (40, o_bin am_and 41),
  (41, o_if (fun a => ¬ a = 0) 49 44),
  (44, o_iload 3 45),
  (45, o_push (aI 5) 46),
  (46, o_ic (fun a b => a < b) 51 49),
  (49, o_iload 3 50),
  (50, o_iret),
  (51, o_iload 2 52),
  (52, o_push (aI 1) 53),
  (53, o_iload 4 55),
  (55, o_sh am_shl 56),
  (56, o_bin am_or 57),
  (57, o_istore 2 58),
  (58, o_aload 0 59),
  (59, o_getf 3 3 62),
  (62, o_iload 3 63),
  (63, o_iload 4 65),
  (65, o_iast 66),
  (66, o_iinc 3 1 69),
  (69, o_goto 9),
  (72, o_aload 0 73),
  (73, o_aload 1 74),
  (74, o_getf 9 2 77),
  (77, o_putI 3 4 80),
  (80, o_push (aI (-1)) 81),
  (81, o_iret)]
def S3_takeText : am_E := am_S K3_takeText 5
theorem hdd_3_takeText : yX3_takeText.cls ≠ "java/lang/invoke/MethodHandle" ∧ yX3_takeText.cls ≠ "java/lang/invoke/VarHandle" ∧ (parseMethodDescriptor yX3_takeText.desc).map (fun d => d.parameters.length) = some 1 := by decide +kernel
set_option maxRecDepth 100000 in
theorem snd_3_takeText : am_Sound yX3_takeText cX3_takeText 5 (some .int) 1 21 S3_takeText :=
  am_sound_of (own := RX3) (by decide) rfl <|
    fm_c (si_iconst dX3_takeText_0 rfl) <|
    fm_c (si_istoren dX3_takeText_1 rfl rfl) <|
    fm_c (si_aloadn dX3_takeText_2 rfl) <|
    fm_c (si_iconst dX3_takeText_3 rfl) <|
    fm_c (si_putI (C := RX3) (T := TX3) (N := 5) dX3_takeText_4 rfl inC_3 tyX3 tyX3_ok nmX3 rfl tw_180 rfl (tyX3_ok 4 (by decide))) <|
    fm_c (si_iconst dX3_takeText_7 rfl) <|
    fm_c (si_istoren dX3_takeText_8 rfl rfl) <|
    fm_c (si_iloadn dX3_takeText_9 rfl) <|
    fm_c (si_aloadn dX3_takeText_10 rfl) <|
    fm_c (si_getf (C := RX9) (T := TX9) (N := 4) dX3_takeText_11 rfl inC_9 rfl tw_101) <|
    fm_c (si_ic_ge dX3_takeText_14 rfl) <|
    fm_c (si_aloadn dX3_takeText_17 rfl) <|
    fm_c (si_iloadn dX3_takeText_18 rfl) <|
    fm_c (si_callv (C := RX9) (T := TX9) (N := 4) snd_9_byteAt rfl dX3_takeText_19 tw_433 tw_406 tw_407 tw_66 tw_408 hdd_9_byteAt ⟨rfl, rfl⟩) <|
    fm_c (si_bipush dX3_takeText_22 rfl) <|
    fm_c (si_isub dX3_takeText_24) <|
    fm_c (si_istore dX3_takeText_25 rfl) <|
    fm_c (si_iload dX3_takeText_27) <|
    fm_c (si_call snd_3_isPerson dX3_takeText_29 tw_434 tw_435 tw_71 tw_436 hdd_3_isPerson ⟨rfl, rfl⟩) <|
    fm_c (si_if_eq dX3_takeText_32 rfl) <|
    fm_c (si_iloadn dX3_takeText_35 rfl) <|
    fm_c (si_iload dX3_takeText_36) <|
    fm_c (si_ishr dX3_takeText_38) <|
    fm_c (si_iconst dX3_takeText_39 rfl) <|
    fm_c (si_iand dX3_takeText_40) <|
    fm_c (si_if_ne dX3_takeText_41 rfl) <|
    fm_c (si_iloadn dX3_takeText_44 rfl) <|
    fm_c (si_iconst dX3_takeText_45 rfl) <|
    fm_c (si_ic_lt dX3_takeText_46 rfl) <|
    fm_c (si_iloadn dX3_takeText_49 rfl) <|
    fm_c (si_iret rfl dX3_takeText_50) <|
    fm_c (si_iloadn dX3_takeText_51 rfl) <|
    fm_c (si_iconst dX3_takeText_52 rfl) <|
    fm_c (si_iload dX3_takeText_53) <|
    fm_c (si_ishl dX3_takeText_55) <|
    fm_c (si_ior dX3_takeText_56) <|
    fm_c (si_istoren dX3_takeText_57 rfl rfl) <|
    fm_c (si_aloadn dX3_takeText_58 rfl) <|
    fm_c (si_getf (C := RX3) (T := TX3) (N := 5) dX3_takeText_59 rfl inC_3 rfl tw_179) <|
    fm_c (si_iloadn dX3_takeText_62 rfl) <|
    fm_c (si_iload dX3_takeText_63) <|
    fm_c (si_iast dX3_takeText_65) <|
    fm_c (si_iinc dX3_takeText_66 rfl rfl) <|
    fm_c (si_goto dX3_takeText_69 rfl) <|
    fm_c (si_aloadn dX3_takeText_72 rfl) <|
    fm_c (si_aloadn dX3_takeText_73 rfl) <|
    fm_c (si_getf (C := RX9) (T := TX9) (N := 4) dX3_takeText_74 rfl inC_9 rfl tw_101) <|
    fm_c (si_putI (C := RX3) (T := TX3) (N := 5) dX3_takeText_77 rfl inC_3 tyX3 tyX3_ok nmX3 rfl tw_180 rfl (tyX3_ok 4 (by decide))) <|
    fm_c (si_iconst dX3_takeText_80 rfl) <|
    fm_c (si_iret rfl dX3_takeText_81) <|
    fun _ h => absurd h List.not_mem_nil
def K11_reread : List (Nat × am_O) := [(0, o_iload 1 1),
  (1, o_if (fun a => ¬ a = 0) 36 4),
  (4, o_aload 0 5),
  (5, o_getf 11 0 8),
  (8, o_aload 0 9),
  (9, o_getf 11 3 12),
  (12, o_aload 0 13),
  (13, o_getf 11 0 16),
  (16, o_callv S2_takeText 2 1 false 19),
  (19, o_putI 9 3 22),
  (22, o_aload 0 23),
  (23, o_getf 11 7 26),
  (26, o_aload 0 27),
  (27, o_getf 11 3 30),
  (30, o_callv S10_retrace 10 1 true 33),
  (33, o_goto 91),
  (36, o_iload 1 37),
  (37, o_push (aI 1) 38),
  (38, o_ic (fun a b => ¬ a = b) 62 41),
  (41, o_aload 0 42),
  (42, o_getf 11 1 45),
  (45, o_aload 0 46),
  (46, o_getf 11 6 49),
  (49, o_aload 0 50),
  (50, o_getf 11 1 53),
  (53, o_callv S3_takeText 3 1 false 56),
  (56, o_putI 9 3 59),
  (59, o_goto 91),
  (62, o_aload 0 63),
  (63, o_getf 11 2 66),
  (66, o_aload 0 67),
  (67, o_getf 11 7 70),
  (70, o_aload 0 71),
  (71, o_getf 11 2 74),
  (74, o_callv S10_takeText 10 1 false 77),
  (77, o_putI 9 3 80),
  (80, o_aload 0 81),
  (81, o_getf 11 7 84),
  (84, o_aload 0 85),
  (85, o_getf 11 3 88),
  (88, o_callv S10_retrace 10 1 true 91),
  (91, o_vret)]
def S11_reread : am_E := am_S K11_reread 2
theorem hdd_11_reread : yX11_reread.cls ≠ "java/lang/invoke/MethodHandle" ∧ yX11_reread.cls ≠ "java/lang/invoke/VarHandle" ∧ (parseMethodDescriptor yX11_reread.desc).map (fun d => d.parameters.length) = some 1 := by decide +kernel
set_option maxRecDepth 100000 in
theorem snd_11_reread : am_Sound yX11_reread cX11_reread 2 none 4 86 S11_reread :=
  am_sound_of (own := RX11) (by decide) rfl <|
    fm_c (si_iloadn dX11_reread_0 rfl) <|
    fm_c (si_if_ne dX11_reread_1 rfl) <|
    fm_c (si_aloadn dX11_reread_4 rfl) <|
    fm_c (si_getf (C := RX11) (T := TX11) (N := 17) dX11_reread_5 rfl inC_11 rfl tw_325) <|
    fm_c (si_aloadn dX11_reread_8 rfl) <|
    fm_c (si_getf (C := RX11) (T := TX11) (N := 17) dX11_reread_9 rfl inC_11 rfl tw_328) <|
    fm_c (si_aloadn dX11_reread_12 rfl) <|
    fm_c (si_getf (C := RX11) (T := TX11) (N := 17) dX11_reread_13 rfl inC_11 rfl tw_325) <|
    fm_c (si_callv (C := RX2) (T := TX2) (N := 3) snd_2_takeText rfl dX11_reread_16 tw_397 tw_398 tw_399 tw_67 tw_400 hdd_2_takeText ⟨rfl, rfl⟩) <|
    fm_c (si_putI (C := RX9) (T := TX9) (N := 4) dX11_reread_19 rfl inC_9 tyX9 tyX9_ok nmX9 rfl tw_104 rfl (tyX9_ok 3 (by decide))) <|
    fm_c (si_aloadn dX11_reread_22 rfl) <|
    fm_c (si_getf (C := RX11) (T := TX11) (N := 17) dX11_reread_23 rfl inC_11 rfl tw_332) <|
    fm_c (si_aloadn dX11_reread_26 rfl) <|
    fm_c (si_getf (C := RX11) (T := TX11) (N := 17) dX11_reread_27 rfl inC_11 rfl tw_328) <|
    fm_c (si_callv (C := RX10) (T := TX10) (N := 5) snd_10_retrace rfl dX11_reread_30 tw_421 tw_422 tw_423 tw_72 tw_424 hdd_10_retrace ⟨rfl, rfl⟩) <|
    fm_c (si_goto dX11_reread_33 rfl) <|
    fm_c (si_iloadn dX11_reread_36 rfl) <|
    fm_c (si_iconst dX11_reread_37 rfl) <|
    fm_c (si_ic_ne dX11_reread_38 rfl) <|
    fm_c (si_aloadn dX11_reread_41 rfl) <|
    fm_c (si_getf (C := RX11) (T := TX11) (N := 17) dX11_reread_42 rfl inC_11 rfl tw_326) <|
    fm_c (si_aloadn dX11_reread_45 rfl) <|
    fm_c (si_getf (C := RX11) (T := TX11) (N := 17) dX11_reread_46 rfl inC_11 rfl tw_331) <|
    fm_c (si_aloadn dX11_reread_49 rfl) <|
    fm_c (si_getf (C := RX11) (T := TX11) (N := 17) dX11_reread_50 rfl inC_11 rfl tw_326) <|
    fm_c (si_callv (C := RX3) (T := TX3) (N := 5) snd_3_takeText rfl dX11_reread_53 tw_429 tw_430 tw_431 tw_71 tw_432 hdd_3_takeText ⟨rfl, rfl⟩) <|
    fm_c (si_putI (C := RX9) (T := TX9) (N := 4) dX11_reread_56 rfl inC_9 tyX9 tyX9_ok nmX9 rfl tw_104 rfl (tyX9_ok 3 (by decide))) <|
    fm_c (si_goto dX11_reread_59 rfl) <|
    fm_c (si_aloadn dX11_reread_62 rfl) <|
    fm_c (si_getf (C := RX11) (T := TX11) (N := 17) dX11_reread_63 rfl inC_11 rfl tw_327) <|
    fm_c (si_aloadn dX11_reread_66 rfl) <|
    fm_c (si_getf (C := RX11) (T := TX11) (N := 17) dX11_reread_67 rfl inC_11 rfl tw_332) <|
    fm_c (si_aloadn dX11_reread_70 rfl) <|
    fm_c (si_getf (C := RX11) (T := TX11) (N := 17) dX11_reread_71 rfl inC_11 rfl tw_327) <|
    fm_c (si_callv (C := RX10) (T := TX10) (N := 5) snd_10_takeText rfl dX11_reread_74 tw_437 tw_438 tw_439 tw_72 tw_440 hdd_10_takeText ⟨rfl, rfl⟩) <|
    fm_c (si_putI (C := RX9) (T := TX9) (N := 4) dX11_reread_77 rfl inC_9 tyX9 tyX9_ok nmX9 rfl tw_104 rfl (tyX9_ok 3 (by decide))) <|
    fm_c (si_aloadn dX11_reread_80 rfl) <|
    fm_c (si_getf (C := RX11) (T := TX11) (N := 17) dX11_reread_81 rfl inC_11 rfl tw_332) <|
    fm_c (si_aloadn dX11_reread_84 rfl) <|
    fm_c (si_getf (C := RX11) (T := TX11) (N := 17) dX11_reread_85 rfl inC_11 rfl tw_328) <|
    fm_c (si_callv (C := RX10) (T := TX10) (N := 5) snd_10_retrace rfl dX11_reread_88 tw_421 tw_422 tw_423 tw_72 tw_424 hdd_10_retrace ⟨rfl, rfl⟩) <|
    fm_c (si_vret rfl dX11_reread_91) <|
    fun _ h => absurd h List.not_mem_nil
def K11_set : List (Nat × am_O) := [(0, o_iload 1 1),
  (1, o_if (fun a => a < 0) 28 4),
  (4, o_iload 1 5),
  (5, o_push (aI 2) 6),
  (6, o_ic (fun a b => b < a) 28 9),
  (9, o_iload 2 10),
  (10, o_if (fun a => a < 0) 28 13),
  (13, o_iload 2 14),
  (14, o_iload 1 15),
  (15, o_push (aI 2) 16),
  (16, o_ic (fun a b => ¬ a = b) 23 19),
  (19, o_push (aI 2) 20),
  (20, o_goto 25),
  (23, o_push (aI 63) 25),
  (25, o_ic (fun a b => a ≤ b) 31 28),
  (28, o_push (aI (-2)) 30),
  (30, o_iret),
  (31, o_iload 1 32),
  (32, o_if (fun a => ¬ a = 0) 65 35),
  (35, o_aload 0 36),
  (36, o_getf 11 7 39),
  (39, o_getf 10 2 42),
  (42, o_istore 3 43),
  (43, o_aload 0 44),
  (44, o_getf 11 7 47),
  (47, o_iload 2 48),
  (48, o_putI 10 2 51),
  (51, o_aload 0 52),
  (52, o_getf 11 7 55),
  (55, o_aload 0 56),
  (56, o_getf 11 3 59),
  (59, o_callv S10_retrace 10 1 true 62),
  (62, o_goto 93),
  (65, o_iload 1 66),
  (66, o_push (aI 1) 67),
  (67, o_ic (fun a b => ¬ a = b) 83 70),
  (70, o_aload 0 71),
  (71, o_getf 11 14 74),
  (74, o_istore 3 75),
  (75, o_aload 0 76),
  (76, o_iload 2 77),
  (77, o_putI 11 14 80),
  (80, o_goto 93),
  (83, o_aload 0 84),
  (84, o_getf 11 15 87),
  (87, o_istore 3 88),
  (88, o_aload 0 89),
  (89, o_iload 2 90),
  (90, o_putI 11 15 93),
  (93, o_iload 3 94),
  (94, o_iret)]
def S11_set : am_E := am_S K11_set 4
theorem hdd_11_set : yX11_set.cls ≠ "java/lang/invoke/MethodHandle" ∧ yX11_set.cls ≠ "java/lang/invoke/VarHandle" ∧ (parseMethodDescriptor yX11_set.desc).map (fun d => d.parameters.length) = some 2 := by decide +kernel
set_option maxRecDepth 100000 in
theorem snd_11_set : am_Sound yX11_set cX11_set 4 (some .int) 2 46 S11_set :=
  am_sound_of (own := RX11) (by decide) rfl <|
    fm_c (si_iloadn dX11_set_0 rfl) <|
    fm_c (si_if_lt dX11_set_1 rfl) <|
    fm_c (si_iloadn dX11_set_4 rfl) <|
    fm_c (si_iconst dX11_set_5 rfl) <|
    fm_c (si_ic_gt dX11_set_6 rfl) <|
    fm_c (si_iloadn dX11_set_9 rfl) <|
    fm_c (si_if_lt dX11_set_10 rfl) <|
    fm_c (si_iloadn dX11_set_13 rfl) <|
    fm_c (si_iloadn dX11_set_14 rfl) <|
    fm_c (si_iconst dX11_set_15 rfl) <|
    fm_c (si_ic_ne dX11_set_16 rfl) <|
    fm_c (si_iconst dX11_set_19 rfl) <|
    fm_c (si_goto dX11_set_20 rfl) <|
    fm_c (si_bipush dX11_set_23 rfl) <|
    fm_c (si_ic_le dX11_set_25 rfl) <|
    fm_c (si_bipush dX11_set_28 rfl) <|
    fm_c (si_iret rfl dX11_set_30) <|
    fm_c (si_iloadn dX11_set_31 rfl) <|
    fm_c (si_if_ne dX11_set_32 rfl) <|
    fm_c (si_aloadn dX11_set_35 rfl) <|
    fm_c (si_getf (C := RX11) (T := TX11) (N := 17) dX11_set_36 rfl inC_11 rfl tw_332) <|
    fm_c (si_getf (C := RX10) (T := TX10) (N := 5) dX11_set_39 rfl inC_10 rfl tw_202) <|
    fm_c (si_istoren dX11_set_42 rfl rfl) <|
    fm_c (si_aloadn dX11_set_43 rfl) <|
    fm_c (si_getf (C := RX11) (T := TX11) (N := 17) dX11_set_44 rfl inC_11 rfl tw_332) <|
    fm_c (si_iloadn dX11_set_47 rfl) <|
    fm_c (si_putI (C := RX10) (T := TX10) (N := 5) dX11_set_48 rfl inC_10 tyX10 tyX10_ok nmX10 rfl tw_202 rfl (tyX10_ok 2 (by decide))) <|
    fm_c (si_aloadn dX11_set_51 rfl) <|
    fm_c (si_getf (C := RX11) (T := TX11) (N := 17) dX11_set_52 rfl inC_11 rfl tw_332) <|
    fm_c (si_aloadn dX11_set_55 rfl) <|
    fm_c (si_getf (C := RX11) (T := TX11) (N := 17) dX11_set_56 rfl inC_11 rfl tw_328) <|
    fm_c (si_callv (C := RX10) (T := TX10) (N := 5) snd_10_retrace rfl dX11_set_59 tw_421 tw_422 tw_423 tw_72 tw_424 hdd_10_retrace ⟨rfl, rfl⟩) <|
    fm_c (si_goto dX11_set_62 rfl) <|
    fm_c (si_iloadn dX11_set_65 rfl) <|
    fm_c (si_iconst dX11_set_66 rfl) <|
    fm_c (si_ic_ne dX11_set_67 rfl) <|
    fm_c (si_aloadn dX11_set_70 rfl) <|
    fm_c (si_getf (C := RX11) (T := TX11) (N := 17) dX11_set_71 rfl inC_11 rfl tw_339) <|
    fm_c (si_istoren dX11_set_74 rfl rfl) <|
    fm_c (si_aloadn dX11_set_75 rfl) <|
    fm_c (si_iloadn dX11_set_76 rfl) <|
    fm_c (si_putI (C := RX11) (T := TX11) (N := 17) dX11_set_77 rfl inC_11 tyX11 tyX11_ok nmX11 rfl tw_339 rfl (tyX11_ok 14 (by decide))) <|
    fm_c (si_goto dX11_set_80 rfl) <|
    fm_c (si_aloadn dX11_set_83 rfl) <|
    fm_c (si_getf (C := RX11) (T := TX11) (N := 17) dX11_set_84 rfl inC_11 rfl tw_340) <|
    fm_c (si_istoren dX11_set_87 rfl rfl) <|
    fm_c (si_aloadn dX11_set_88 rfl) <|
    fm_c (si_iloadn dX11_set_89 rfl) <|
    fm_c (si_putI (C := RX11) (T := TX11) (N := 17) dX11_set_90 rfl inC_11 tyX11 tyX11_ok nmX11 rfl tw_340 rfl (tyX11_ok 15 (by decide))) <|
    fm_c (si_iloadn dX11_set_93 rfl) <|
    fm_c (si_iret rfl dX11_set_94) <|
    fun _ h => absurd h List.not_mem_nil
def K7_renew : List (Nat × am_O) := [(0, o_aload 0 1),
  (1, o_getf 7 0 4),
  (4, o_push (aI 0) 5),
  (5, o_call SJ_fillI 2 true 8),
  (8, o_aload 0 9),
  (9, o_iload 1 10),
  (10, o_putI 7 1 13),
  (13, o_aload 0 14),
  (14, o_iload 2 15),
  (15, o_push (aI 64) 17),
  (17, o_min 20),
  (20, o_putI 7 2 23),
  (23, o_vret)]
def S7_renew : am_E := am_S K7_renew 3
theorem hdd_7_renew : yX7_renew.cls ≠ "java/lang/invoke/MethodHandle" ∧ yX7_renew.cls ≠ "java/lang/invoke/VarHandle" ∧ (parseMethodDescriptor yX7_renew.desc).map (fun d => d.parameters.length) = some 2 := by decide +kernel
set_option maxRecDepth 100000 in
theorem snd_7_renew : am_Sound yX7_renew cX7_renew 3 none 1 23 S7_renew :=
  am_sound_of (own := RX7) (by decide) rfl <|
    fm_c (si_aloadn dX7_renew_0 rfl) <|
    fm_c (si_getf (C := RX7) (T := TX7) (N := 3) dX7_renew_1 rfl inC_7 rfl tw_312) <|
    fm_c (si_iconst dX7_renew_4 rfl) <|
    fm_c (si_call snd_J_fillI dX7_renew_5 tw_862 tw_122 tw_68 tw_123 hdd_J_fillI ⟨rfl, rfl⟩) <|
    fm_c (si_aloadn dX7_renew_8 rfl) <|
    fm_c (si_iloadn dX7_renew_9 rfl) <|
    fm_c (si_putI (C := RX7) (T := TX7) (N := 3) dX7_renew_10 rfl inC_7 tyX7 tyX7_ok nmX7 rfl tw_314 rfl (tyX7_ok 1 (by decide))) <|
    fm_c (si_aloadn dX7_renew_13 rfl) <|
    fm_c (si_iloadn dX7_renew_14 rfl) <|
    fm_c (si_bipush dX7_renew_15 rfl) <|
    fm_c (si_min dX7_renew_17 tw_863 tw_864 tw_79 tw_865 ⟨rfl, rfl⟩) <|
    fm_c (si_putI (C := RX7) (T := TX7) (N := 3) dX7_renew_20 rfl inC_7 tyX7 tyX7_ok nmX7 rfl tw_316 rfl (tyX7_ok 2 (by decide))) <|
    fm_c (si_vret rfl dX7_renew_23) <|
    fun _ h => absurd h List.not_mem_nil
def K11_sheet : List (Nat × am_O) := [(0, o_aload 0 1),
  (1, o_iload 1 2),
  (2, o_callv S11_sheetOf 11 1 false 5),
  (5, o_astore 4 7),
  (7, o_aload 4 9),
  (9, o_nul 25 12),
  (12, o_iload 2 13),
  (13, o_call S11_isForm 1 false 16),
  (16, o_if (fun a => a = 0) 25 19),
  (19, o_iload 3 20),
  (20, o_push (aI 64) 22),
  (22, o_ic (fun a b => a ≤ b) 28 25),
  (25, o_push (aI (-2)) 27),
  (27, o_iret),
  (28, o_iload 3 29),
  (29, o_if (fun a => 0 ≤ a) 38 32),
  (32, o_aload 0 33),
  (33, o_push (aI 5) 34),
  (34, o_callv S11_found 11 1 false 37),
  (37, o_iret),
  (38, o_aload 4 40),
  (40, o_iload 2 41),
  (41, o_iload 3 42),
  (42, o_callv S7_renew 7 2 true 45),
  (45, o_iload 3 46),
  (46, o_iret)]
def S11_sheet : am_E := am_S K11_sheet 5
theorem hdd_11_sheet : yX11_sheet.cls ≠ "java/lang/invoke/MethodHandle" ∧ yX11_sheet.cls ≠ "java/lang/invoke/VarHandle" ∧ (parseMethodDescriptor yX11_sheet.desc).map (fun d => d.parameters.length) = some 3 := by decide +kernel
set_option maxRecDepth 100000 in
theorem snd_11_sheet : am_Sound yX11_sheet cX11_sheet 5 (some .int) 2 45 S11_sheet :=
  am_sound_of (own := RX11) (by decide) rfl <|
    fm_c (si_aloadn dX11_sheet_0 rfl) <|
    fm_c (si_iloadn dX11_sheet_1 rfl) <|
    fm_c (si_callv (C := RX11) (T := TX11) (N := 17) snd_11_sheetOf rfl dX11_sheet_2 tw_488 tw_490 tw_5 tw_65 tw_491 hdd_11_sheetOf ⟨rfl, rfl⟩) <|
    fm_c (si_astore dX11_sheet_5 rfl) <|
    fm_c (si_aload dX11_sheet_7) <|
    fm_c (si_ifnull dX11_sheet_9 rfl) <|
    fm_c (si_iloadn dX11_sheet_12 rfl) <|
    fm_c (si_call snd_11_isForm dX11_sheet_13 tw_855 tw_856 tw_65 tw_857 hdd_11_isForm ⟨rfl, rfl⟩) <|
    fm_c (si_if_eq dX11_sheet_16 rfl) <|
    fm_c (si_iloadn dX11_sheet_19 rfl) <|
    fm_c (si_bipush dX11_sheet_20 rfl) <|
    fm_c (si_ic_le dX11_sheet_22 rfl) <|
    fm_c (si_bipush dX11_sheet_25 rfl) <|
    fm_c (si_iret rfl dX11_sheet_27) <|
    fm_c (si_iloadn dX11_sheet_28 rfl) <|
    fm_c (si_if_ge dX11_sheet_29 rfl) <|
    fm_c (si_aloadn dX11_sheet_32 rfl) <|
    fm_c (si_iconst dX11_sheet_33 rfl) <|
    fm_c (si_callv (C := RX11) (T := TX11) (N := 17) snd_11_found rfl dX11_sheet_34 tw_496 tw_498 tw_6 tw_65 tw_499 hdd_11_found ⟨rfl, rfl⟩) <|
    fm_c (si_iret rfl dX11_sheet_37) <|
    fm_c (si_aload dX11_sheet_38) <|
    fm_c (si_iloadn dX11_sheet_40 rfl) <|
    fm_c (si_iloadn dX11_sheet_41 rfl) <|
    fm_c (si_callv (C := RX7) (T := TX7) (N := 3) snd_7_renew rfl dX11_sheet_42 tw_858 tw_859 tw_860 tw_77 tw_861 hdd_7_renew ⟨rfl, rfl⟩) <|
    fm_c (si_iloadn dX11_sheet_45 rfl) <|
    fm_c (si_iret rfl dX11_sheet_46) <|
    fun _ h => absurd h List.not_mem_nil
def K9_isFull : List (Nat × am_O) := [(0, o_aload 0 1),
  (1, o_getf 9 2 4),
  (4, o_aload 0 5),
  (5, o_getf 9 0 8),
  (8, o_ic (fun a b => b ≤ a) 20 11),
  (11, o_aload 0 12),
  (12, o_getf 9 2 15),
  (15, o_push (aI 71) 17),
  (17, o_ic (fun a b => a < b) 24 20),
  (20, o_push (aI 1) 21),
  (21, o_goto 25),
  (24, o_push (aI 0) 25),
  (25, o_zret)]
def S9_isFull : am_E := am_S K9_isFull 1
theorem hdd_9_isFull : yX9_isFull.cls ≠ "java/lang/invoke/MethodHandle" ∧ yX9_isFull.cls ≠ "java/lang/invoke/VarHandle" ∧ (parseMethodDescriptor yX9_isFull.desc).map (fun d => d.parameters.length) = some 0 := by decide +kernel
set_option maxRecDepth 100000 in
theorem snd_9_isFull : am_Sound yX9_isFull cX9_isFull 1 (some .boolean) 0 0 S9_isFull :=
  am_sound_of (own := RX9) (by decide) rfl <|
    fm_c (si_aloadn dX9_isFull_0 rfl) <|
    fm_c (si_getf (C := RX9) (T := TX9) (N := 4) dX9_isFull_1 rfl inC_9 rfl tw_98) <|
    fm_c (si_aloadn dX9_isFull_4 rfl) <|
    fm_c (si_getf (C := RX9) (T := TX9) (N := 4) dX9_isFull_5 rfl inC_9 rfl tw_96) <|
    fm_c (si_ic_ge dX9_isFull_8 rfl) <|
    fm_c (si_aloadn dX9_isFull_11 rfl) <|
    fm_c (si_getf (C := RX9) (T := TX9) (N := 4) dX9_isFull_12 rfl inC_9 rfl tw_98) <|
    fm_c (si_bipush dX9_isFull_15 rfl) <|
    fm_c (si_ic_lt dX9_isFull_17 rfl) <|
    fm_c (si_iconst dX9_isFull_20 rfl) <|
    fm_c (si_goto dX9_isFull_21 rfl) <|
    fm_c (si_iconst dX9_isFull_24 rfl) <|
    fm_c (si_zret rfl dX9_isFull_25) <|
    fun _ h => absurd h List.not_mem_nil
def K9_append : List (Nat × am_O) := [(0, o_aload 0 1),
  (1, o_getf 9 2 4),
  (4, o_if (fun a => a < 0) 36 7),
  (7, o_aload 0 8),
  (8, o_getf 9 2 11),
  (11, o_push (aI 71) 13),
  (13, o_ic (fun a b => b ≤ a) 36 16),
  (16, o_aload 0 17),
  (17, o_getf 9 1 20),
  (20, o_aload 0 21),
  (21, o_getf 9 2 24),
  (24, o_iload 1 25),
  (25, o_iast 26),
  (26, o_aload 0 27),
  (27, o_dup 28),
  (28, o_getf 9 2 31),
  (31, o_push (aI 1) 32),
  (32, o_bin (fun a b => w32 (a + b)) 33),
  (33, o_putI 9 2 36),
  (36, o_vret)]
def S9_append : am_E := am_S K9_append 2
theorem hdd_9_append : yX9_append.cls ≠ "java/lang/invoke/MethodHandle" ∧ yX9_append.cls ≠ "java/lang/invoke/VarHandle" ∧ (parseMethodDescriptor yX9_append.desc).map (fun d => d.parameters.length) = some 1 := by decide +kernel
set_option maxRecDepth 100000 in
theorem snd_9_append : am_Sound yX9_append cX9_append 2 none 0 0 S9_append :=
  am_sound_of (own := RX9) (by decide) rfl <|
    fm_c (si_aloadn dX9_append_0 rfl) <|
    fm_c (si_getf (C := RX9) (T := TX9) (N := 4) dX9_append_1 rfl inC_9 rfl tw_98) <|
    fm_c (si_if_lt dX9_append_4 rfl) <|
    fm_c (si_aloadn dX9_append_7 rfl) <|
    fm_c (si_getf (C := RX9) (T := TX9) (N := 4) dX9_append_8 rfl inC_9 rfl tw_98) <|
    fm_c (si_bipush dX9_append_11 rfl) <|
    fm_c (si_ic_ge dX9_append_13 rfl) <|
    fm_c (si_aloadn dX9_append_16 rfl) <|
    fm_c (si_getf (C := RX9) (T := TX9) (N := 4) dX9_append_17 rfl inC_9 rfl tw_97) <|
    fm_c (si_aloadn dX9_append_20 rfl) <|
    fm_c (si_getf (C := RX9) (T := TX9) (N := 4) dX9_append_21 rfl inC_9 rfl tw_98) <|
    fm_c (si_iloadn dX9_append_24 rfl) <|
    fm_c (si_iast dX9_append_25) <|
    fm_c (si_aloadn dX9_append_26 rfl) <|
    fm_c (si_dup dX9_append_27) <|
    fm_c (si_getf (C := RX9) (T := TX9) (N := 4) dX9_append_28 rfl inC_9 rfl tw_98) <|
    fm_c (si_iconst dX9_append_31 rfl) <|
    fm_c (si_iadd dX9_append_32) <|
    fm_c (si_putI (C := RX9) (T := TX9) (N := 4) dX9_append_33 rfl inC_9 tyX9 tyX9_ok nmX9 rfl tw_98 rfl (tyX9_ok 2 (by decide))) <|
    fm_c (si_vret rfl dX9_append_36) <|
    fun _ h => absurd h List.not_mem_nil
def K11_type : List (Nat × am_O) := [(0, o_aload 0 1),
  (1, o_iload 1 2),
  (2, o_callv S11_textOf 11 1 false 5),
  (5, o_astore 3 6),
  (6, o_aload 3 7),
  (7, o_nul 21 10),
  (10, o_iload 2 11),
  (11, o_if (fun a => a < 0) 21 14),
  (14, o_iload 2 15),
  (15, o_push (aI 255) 18),
  (18, o_ic (fun a b => a ≤ b) 24 21),
  (21, o_push (aI (-2)) 23),
  (23, o_iret),
  (24, o_aload 3 25),
  (25, o_callv S9_isFull 9 0 false 28),
  (28, o_if (fun a => a = 0) 34 31),
  (31, o_push (aI (-4)) 33),
  (33, o_iret),
  (34, o_aload 3 35),
  (35, o_iload 2 36),
  (36, o_callv S9_append 9 1 true 39),
  (39, o_aload 0 40),
  (40, o_iload 1 41),
  (41, o_callv S11_reread 11 1 true 44),
  (44, o_aload 3 45),
  (45, o_getf 9 2 48),
  (48, o_iret)]
def S11_type : am_E := am_S K11_type 4
theorem hdd_11_type : yX11_type.cls ≠ "java/lang/invoke/MethodHandle" ∧ yX11_type.cls ≠ "java/lang/invoke/VarHandle" ∧ (parseMethodDescriptor yX11_type.desc).map (fun d => d.parameters.length) = some 2 := by decide +kernel
set_option maxRecDepth 100000 in
theorem snd_11_type : am_Sound yX11_type cX11_type 4 (some .int) 5 107 S11_type :=
  am_sound_of (own := RX11) (by decide) rfl <|
    fm_c (si_aloadn dX11_type_0 rfl) <|
    fm_c (si_iloadn dX11_type_1 rfl) <|
    fm_c (si_callv (C := RX11) (T := TX11) (N := 17) snd_11_textOf rfl dX11_type_2 tw_381 tw_383 tw_0 tw_65 tw_384 hdd_11_textOf ⟨rfl, rfl⟩) <|
    fm_c (si_astoren dX11_type_5 rfl rfl) <|
    fm_c (si_aloadn dX11_type_6 rfl) <|
    fm_c (si_ifnull dX11_type_7 rfl) <|
    fm_c (si_iloadn dX11_type_10 rfl) <|
    fm_c (si_if_lt dX11_type_11 rfl) <|
    fm_c (si_iloadn dX11_type_14 rfl) <|
    fm_c (si_sipush dX11_type_15 rfl) <|
    fm_c (si_ic_le dX11_type_18 rfl) <|
    fm_c (si_bipush dX11_type_21 rfl) <|
    fm_c (si_iret rfl dX11_type_23) <|
    fm_c (si_aloadn dX11_type_24 rfl) <|
    fm_c (si_callv (C := RX9) (T := TX9) (N := 4) snd_9_isFull rfl dX11_type_25 tw_385 tw_386 tw_387 tw_66 tw_388 hdd_9_isFull ⟨rfl, rfl⟩) <|
    fm_c (si_if_eq dX11_type_28 rfl) <|
    fm_c (si_bipush dX11_type_31 rfl) <|
    fm_c (si_iret rfl dX11_type_33) <|
    fm_c (si_aloadn dX11_type_34 rfl) <|
    fm_c (si_iloadn dX11_type_35 rfl) <|
    fm_c (si_callv (C := RX9) (T := TX9) (N := 4) snd_9_append rfl dX11_type_36 tw_389 tw_390 tw_391 tw_66 tw_392 hdd_9_append ⟨rfl, rfl⟩) <|
    fm_c (si_aloadn dX11_type_39 rfl) <|
    fm_c (si_iloadn dX11_type_40 rfl) <|
    fm_c (si_callv (C := RX11) (T := TX11) (N := 17) snd_11_reread rfl dX11_type_41 tw_393 tw_395 tw_1 tw_65 tw_396 hdd_11_reread ⟨rfl, rfl⟩) <|
    fm_c (si_aloadn dX11_type_44 rfl) <|
    fm_c (si_getf (C := RX9) (T := TX9) (N := 4) dX11_type_45 rfl inC_9 rfl tw_100) <|
    fm_c (si_iret rfl dX11_type_48) <|
    fun _ h => absurd h List.not_mem_nil
def K11_undo : List (Nat × am_O) := [(0, o_aload 0 1),
  (1, o_iload 1 2),
  (2, o_callv S11_textOf 11 1 false 5),
  (5, o_astore 2 6),
  (6, o_aload 2 7),
  (7, o_nul 10 13),
  (10, o_push (aI (-2)) 12),
  (12, o_iret),
  (13, o_aload 2 14),
  (14, o_getf 9 2 17),
  (17, o_if (fun a => 0 < a) 23 20),
  (20, o_push (aI (-3)) 22),
  (22, o_iret),
  (23, o_aload 2 24),
  (24, o_dup 25),
  (25, o_getf 9 2 28),
  (28, o_push (aI 1) 29),
  (29, o_bin (fun a b => w32 (a - b)) 30),
  (30, o_putI 9 2 33),
  (33, o_aload 0 34),
  (34, o_iload 1 35),
  (35, o_callv S11_reread 11 1 true 38),
  (38, o_aload 2 39),
  (39, o_getf 9 2 42),
  (42, o_iret)]
def S11_undo : am_E := am_S K11_undo 3
theorem hdd_11_undo : yX11_undo.cls ≠ "java/lang/invoke/MethodHandle" ∧ yX11_undo.cls ≠ "java/lang/invoke/VarHandle" ∧ (parseMethodDescriptor yX11_undo.desc).map (fun d => d.parameters.length) = some 1 := by decide +kernel
set_option maxRecDepth 100000 in
theorem snd_11_undo : am_Sound yX11_undo cX11_undo 3 (some .int) 5 107 S11_undo :=
  am_sound_of (own := RX11) (by decide) rfl <|
    fm_c (si_aloadn dX11_undo_0 rfl) <|
    fm_c (si_iloadn dX11_undo_1 rfl) <|
    fm_c (si_callv (C := RX11) (T := TX11) (N := 17) snd_11_textOf rfl dX11_undo_2 tw_381 tw_383 tw_0 tw_65 tw_384 hdd_11_textOf ⟨rfl, rfl⟩) <|
    fm_c (si_astoren dX11_undo_5 rfl rfl) <|
    fm_c (si_aloadn dX11_undo_6 rfl) <|
    fm_c (si_ifnonnull dX11_undo_7 rfl) <|
    fm_c (si_bipush dX11_undo_10 rfl) <|
    fm_c (si_iret rfl dX11_undo_12) <|
    fm_c (si_aloadn dX11_undo_13 rfl) <|
    fm_c (si_getf (C := RX9) (T := TX9) (N := 4) dX11_undo_14 rfl inC_9 rfl tw_100) <|
    fm_c (si_if_gt dX11_undo_17 rfl) <|
    fm_c (si_bipush dX11_undo_20 rfl) <|
    fm_c (si_iret rfl dX11_undo_22) <|
    fm_c (si_aloadn dX11_undo_23 rfl) <|
    fm_c (si_dup dX11_undo_24) <|
    fm_c (si_getf (C := RX9) (T := TX9) (N := 4) dX11_undo_25 rfl inC_9 rfl tw_100) <|
    fm_c (si_iconst dX11_undo_28 rfl) <|
    fm_c (si_isub dX11_undo_29) <|
    fm_c (si_putI (C := RX9) (T := TX9) (N := 4) dX11_undo_30 rfl inC_9 tyX9 tyX9_ok nmX9 rfl tw_100 rfl (tyX9_ok 2 (by decide))) <|
    fm_c (si_aloadn dX11_undo_33 rfl) <|
    fm_c (si_iloadn dX11_undo_34 rfl) <|
    fm_c (si_callv (C := RX11) (T := TX11) (N := 17) snd_11_reread rfl dX11_undo_35 tw_393 tw_395 tw_1 tw_65 tw_396 hdd_11_reread ⟨rfl, rfl⟩) <|
    fm_c (si_aloadn dX11_undo_38 rfl) <|
    fm_c (si_getf (C := RX9) (T := TX9) (N := 4) dX11_undo_39 rfl inC_9 rfl tw_100) <|
    fm_c (si_iret rfl dX11_undo_42) <|
    fun _ h => absurd h List.not_mem_nil
def K11_wipe : List (Nat × am_O) := [(0, o_aload 0 1),
  (1, o_iload 1 2),
  (2, o_callv S11_textOf 11 1 false 5),
  (5, o_astore 2 6),
  (6, o_aload 2 7),
  (7, o_nul 10 13),
  (10, o_push (aI (-2)) 12),
  (12, o_iret),
  (13, o_aload 2 14),
  (14, o_getf 9 2 17),
  (17, o_istore 3 18),
  (18, o_aload 2 19),
  (19, o_push (aI 0) 20),
  (20, o_putI 9 2 23),
  (23, o_aload 0 24),
  (24, o_iload 1 25),
  (25, o_callv S11_reread 11 1 true 28),
  (28, o_iload 3 29),
  (29, o_iret)]
def S11_wipe : am_E := am_S K11_wipe 4
theorem hdd_11_wipe : yX11_wipe.cls ≠ "java/lang/invoke/MethodHandle" ∧ yX11_wipe.cls ≠ "java/lang/invoke/VarHandle" ∧ (parseMethodDescriptor yX11_wipe.desc).map (fun d => d.parameters.length) = some 1 := by decide +kernel
set_option maxRecDepth 100000 in
theorem snd_11_wipe : am_Sound yX11_wipe cX11_wipe 4 (some .int) 5 107 S11_wipe :=
  am_sound_of (own := RX11) (by decide) rfl <|
    fm_c (si_aloadn dX11_wipe_0 rfl) <|
    fm_c (si_iloadn dX11_wipe_1 rfl) <|
    fm_c (si_callv (C := RX11) (T := TX11) (N := 17) snd_11_textOf rfl dX11_wipe_2 tw_381 tw_383 tw_0 tw_65 tw_384 hdd_11_textOf ⟨rfl, rfl⟩) <|
    fm_c (si_astoren dX11_wipe_5 rfl rfl) <|
    fm_c (si_aloadn dX11_wipe_6 rfl) <|
    fm_c (si_ifnonnull dX11_wipe_7 rfl) <|
    fm_c (si_bipush dX11_wipe_10 rfl) <|
    fm_c (si_iret rfl dX11_wipe_12) <|
    fm_c (si_aloadn dX11_wipe_13 rfl) <|
    fm_c (si_getf (C := RX9) (T := TX9) (N := 4) dX11_wipe_14 rfl inC_9 rfl tw_100) <|
    fm_c (si_istoren dX11_wipe_17 rfl rfl) <|
    fm_c (si_aloadn dX11_wipe_18 rfl) <|
    fm_c (si_iconst dX11_wipe_19 rfl) <|
    fm_c (si_putI (C := RX9) (T := TX9) (N := 4) dX11_wipe_20 rfl inC_9 tyX9 tyX9_ok nmX9 rfl tw_100 rfl (tyX9_ok 2 (by decide))) <|
    fm_c (si_aloadn dX11_wipe_23 rfl) <|
    fm_c (si_iloadn dX11_wipe_24 rfl) <|
    fm_c (si_callv (C := RX11) (T := TX11) (N := 17) snd_11_reread rfl dX11_wipe_25 tw_393 tw_395 tw_1 tw_65 tw_396 hdd_11_reread ⟨rfl, rfl⟩) <|
    fm_c (si_iloadn dX11_wipe_28 rfl) <|
    fm_c (si_iret rfl dX11_wipe_29) <|
    fun _ h => absurd h List.not_mem_nil
def K11_write : List (Nat × am_O) := [(0, o_aload 0 1),
  (1, o_iload 2 2),
  (2, o_callv S11_sheetOf 11 1 false 5),
  (5, o_astore 3 6),
  (6, o_aload 0 7),
  (7, o_getf 11 3 10),
  (10, o_iload 1 11),
  (11, o_callv S2_isPlace 2 1 false 14),
  (14, o_if (fun a => a = 0) 21 17),
  (17, o_aload 3 18),
  (18, o_nul 21 24),
  (21, o_push (aI (-2)) 23),
  (23, o_iret),
  (24, o_aload 3 25),
  (25, o_callv S7_isLost 7 0 false 28),
  (28, o_if (fun a => a = 0) 37 31),
  (31, o_aload 0 32),
  (32, o_push (aI 1) 33),
  (33, o_callv S11_found 11 1 false 36),
  (36, o_iret),
  (37, o_aload 0 38),
  (38, o_getf 11 4 41),
  (41, o_iload 1 42),
  (42, o_callv S0_measureFrom 0 1 true 45),
  (45, o_push (aI 0) 46),
  (46, o_istore 4 48),
  (48, o_iload 4 50),
  (50, o_aload 3 51),
  (51, o_getf 7 2 54),
  (54, o_ic (fun a b => b ≤ a) 78 57),
  (57, o_aload 3 58),
  (58, o_iload 4 60),
  (60, o_aload 0 61),
  (61, o_getf 11 4 64),
  (64, o_iload 4 66),
  (66, o_callv S0_stepsTo 0 1 false 69),
  (69, o_callv S7_putItem 7 2 true 72),
  (72, o_iinc 4 1 75),
  (75, o_goto 48),
  (78, o_aload 3 79),
  (79, o_getf 7 2 82),
  (82, o_iret)]
def S11_write : am_E := am_S K11_write 5
theorem hdd_11_write : yX11_write.cls ≠ "java/lang/invoke/MethodHandle" ∧ yX11_write.cls ≠ "java/lang/invoke/VarHandle" ∧ (parseMethodDescriptor yX11_write.desc).map (fun d => d.parameters.length) = some 2 := by decide +kernel
set_option maxRecDepth 100000 in
theorem snd_11_write : am_Sound yX11_write cX11_write 5 (some .int) 2 49 S11_write :=
  am_sound_of (own := RX11) (by decide) rfl <|
    fm_c (si_aloadn dX11_write_0 rfl) <|
    fm_c (si_iloadn dX11_write_1 rfl) <|
    fm_c (si_callv (C := RX11) (T := TX11) (N := 17) snd_11_sheetOf rfl dX11_write_2 tw_488 tw_490 tw_5 tw_65 tw_491 hdd_11_sheetOf ⟨rfl, rfl⟩) <|
    fm_c (si_astoren dX11_write_5 rfl rfl) <|
    fm_c (si_aloadn dX11_write_6 rfl) <|
    fm_c (si_getf (C := RX11) (T := TX11) (N := 17) dX11_write_7 rfl inC_11 rfl tw_328) <|
    fm_c (si_iloadn dX11_write_10 rfl) <|
    fm_c (si_callv (C := RX2) (T := TX2) (N := 3) snd_2_isPlace rfl dX11_write_11 tw_513 tw_414 tw_415 tw_67 tw_416 hdd_2_isPlace ⟨rfl, rfl⟩) <|
    fm_c (si_if_eq dX11_write_14 rfl) <|
    fm_c (si_aloadn dX11_write_17 rfl) <|
    fm_c (si_ifnonnull dX11_write_18 rfl) <|
    fm_c (si_bipush dX11_write_21 rfl) <|
    fm_c (si_iret rfl dX11_write_23) <|
    fm_c (si_aloadn dX11_write_24 rfl) <|
    fm_c (si_callv (C := RX7) (T := TX7) (N := 3) snd_7_isLost rfl dX11_write_25 tw_492 tw_493 tw_494 tw_77 tw_495 hdd_7_isLost ⟨rfl, rfl⟩) <|
    fm_c (si_if_eq dX11_write_28 rfl) <|
    fm_c (si_aloadn dX11_write_31 rfl) <|
    fm_c (si_iconst dX11_write_32 rfl) <|
    fm_c (si_callv (C := RX11) (T := TX11) (N := 17) snd_11_found rfl dX11_write_33 tw_496 tw_498 tw_6 tw_65 tw_499 hdd_11_found ⟨rfl, rfl⟩) <|
    fm_c (si_iret rfl dX11_write_36) <|
    fm_c (si_aloadn dX11_write_37 rfl) <|
    fm_c (si_getf (C := RX11) (T := TX11) (N := 17) dX11_write_38 rfl inC_11 rfl tw_329) <|
    fm_c (si_iloadn dX11_write_41 rfl) <|
    fm_c (si_callv (C := RX0) (T := TX0) (N := 3) snd_0_measureFrom rfl dX11_write_42 tw_534 tw_535 tw_536 tw_69 tw_537 hdd_0_measureFrom ⟨rfl, rfl⟩) <|
    fm_c (si_iconst dX11_write_45 rfl) <|
    fm_c (si_istore dX11_write_46 rfl) <|
    fm_c (si_iload dX11_write_48) <|
    fm_c (si_aloadn dX11_write_50 rfl) <|
    fm_c (si_getf (C := RX7) (T := TX7) (N := 3) dX11_write_51 rfl inC_7 rfl tw_317) <|
    fm_c (si_ic_ge dX11_write_54 rfl) <|
    fm_c (si_aloadn dX11_write_57 rfl) <|
    fm_c (si_iload dX11_write_58) <|
    fm_c (si_aloadn dX11_write_60 rfl) <|
    fm_c (si_getf (C := RX11) (T := TX11) (N := 17) dX11_write_61 rfl inC_11 rfl tw_329) <|
    fm_c (si_iload dX11_write_64) <|
    fm_c (si_callv (C := RX0) (T := TX0) (N := 3) snd_0_stepsTo rfl dX11_write_66 tw_541 tw_542 tw_543 tw_69 tw_544 hdd_0_stepsTo ⟨rfl, rfl⟩) <|
    fm_c (si_callv (C := RX7) (T := TX7) (N := 3) snd_7_putItem rfl dX11_write_69 tw_883 tw_884 tw_885 tw_77 tw_886 hdd_7_putItem ⟨rfl, rfl⟩) <|
    fm_c (si_iinc dX11_write_72 rfl rfl) <|
    fm_c (si_goto dX11_write_75 rfl) <|
    fm_c (si_aloadn dX11_write_78 rfl) <|
    fm_c (si_getf (C := RX7) (T := TX7) (N := 3) dX11_write_79 rfl inC_7 rfl tw_317) <|
    fm_c (si_iret rfl dX11_write_82) <|
    fun _ h => absurd h List.not_mem_nil
def K12_clears : List (Nat × am_O) := [(0, o_push (aI 0) 1),
  (1, o_istore 1 2),
  (2, o_iload 1 3),
  (3, o_push (aI 64) 5),
  (5, o_ic (fun a b => b ≤ a) 22 8),
  (8, o_aload 0 9),
  (9, o_getf 12 8 12),
  (12, o_iload 1 13),
  (13, o_push (aI 99) 15),
  (15, o_iast 16),
  (16, o_iinc 1 1 19),
  (19, o_goto 2),
  (22, o_vret)]
def S12_clears : am_E := am_S K12_clears 2
theorem hdd_12_clears : yX12_clears.cls ≠ "java/lang/invoke/MethodHandle" ∧ yX12_clears.cls ≠ "java/lang/invoke/VarHandle" ∧ (parseMethodDescriptor yX12_clears.desc).map (fun d => d.parameters.length) = some 0 := by decide +kernel
set_option maxRecDepth 100000 in
theorem snd_12_clears : am_Sound yX12_clears cX12_clears 2 none 0 0 S12_clears :=
  am_sound_of (own := RX12) (by decide) rfl <|
    fm_c (si_iconst dX12_clears_0 rfl) <|
    fm_c (si_istoren dX12_clears_1 rfl rfl) <|
    fm_c (si_iloadn dX12_clears_2 rfl) <|
    fm_c (si_bipush dX12_clears_3 rfl) <|
    fm_c (si_ic_ge dX12_clears_5 rfl) <|
    fm_c (si_aloadn dX12_clears_8 rfl) <|
    fm_c (si_getf (C := RX12) (T := TX12) (N := 34) dX12_clears_9 rfl inC_12 rfl tw_965) <|
    fm_c (si_iloadn dX12_clears_12 rfl) <|
    fm_c (si_bipush dX12_clears_13 rfl) <|
    fm_c (si_iast dX12_clears_15) <|
    fm_c (si_iinc dX12_clears_16 rfl rfl) <|
    fm_c (si_goto dX12_clears_19 rfl) <|
    fm_c (si_vret rfl dX12_clears_22) <|
    fun _ h => absurd h List.not_mem_nil
def K12_here : List (Nat × am_O) := [(0, o_aload 0 1),
  (1, o_getf 12 7 4),
  (4, o_aload 0 5),
  (5, o_getf 12 6 8),
  (8, o_iload 1 9),
  (9, o_iald 10),
  (10, o_ic (fun a b => b ≤ a) 30 13),
  (13, o_aload 0 14),
  (14, o_getf 12 5 17),
  (17, o_push (aI 80) 19),
  (19, o_iload 1 20),
  (20, o_bin (fun a b => w32 (a * b)) 21),
  (21, o_aload 0 22),
  (22, o_getf 12 7 25),
  (25, o_bin (fun a b => w32 (a + b)) 26),
  (26, o_iald 27),
  (27, o_goto 31),
  (30, o_push (aI (-1)) 31),
  (31, o_iret)]
def S12_here : am_E := am_S K12_here 2
theorem hdd_12_here : yX12_here.cls ≠ "java/lang/invoke/MethodHandle" ∧ yX12_here.cls ≠ "java/lang/invoke/VarHandle" ∧ (parseMethodDescriptor yX12_here.desc).map (fun d => d.parameters.length) = some 1 := by decide +kernel
set_option maxRecDepth 100000 in
theorem snd_12_here : am_Sound yX12_here cX12_here 2 (some .int) 0 0 S12_here :=
  am_sound_of (own := RX12) (by decide) rfl <|
    fm_c (si_aloadn dX12_here_0 rfl) <|
    fm_c (si_getf (C := RX12) (T := TX12) (N := 34) dX12_here_1 rfl inC_12 rfl tw_964) <|
    fm_c (si_aloadn dX12_here_4 rfl) <|
    fm_c (si_getf (C := RX12) (T := TX12) (N := 34) dX12_here_5 rfl inC_12 rfl tw_963) <|
    fm_c (si_iloadn dX12_here_8 rfl) <|
    fm_c (si_iald dX12_here_9) <|
    fm_c (si_ic_ge dX12_here_10 rfl) <|
    fm_c (si_aloadn dX12_here_13 rfl) <|
    fm_c (si_getf (C := RX12) (T := TX12) (N := 34) dX12_here_14 rfl inC_12 rfl tw_962) <|
    fm_c (si_bipush dX12_here_17 rfl) <|
    fm_c (si_iloadn dX12_here_19 rfl) <|
    fm_c (si_imul dX12_here_20) <|
    fm_c (si_aloadn dX12_here_21 rfl) <|
    fm_c (si_getf (C := RX12) (T := TX12) (N := 34) dX12_here_22 rfl inC_12 rfl tw_964) <|
    fm_c (si_iadd dX12_here_25) <|
    fm_c (si_iald dX12_here_26) <|
    fm_c (si_goto dX12_here_27 rfl) <|
    fm_c (si_iconst dX12_here_30 rfl) <|
    fm_c (si_iret rfl dX12_here_31) <|
    fun _ h => absurd h List.not_mem_nil
def K12_in : List (Nat × am_O) := [(0, o_lload 0 1),
  (1, o_lload 2 2),
  (2, o_lcmp 3),
  (3, o_if (fun a => a < 0) 17 6),
  (6, o_lload 0 7),
  (7, o_lload 4 9),
  (9, o_lcmp 10),
  (10, o_if (fun a => 0 < a) 17 13),
  (13, o_push (aI 1) 14),
  (14, o_goto 18),
  (17, o_push (aI 0) 18),
  (18, o_zret)]
def S12_in : am_E := am_S K12_in 6
theorem hdd_12_in : yX12_in.cls ≠ "java/lang/invoke/MethodHandle" ∧ yX12_in.cls ≠ "java/lang/invoke/VarHandle" ∧ (parseMethodDescriptor yX12_in.desc).map (fun d => d.parameters.length) = some 3 := by decide +kernel
set_option maxRecDepth 100000 in
theorem snd_12_in : am_Sound yX12_in cX12_in 6 (some .boolean) 0 0 S12_in :=
  am_sound_of (own := RX12) (by decide) rfl <|
    fm_c (si_lloadn dX12_in_0 rfl) <|
    fm_c (si_lloadn dX12_in_1 rfl) <|
    fm_c (si_lcmp dX12_in_2) <|
    fm_c (si_if_lt dX12_in_3 rfl) <|
    fm_c (si_lloadn dX12_in_6 rfl) <|
    fm_c (si_lload dX12_in_7) <|
    fm_c (si_lcmp dX12_in_9) <|
    fm_c (si_if_gt dX12_in_10 rfl) <|
    fm_c (si_iconst dX12_in_13 rfl) <|
    fm_c (si_goto dX12_in_14 rfl) <|
    fm_c (si_iconst dX12_in_17 rfl) <|
    fm_c (si_zret rfl dX12_in_18) <|
    fun _ h => absurd h List.not_mem_nil
def K12_readsRow : List (Nat × am_O) := [(0, o_push (aI 0) 1),
  (1, o_istore 3 2),
  (2, o_aload 0 3),
  (3, o_getf 12 7 6),
  (6, o_aload 0 7),
  (7, o_getf 12 6 10),
  (10, o_push (aI 0) 11),
  (11, o_iald 12),
  (12, o_ic (fun a b => b ≤ a) 118 15),
  (15, o_aload 0 16),
  (16, o_push (aI 0) 17),
  (17, o_callv S12_here 12 1 false 20),
  (20, o_push (aI 59) 22),
  (22, o_ic (fun a b => a = b) 118 25),
  (25, o_aload 0 26),
  (26, o_push (aI 0) 27),
  (27, o_callv S12_here 12 1 false 30),
  (30, o_istore 4 32),
  (32, o_iload 2 33),
  (33, o_if (fun a => ¬ a = 0) 41 36),
  (36, o_push (aI 8) 38),
  (38, o_goto 42),
  (41, o_iload 2 42),
  (42, o_istore 5 44),
  (44, o_iload 3 45),
  (45, o_iload 5 47),
  (47, o_ic (fun a b => a = b) 72 50),
  (50, o_iload 4 52),
  (52, o_push (aI 35) 54),
  (54, o_ic (fun a b => a = b) 74 57),
  (57, o_iload 4 59),
  (59, o_i2l 60),
  (60, o_push (aL 48) 63),
  (63, o_push (aL 57) 66),
  (66, o_call S12_in 3 false 69),
  (69, o_if (fun a => ¬ a = 0) 74 72),
  (72, o_push (aI (-1)) 73),
  (73, o_iret),
  (74, o_aload 0 75),
  (75, o_getf 12 8 78),
  (78, o_push (aI 8) 80),
  (80, o_iload 1 81),
  (81, o_bin (fun a b => w32 (a * b)) 82),
  (82, o_iload 3 83),
  (83, o_bin (fun a b => w32 (a + b)) 84),
  (84, o_iload 4 86),
  (86, o_push (aI 35) 88),
  (88, o_ic (fun a b => ¬ a = b) 96 91),
  (91, o_push (aI 99) 93),
  (93, o_goto 101),
  (96, o_iload 4 98),
  (98, o_push (aI 48) 100),
  (100, o_bin (fun a b => w32 (a - b)) 101),
  (101, o_iast 102),
  (102, o_iinc 3 1 105),
  (105, o_aload 0 106),
  (106, o_dup 107),
  (107, o_getf 12 7 110),
  (110, o_push (aI 1) 111),
  (111, o_bin (fun a b => w32 (a + b)) 112),
  (112, o_putI 12 7 115),
  (115, o_goto 2),
  (118, o_iload 3 119),
  (119, o_if (fun a => a = 0) 131 122),
  (122, o_iload 2 123),
  (123, o_if (fun a => a ≤ 0) 135 126),
  (126, o_iload 3 127),
  (127, o_iload 2 128),
  (128, o_ic (fun a b => b ≤ a) 135 131),
  (131, o_push (aI (-1)) 132),
  (132, o_goto 136),
  (135, o_iload 3 136),
  (136, o_iret)]
def S12_readsRow : am_E := am_S K12_readsRow 6
theorem hdd_12_readsRow : yX12_readsRow.cls ≠ "java/lang/invoke/MethodHandle" ∧ yX12_readsRow.cls ≠ "java/lang/invoke/VarHandle" ∧ (parseMethodDescriptor yX12_readsRow.desc).map (fun d => d.parameters.length) = some 2 := by decide +kernel
set_option maxRecDepth 100000 in
theorem snd_12_readsRow : am_Sound yX12_readsRow cX12_readsRow 6 (some .int) 1 25 S12_readsRow :=
  am_sound_of (own := RX12) (by decide) rfl <|
    fm_c (si_iconst dX12_readsRow_0 rfl) <|
    fm_c (si_istoren dX12_readsRow_1 rfl rfl) <|
    fm_c (si_aloadn dX12_readsRow_2 rfl) <|
    fm_c (si_getf (C := RX12) (T := TX12) (N := 34) dX12_readsRow_3 rfl inC_12 rfl tw_964) <|
    fm_c (si_aloadn dX12_readsRow_6 rfl) <|
    fm_c (si_getf (C := RX12) (T := TX12) (N := 34) dX12_readsRow_7 rfl inC_12 rfl tw_963) <|
    fm_c (si_iconst dX12_readsRow_10 rfl) <|
    fm_c (si_iald dX12_readsRow_11) <|
    fm_c (si_ic_ge dX12_readsRow_12 rfl) <|
    fm_c (si_aloadn dX12_readsRow_15 rfl) <|
    fm_c (si_iconst dX12_readsRow_16 rfl) <|
    fm_c (si_callv (C := RX12) (T := TX12) (N := 34) snd_12_here rfl dX12_readsRow_17 tw_1132 tw_1134 tw_32 tw_78 tw_1135 hdd_12_here ⟨rfl, rfl⟩) <|
    fm_c (si_bipush dX12_readsRow_20 rfl) <|
    fm_c (si_ic_eq dX12_readsRow_22 rfl) <|
    fm_c (si_aloadn dX12_readsRow_25 rfl) <|
    fm_c (si_iconst dX12_readsRow_26 rfl) <|
    fm_c (si_callv (C := RX12) (T := TX12) (N := 34) snd_12_here rfl dX12_readsRow_27 tw_1132 tw_1134 tw_32 tw_78 tw_1135 hdd_12_here ⟨rfl, rfl⟩) <|
    fm_c (si_istore dX12_readsRow_30 rfl) <|
    fm_c (si_iloadn dX12_readsRow_32 rfl) <|
    fm_c (si_if_ne dX12_readsRow_33 rfl) <|
    fm_c (si_bipush dX12_readsRow_36 rfl) <|
    fm_c (si_goto dX12_readsRow_38 rfl) <|
    fm_c (si_iloadn dX12_readsRow_41 rfl) <|
    fm_c (si_istore dX12_readsRow_42 rfl) <|
    fm_c (si_iloadn dX12_readsRow_44 rfl) <|
    fm_c (si_iload dX12_readsRow_45) <|
    fm_c (si_ic_eq dX12_readsRow_47 rfl) <|
    fm_c (si_iload dX12_readsRow_50) <|
    fm_c (si_bipush dX12_readsRow_52 rfl) <|
    fm_c (si_ic_eq dX12_readsRow_54 rfl) <|
    fm_c (si_iload dX12_readsRow_57) <|
    fm_c (si_i2l dX12_readsRow_59) <|
    fm_c (si_ldc2 dX12_readsRow_60 tw_1136 rfl) <|
    fm_c (si_ldc2 dX12_readsRow_63 tw_1137 rfl) <|
    fm_c (si_call snd_12_in dX12_readsRow_66 tw_1068 tw_1069 tw_78 tw_1070 hdd_12_in ⟨rfl, rfl⟩) <|
    fm_c (si_if_ne dX12_readsRow_69 rfl) <|
    fm_c (si_iconst dX12_readsRow_72 rfl) <|
    fm_c (si_iret rfl dX12_readsRow_73) <|
    fm_c (si_aloadn dX12_readsRow_74 rfl) <|
    fm_c (si_getf (C := RX12) (T := TX12) (N := 34) dX12_readsRow_75 rfl inC_12 rfl tw_965) <|
    fm_c (si_bipush dX12_readsRow_78 rfl) <|
    fm_c (si_iloadn dX12_readsRow_80 rfl) <|
    fm_c (si_imul dX12_readsRow_81) <|
    fm_c (si_iloadn dX12_readsRow_82 rfl) <|
    fm_c (si_iadd dX12_readsRow_83) <|
    fm_c (si_iload dX12_readsRow_84) <|
    fm_c (si_bipush dX12_readsRow_86 rfl) <|
    fm_c (si_ic_ne dX12_readsRow_88 rfl) <|
    fm_c (si_bipush dX12_readsRow_91 rfl) <|
    fm_c (si_goto dX12_readsRow_93 rfl) <|
    fm_c (si_iload dX12_readsRow_96) <|
    fm_c (si_bipush dX12_readsRow_98 rfl) <|
    fm_c (si_isub dX12_readsRow_100) <|
    fm_c (si_iast dX12_readsRow_101) <|
    fm_c (si_iinc dX12_readsRow_102 rfl rfl) <|
    fm_c (si_aloadn dX12_readsRow_105 rfl) <|
    fm_c (si_dup dX12_readsRow_106) <|
    fm_c (si_getf (C := RX12) (T := TX12) (N := 34) dX12_readsRow_107 rfl inC_12 rfl tw_964) <|
    fm_c (si_iconst dX12_readsRow_110 rfl) <|
    fm_c (si_iadd dX12_readsRow_111) <|
    fm_c (si_putI (C := RX12) (T := TX12) (N := 34) dX12_readsRow_112 rfl inC_12 tyX12 tyX12_ok nmX12 rfl tw_964 rfl (tyX12_ok 7 (by decide))) <|
    fm_c (si_goto dX12_readsRow_115 rfl) <|
    fm_c (si_iloadn dX12_readsRow_118 rfl) <|
    fm_c (si_if_eq dX12_readsRow_119 rfl) <|
    fm_c (si_iloadn dX12_readsRow_122 rfl) <|
    fm_c (si_if_le dX12_readsRow_123 rfl) <|
    fm_c (si_iloadn dX12_readsRow_126 rfl) <|
    fm_c (si_iloadn dX12_readsRow_127 rfl) <|
    fm_c (si_ic_ge dX12_readsRow_128 rfl) <|
    fm_c (si_iconst dX12_readsRow_131 rfl) <|
    fm_c (si_goto dX12_readsRow_132 rfl) <|
    fm_c (si_iloadn dX12_readsRow_135 rfl) <|
    fm_c (si_iret rfl dX12_readsRow_136) <|
    fun _ h => absurd h List.not_mem_nil
def K12_readsFair : List (Nat × am_O) := [(0, o_aload 0 1),
  (1, o_callv S12_clears 12 0 true 4),
  (4, o_aload 0 5),
  (5, o_push (aI 0) 6),
  (6, o_putI 12 7 9),
  (9, o_push (aI 0) 10),
  (10, o_istore 1 11),
  (11, o_push (aI 0) 12),
  (12, o_istore 2 13),
  (13, o_aload 0 14),
  (14, o_getf 12 6 17),
  (17, o_push (aI 0) 18),
  (18, o_iald 19),
  (19, o_if (fun a => a ≤ 0) 26 22),
  (22, o_push (aI 1) 23),
  (23, o_goto 27),
  (26, o_push (aI 0) 27),
  (27, o_istore 3 28),
  (28, o_iload 3 29),
  (29, o_if (fun a => a = 0) 111 32),
  (32, o_iload 1 33),
  (33, o_push (aI 8) 35),
  (35, o_ic (fun a b => ¬ a = b) 42 38),
  (38, o_push (aI (-1)) 39),
  (39, o_goto 48),
  (42, o_aload 0 43),
  (43, o_iload 1 44),
  (44, o_iload 2 45),
  (45, o_callv S12_readsRow 12 2 false 48),
  (48, o_istore 4 50),
  (50, o_iload 4 52),
  (52, o_push (aI (-1)) 53),
  (53, o_ic (fun a b => ¬ a = b) 65 56),
  (56, o_aload 0 57),
  (57, o_callv S12_clears 12 0 true 60),
  (60, o_aload 0 61),
  (61, o_getf 12 7 64),
  (64, o_iret),
  (65, o_iload 4 67),
  (67, o_istore 2 68),
  (68, o_iinc 1 1 71),
  (71, o_aload 0 72),
  (72, o_getf 12 7 75),
  (75, o_aload 0 76),
  (76, o_getf 12 6 79),
  (79, o_push (aI 0) 80),
  (80, o_iald 81),
  (81, o_ic (fun a b => b ≤ a) 88 84),
  (84, o_push (aI 1) 85),
  (85, o_goto 89),
  (88, o_push (aI 0) 89),
  (89, o_istore 3 90),
  (90, o_aload 0 91),
  (91, o_dup 92),
  (92, o_getf 12 7 95),
  (95, o_iload 3 96),
  (96, o_if (fun a => a = 0) 103 99),
  (99, o_push (aI 1) 100),
  (100, o_goto 104),
  (103, o_push (aI 0) 104),
  (104, o_bin (fun a b => w32 (a + b)) 105),
  (105, o_putI 12 7 108),
  (108, o_goto 28),
  (111, o_push (aI (-1)) 112),
  (112, o_iret)]
def S12_readsFair : am_E := am_S K12_readsFair 5
theorem hdd_12_readsFair : yX12_readsFair.cls ≠ "java/lang/invoke/MethodHandle" ∧ yX12_readsFair.cls ≠ "java/lang/invoke/VarHandle" ∧ (parseMethodDescriptor yX12_readsFair.desc).map (fun d => d.parameters.length) = some 0 := by decide +kernel
set_option maxRecDepth 100000 in
theorem snd_12_readsFair : am_Sound yX12_readsFair cX12_readsFair 5 (some .int) 2 50 S12_readsFair :=
  am_sound_of (own := RX12) (by decide) rfl <|
    fm_c (si_aloadn dX12_readsFair_0 rfl) <|
    fm_c (si_callv (C := RX12) (T := TX12) (N := 34) snd_12_clears rfl dX12_readsFair_1 tw_1124 tw_1126 tw_30 tw_78 tw_1127 hdd_12_clears ⟨rfl, rfl⟩) <|
    fm_c (si_aloadn dX12_readsFair_4 rfl) <|
    fm_c (si_iconst dX12_readsFair_5 rfl) <|
    fm_c (si_putI (C := RX12) (T := TX12) (N := 34) dX12_readsFair_6 rfl inC_12 tyX12 tyX12_ok nmX12 rfl tw_964 rfl (tyX12_ok 7 (by decide))) <|
    fm_c (si_iconst dX12_readsFair_9 rfl) <|
    fm_c (si_istoren dX12_readsFair_10 rfl rfl) <|
    fm_c (si_iconst dX12_readsFair_11 rfl) <|
    fm_c (si_istoren dX12_readsFair_12 rfl rfl) <|
    fm_c (si_aloadn dX12_readsFair_13 rfl) <|
    fm_c (si_getf (C := RX12) (T := TX12) (N := 34) dX12_readsFair_14 rfl inC_12 rfl tw_963) <|
    fm_c (si_iconst dX12_readsFair_17 rfl) <|
    fm_c (si_iald dX12_readsFair_18) <|
    fm_c (si_if_le dX12_readsFair_19 rfl) <|
    fm_c (si_iconst dX12_readsFair_22 rfl) <|
    fm_c (si_goto dX12_readsFair_23 rfl) <|
    fm_c (si_iconst dX12_readsFair_26 rfl) <|
    fm_c (si_istoren dX12_readsFair_27 rfl rfl) <|
    fm_c (si_iloadn dX12_readsFair_28 rfl) <|
    fm_c (si_if_eq dX12_readsFair_29 rfl) <|
    fm_c (si_iloadn dX12_readsFair_32 rfl) <|
    fm_c (si_bipush dX12_readsFair_33 rfl) <|
    fm_c (si_ic_ne dX12_readsFair_35 rfl) <|
    fm_c (si_iconst dX12_readsFair_38 rfl) <|
    fm_c (si_goto dX12_readsFair_39 rfl) <|
    fm_c (si_aloadn dX12_readsFair_42 rfl) <|
    fm_c (si_iloadn dX12_readsFair_43 rfl) <|
    fm_c (si_iloadn dX12_readsFair_44 rfl) <|
    fm_c (si_callv (C := RX12) (T := TX12) (N := 34) snd_12_readsRow rfl dX12_readsFair_45 tw_1128 tw_1130 tw_31 tw_78 tw_1131 hdd_12_readsRow ⟨rfl, rfl⟩) <|
    fm_c (si_istore dX12_readsFair_48 rfl) <|
    fm_c (si_iload dX12_readsFair_50) <|
    fm_c (si_iconst dX12_readsFair_52 rfl) <|
    fm_c (si_ic_ne dX12_readsFair_53 rfl) <|
    fm_c (si_aloadn dX12_readsFair_56 rfl) <|
    fm_c (si_callv (C := RX12) (T := TX12) (N := 34) snd_12_clears rfl dX12_readsFair_57 tw_1124 tw_1126 tw_30 tw_78 tw_1127 hdd_12_clears ⟨rfl, rfl⟩) <|
    fm_c (si_aloadn dX12_readsFair_60 rfl) <|
    fm_c (si_getf (C := RX12) (T := TX12) (N := 34) dX12_readsFair_61 rfl inC_12 rfl tw_964) <|
    fm_c (si_iret rfl dX12_readsFair_64) <|
    fm_c (si_iload dX12_readsFair_65) <|
    fm_c (si_istoren dX12_readsFair_67 rfl rfl) <|
    fm_c (si_iinc dX12_readsFair_68 rfl rfl) <|
    fm_c (si_aloadn dX12_readsFair_71 rfl) <|
    fm_c (si_getf (C := RX12) (T := TX12) (N := 34) dX12_readsFair_72 rfl inC_12 rfl tw_964) <|
    fm_c (si_aloadn dX12_readsFair_75 rfl) <|
    fm_c (si_getf (C := RX12) (T := TX12) (N := 34) dX12_readsFair_76 rfl inC_12 rfl tw_963) <|
    fm_c (si_iconst dX12_readsFair_79 rfl) <|
    fm_c (si_iald dX12_readsFair_80) <|
    fm_c (si_ic_ge dX12_readsFair_81 rfl) <|
    fm_c (si_iconst dX12_readsFair_84 rfl) <|
    fm_c (si_goto dX12_readsFair_85 rfl) <|
    fm_c (si_iconst dX12_readsFair_88 rfl) <|
    fm_c (si_istoren dX12_readsFair_89 rfl rfl) <|
    fm_c (si_aloadn dX12_readsFair_90 rfl) <|
    fm_c (si_dup dX12_readsFair_91) <|
    fm_c (si_getf (C := RX12) (T := TX12) (N := 34) dX12_readsFair_92 rfl inC_12 rfl tw_964) <|
    fm_c (si_iloadn dX12_readsFair_95 rfl) <|
    fm_c (si_if_eq dX12_readsFair_96 rfl) <|
    fm_c (si_iconst dX12_readsFair_99 rfl) <|
    fm_c (si_goto dX12_readsFair_100 rfl) <|
    fm_c (si_iconst dX12_readsFair_103 rfl) <|
    fm_c (si_iadd dX12_readsFair_104) <|
    fm_c (si_putI (C := RX12) (T := TX12) (N := 34) dX12_readsFair_105 rfl inC_12 tyX12 tyX12_ok nmX12 rfl tw_964 rfl (tyX12_ok 7 (by decide))) <|
    fm_c (si_goto dX12_readsFair_108 rfl) <|
    fm_c (si_iconst dX12_readsFair_111 rfl) <|
    fm_c (si_iret rfl dX12_readsFair_112) <|
    fun _ h => absurd h List.not_mem_nil
def K12_isIn : List (Nat × am_O) := [(0, o_iload 0 1),
  (1, o_iload 1 2),
  (2, o_sh am_shr 3),
  (3, o_push (aI 1) 4),
  (4, o_bin am_and 5),
  (5, o_push (aI 1) 6),
  (6, o_ic (fun a b => ¬ a = b) 13 9),
  (9, o_push (aI 1) 10),
  (10, o_goto 14),
  (13, o_push (aI 0) 14),
  (14, o_zret)]
def S12_isIn : am_E := am_S K12_isIn 2
theorem hdd_12_isIn : yX12_isIn.cls ≠ "java/lang/invoke/MethodHandle" ∧ yX12_isIn.cls ≠ "java/lang/invoke/VarHandle" ∧ (parseMethodDescriptor yX12_isIn.desc).map (fun d => d.parameters.length) = some 2 := by decide +kernel
set_option maxRecDepth 100000 in
theorem snd_12_isIn : am_Sound yX12_isIn cX12_isIn 2 (some .boolean) 0 0 S12_isIn :=
  am_sound_of (own := RX12) (by decide) rfl <|
    fm_c (si_iloadn dX12_isIn_0 rfl) <|
    fm_c (si_iloadn dX12_isIn_1 rfl) <|
    fm_c (si_ishr dX12_isIn_2) <|
    fm_c (si_iconst dX12_isIn_3 rfl) <|
    fm_c (si_iand dX12_isIn_4) <|
    fm_c (si_iconst dX12_isIn_5 rfl) <|
    fm_c (si_ic_ne dX12_isIn_6 rfl) <|
    fm_c (si_iconst dX12_isIn_9 rfl) <|
    fm_c (si_goto dX12_isIn_10 rfl) <|
    fm_c (si_iconst dX12_isIn_13 rfl) <|
    fm_c (si_zret rfl dX12_isIn_14) <|
    fun _ h => absurd h List.not_mem_nil
def K12_readsOrder : List (Nat × am_O) := [(0, o_aload 0 1),
  (1, o_push (aI 0) 2),
  (2, o_putI 12 9 5),
  (5, o_push (aI 0) 6),
  (6, o_istore 1 7),
  (7, o_push (aI 0) 8),
  (8, o_istore 2 9),
  (9, o_iload 2 10),
  (10, o_aload 0 11),
  (11, o_getf 12 6 14),
  (14, o_push (aI 1) 15),
  (15, o_iald 16),
  (16, o_ic (fun a b => b ≤ a) 91 19),
  (19, o_aload 0 20),
  (20, o_getf 12 5 23),
  (23, o_push (aI 80) 25),
  (25, o_iload 2 26),
  (26, o_bin (fun a b => w32 (a + b)) 27),
  (27, o_iald 28),
  (28, o_push (aI 97) 30),
  (30, o_bin (fun a b => w32 (a - b)) 31),
  (31, o_istore 3 32),
  (32, o_iload 3 33),
  (33, o_i2l 34),
  (34, o_push (aL 0) 35),
  (35, o_push (aL 4) 38),
  (38, o_call S12_in 3 false 41),
  (41, o_if (fun a => a = 0) 52 44),
  (44, o_iload 1 45),
  (45, o_iload 3 46),
  (46, o_call S12_isIn 2 false 49),
  (49, o_if (fun a => a = 0) 59 52),
  (52, o_aload 0 53),
  (53, o_push (aI 0) 54),
  (54, o_putI 12 9 57),
  (57, o_iload 2 58),
  (58, o_iret),
  (59, o_iload 1 60),
  (60, o_push (aI 1) 61),
  (61, o_iload 3 62),
  (62, o_sh am_shl 63),
  (63, o_bin am_or 64),
  (64, o_istore 1 65),
  (65, o_aload 0 66),
  (66, o_getf 12 10 69),
  (69, o_aload 0 70),
  (70, o_getf 12 9 73),
  (73, o_iload 3 74),
  (74, o_iast 75),
  (75, o_aload 0 76),
  (76, o_dup 77),
  (77, o_getf 12 9 80),
  (80, o_push (aI 1) 81),
  (81, o_bin (fun a b => w32 (a + b)) 82),
  (82, o_putI 12 9 85),
  (85, o_iinc 2 1 88),
  (88, o_goto 9),
  (91, o_push (aI (-1)) 92),
  (92, o_iret)]
def S12_readsOrder : am_E := am_S K12_readsOrder 4
theorem hdd_12_readsOrder : yX12_readsOrder.cls ≠ "java/lang/invoke/MethodHandle" ∧ yX12_readsOrder.cls ≠ "java/lang/invoke/VarHandle" ∧ (parseMethodDescriptor yX12_readsOrder.desc).map (fun d => d.parameters.length) = some 0 := by decide +kernel
set_option maxRecDepth 100000 in
theorem snd_12_readsOrder : am_Sound yX12_readsOrder cX12_readsOrder 4 (some .int) 1 25 S12_readsOrder :=
  am_sound_of (own := RX12) (by decide) rfl <|
    fm_c (si_aloadn dX12_readsOrder_0 rfl) <|
    fm_c (si_iconst dX12_readsOrder_1 rfl) <|
    fm_c (si_putI (C := RX12) (T := TX12) (N := 34) dX12_readsOrder_2 rfl inC_12 tyX12 tyX12_ok nmX12 rfl tw_966 rfl (tyX12_ok 9 (by decide))) <|
    fm_c (si_iconst dX12_readsOrder_5 rfl) <|
    fm_c (si_istoren dX12_readsOrder_6 rfl rfl) <|
    fm_c (si_iconst dX12_readsOrder_7 rfl) <|
    fm_c (si_istoren dX12_readsOrder_8 rfl rfl) <|
    fm_c (si_iloadn dX12_readsOrder_9 rfl) <|
    fm_c (si_aloadn dX12_readsOrder_10 rfl) <|
    fm_c (si_getf (C := RX12) (T := TX12) (N := 34) dX12_readsOrder_11 rfl inC_12 rfl tw_963) <|
    fm_c (si_iconst dX12_readsOrder_14 rfl) <|
    fm_c (si_iald dX12_readsOrder_15) <|
    fm_c (si_ic_ge dX12_readsOrder_16 rfl) <|
    fm_c (si_aloadn dX12_readsOrder_19 rfl) <|
    fm_c (si_getf (C := RX12) (T := TX12) (N := 34) dX12_readsOrder_20 rfl inC_12 rfl tw_962) <|
    fm_c (si_bipush dX12_readsOrder_23 rfl) <|
    fm_c (si_iloadn dX12_readsOrder_25 rfl) <|
    fm_c (si_iadd dX12_readsOrder_26) <|
    fm_c (si_iald dX12_readsOrder_27) <|
    fm_c (si_bipush dX12_readsOrder_28 rfl) <|
    fm_c (si_isub dX12_readsOrder_30) <|
    fm_c (si_istoren dX12_readsOrder_31 rfl rfl) <|
    fm_c (si_iloadn dX12_readsOrder_32 rfl) <|
    fm_c (si_i2l dX12_readsOrder_33) <|
    fm_c (si_lconst0 dX12_readsOrder_34) <|
    fm_c (si_ldc2 dX12_readsOrder_35 tw_1142 rfl) <|
    fm_c (si_call snd_12_in dX12_readsOrder_38 tw_1068 tw_1069 tw_78 tw_1070 hdd_12_in ⟨rfl, rfl⟩) <|
    fm_c (si_if_eq dX12_readsOrder_41 rfl) <|
    fm_c (si_iloadn dX12_readsOrder_44 rfl) <|
    fm_c (si_iloadn dX12_readsOrder_45 rfl) <|
    fm_c (si_call snd_12_isIn dX12_readsOrder_46 tw_1143 tw_1144 tw_78 tw_1145 hdd_12_isIn ⟨rfl, rfl⟩) <|
    fm_c (si_if_eq dX12_readsOrder_49 rfl) <|
    fm_c (si_aloadn dX12_readsOrder_52 rfl) <|
    fm_c (si_iconst dX12_readsOrder_53 rfl) <|
    fm_c (si_putI (C := RX12) (T := TX12) (N := 34) dX12_readsOrder_54 rfl inC_12 tyX12 tyX12_ok nmX12 rfl tw_966 rfl (tyX12_ok 9 (by decide))) <|
    fm_c (si_iloadn dX12_readsOrder_57 rfl) <|
    fm_c (si_iret rfl dX12_readsOrder_58) <|
    fm_c (si_iloadn dX12_readsOrder_59 rfl) <|
    fm_c (si_iconst dX12_readsOrder_60 rfl) <|
    fm_c (si_iloadn dX12_readsOrder_61 rfl) <|
    fm_c (si_ishl dX12_readsOrder_62) <|
    fm_c (si_ior dX12_readsOrder_63) <|
    fm_c (si_istoren dX12_readsOrder_64 rfl rfl) <|
    fm_c (si_aloadn dX12_readsOrder_65 rfl) <|
    fm_c (si_getf (C := RX12) (T := TX12) (N := 34) dX12_readsOrder_66 rfl inC_12 rfl tw_967) <|
    fm_c (si_aloadn dX12_readsOrder_69 rfl) <|
    fm_c (si_getf (C := RX12) (T := TX12) (N := 34) dX12_readsOrder_70 rfl inC_12 rfl tw_966) <|
    fm_c (si_iloadn dX12_readsOrder_73 rfl) <|
    fm_c (si_iast dX12_readsOrder_74) <|
    fm_c (si_aloadn dX12_readsOrder_75 rfl) <|
    fm_c (si_dup dX12_readsOrder_76) <|
    fm_c (si_getf (C := RX12) (T := TX12) (N := 34) dX12_readsOrder_77 rfl inC_12 rfl tw_966) <|
    fm_c (si_iconst dX12_readsOrder_80 rfl) <|
    fm_c (si_iadd dX12_readsOrder_81) <|
    fm_c (si_putI (C := RX12) (T := TX12) (N := 34) dX12_readsOrder_82 rfl inC_12 tyX12 tyX12_ok nmX12 rfl tw_966 rfl (tyX12_ok 9 (by decide))) <|
    fm_c (si_iinc dX12_readsOrder_85 rfl rfl) <|
    fm_c (si_goto dX12_readsOrder_88 rfl) <|
    fm_c (si_iconst dX12_readsOrder_91 rfl) <|
    fm_c (si_iret rfl dX12_readsOrder_92) <|
    fun _ h => absurd h List.not_mem_nil
def K12_letterOf : List (Nat × am_O) := [(0, o_iload 0 1),
  (1, o_push (aI 110) 3),
  (3, o_ic (fun a b => ¬ a = b) 10 6),
  (6, o_push (aI 0) 7),
  (7, o_goto 41),
  (10, o_iload 0 11),
  (11, o_push (aI 101) 13),
  (13, o_ic (fun a b => ¬ a = b) 20 16),
  (16, o_push (aI 1) 17),
  (17, o_goto 41),
  (20, o_iload 0 21),
  (21, o_push (aI 115) 23),
  (23, o_ic (fun a b => ¬ a = b) 30 26),
  (26, o_push (aI 2) 27),
  (27, o_goto 41),
  (30, o_iload 0 31),
  (31, o_push (aI 119) 33),
  (33, o_ic (fun a b => ¬ a = b) 40 36),
  (36, o_push (aI 3) 37),
  (37, o_goto 41),
  (40, o_push (aI (-1)) 41),
  (41, o_iret)]
def S12_letterOf : am_E := am_S K12_letterOf 1
theorem hdd_12_letterOf : yX12_letterOf.cls ≠ "java/lang/invoke/MethodHandle" ∧ yX12_letterOf.cls ≠ "java/lang/invoke/VarHandle" ∧ (parseMethodDescriptor yX12_letterOf.desc).map (fun d => d.parameters.length) = some 1 := by decide +kernel
set_option maxRecDepth 100000 in
theorem snd_12_letterOf : am_Sound yX12_letterOf cX12_letterOf 1 (some .int) 0 0 S12_letterOf :=
  am_sound_of (own := RX12) (by decide) rfl <|
    fm_c (si_iloadn dX12_letterOf_0 rfl) <|
    fm_c (si_bipush dX12_letterOf_1 rfl) <|
    fm_c (si_ic_ne dX12_letterOf_3 rfl) <|
    fm_c (si_iconst dX12_letterOf_6 rfl) <|
    fm_c (si_goto dX12_letterOf_7 rfl) <|
    fm_c (si_iloadn dX12_letterOf_10 rfl) <|
    fm_c (si_bipush dX12_letterOf_11 rfl) <|
    fm_c (si_ic_ne dX12_letterOf_13 rfl) <|
    fm_c (si_iconst dX12_letterOf_16 rfl) <|
    fm_c (si_goto dX12_letterOf_17 rfl) <|
    fm_c (si_iloadn dX12_letterOf_20 rfl) <|
    fm_c (si_bipush dX12_letterOf_21 rfl) <|
    fm_c (si_ic_ne dX12_letterOf_23 rfl) <|
    fm_c (si_iconst dX12_letterOf_26 rfl) <|
    fm_c (si_goto dX12_letterOf_27 rfl) <|
    fm_c (si_iloadn dX12_letterOf_30 rfl) <|
    fm_c (si_bipush dX12_letterOf_31 rfl) <|
    fm_c (si_ic_ne dX12_letterOf_33 rfl) <|
    fm_c (si_iconst dX12_letterOf_36 rfl) <|
    fm_c (si_goto dX12_letterOf_37 rfl) <|
    fm_c (si_iconst dX12_letterOf_40 rfl) <|
    fm_c (si_iret rfl dX12_letterOf_41) <|
    fun _ h => absurd h List.not_mem_nil
def K12_readsWay : List (Nat × am_O) := [(0, o_aload 0 1),
  (1, o_push (aI 0) 2),
  (2, o_putI 12 11 5),
  (5, o_push (aI 0) 6),
  (6, o_istore 1 7),
  (7, o_iload 1 8),
  (8, o_aload 0 9),
  (9, o_getf 12 6 12),
  (12, o_push (aI 2) 13),
  (13, o_iald 14),
  (14, o_ic (fun a b => b ≤ a) 69 17),
  (17, o_aload 0 18),
  (18, o_getf 12 5 21),
  (21, o_push (aI 160) 24),
  (24, o_iload 1 25),
  (25, o_bin (fun a b => w32 (a + b)) 26),
  (26, o_iald 27),
  (27, o_call S12_letterOf 1 false 30),
  (30, o_istore 2 31),
  (31, o_iload 2 32),
  (32, o_push (aI (-1)) 33),
  (33, o_ic (fun a b => ¬ a = b) 43 36),
  (36, o_aload 0 37),
  (37, o_push (aI 0) 38),
  (38, o_putI 12 11 41),
  (41, o_iload 1 42),
  (42, o_iret),
  (43, o_aload 0 44),
  (44, o_getf 12 12 47),
  (47, o_aload 0 48),
  (48, o_getf 12 11 51),
  (51, o_iload 2 52),
  (52, o_iast 53),
  (53, o_aload 0 54),
  (54, o_dup 55),
  (55, o_getf 12 11 58),
  (58, o_push (aI 1) 59),
  (59, o_bin (fun a b => w32 (a + b)) 60),
  (60, o_putI 12 11 63),
  (63, o_iinc 1 1 66),
  (66, o_goto 7),
  (69, o_push (aI (-1)) 70),
  (70, o_iret)]
def S12_readsWay : am_E := am_S K12_readsWay 3
theorem hdd_12_readsWay : yX12_readsWay.cls ≠ "java/lang/invoke/MethodHandle" ∧ yX12_readsWay.cls ≠ "java/lang/invoke/VarHandle" ∧ (parseMethodDescriptor yX12_readsWay.desc).map (fun d => d.parameters.length) = some 0 := by decide +kernel
set_option maxRecDepth 100000 in
theorem snd_12_readsWay : am_Sound yX12_readsWay cX12_readsWay 3 (some .int) 1 20 S12_readsWay :=
  am_sound_of (own := RX12) (by decide) rfl <|
    fm_c (si_aloadn dX12_readsWay_0 rfl) <|
    fm_c (si_iconst dX12_readsWay_1 rfl) <|
    fm_c (si_putI (C := RX12) (T := TX12) (N := 34) dX12_readsWay_2 rfl inC_12 tyX12 tyX12_ok nmX12 rfl tw_968 rfl (tyX12_ok 11 (by decide))) <|
    fm_c (si_iconst dX12_readsWay_5 rfl) <|
    fm_c (si_istoren dX12_readsWay_6 rfl rfl) <|
    fm_c (si_iloadn dX12_readsWay_7 rfl) <|
    fm_c (si_aloadn dX12_readsWay_8 rfl) <|
    fm_c (si_getf (C := RX12) (T := TX12) (N := 34) dX12_readsWay_9 rfl inC_12 rfl tw_963) <|
    fm_c (si_iconst dX12_readsWay_12 rfl) <|
    fm_c (si_iald dX12_readsWay_13) <|
    fm_c (si_ic_ge dX12_readsWay_14 rfl) <|
    fm_c (si_aloadn dX12_readsWay_17 rfl) <|
    fm_c (si_getf (C := RX12) (T := TX12) (N := 34) dX12_readsWay_18 rfl inC_12 rfl tw_962) <|
    fm_c (si_sipush dX12_readsWay_21 rfl) <|
    fm_c (si_iloadn dX12_readsWay_24 rfl) <|
    fm_c (si_iadd dX12_readsWay_25) <|
    fm_c (si_iald dX12_readsWay_26) <|
    fm_c (si_call snd_12_letterOf dX12_readsWay_27 tw_1150 tw_1151 tw_78 tw_1152 hdd_12_letterOf ⟨rfl, rfl⟩) <|
    fm_c (si_istoren dX12_readsWay_30 rfl rfl) <|
    fm_c (si_iloadn dX12_readsWay_31 rfl) <|
    fm_c (si_iconst dX12_readsWay_32 rfl) <|
    fm_c (si_ic_ne dX12_readsWay_33 rfl) <|
    fm_c (si_aloadn dX12_readsWay_36 rfl) <|
    fm_c (si_iconst dX12_readsWay_37 rfl) <|
    fm_c (si_putI (C := RX12) (T := TX12) (N := 34) dX12_readsWay_38 rfl inC_12 tyX12 tyX12_ok nmX12 rfl tw_968 rfl (tyX12_ok 11 (by decide))) <|
    fm_c (si_iloadn dX12_readsWay_41 rfl) <|
    fm_c (si_iret rfl dX12_readsWay_42) <|
    fm_c (si_aloadn dX12_readsWay_43 rfl) <|
    fm_c (si_getf (C := RX12) (T := TX12) (N := 34) dX12_readsWay_44 rfl inC_12 rfl tw_969) <|
    fm_c (si_aloadn dX12_readsWay_47 rfl) <|
    fm_c (si_getf (C := RX12) (T := TX12) (N := 34) dX12_readsWay_48 rfl inC_12 rfl tw_968) <|
    fm_c (si_iloadn dX12_readsWay_51 rfl) <|
    fm_c (si_iast dX12_readsWay_52) <|
    fm_c (si_aloadn dX12_readsWay_53 rfl) <|
    fm_c (si_dup dX12_readsWay_54) <|
    fm_c (si_getf (C := RX12) (T := TX12) (N := 34) dX12_readsWay_55 rfl inC_12 rfl tw_968) <|
    fm_c (si_iconst dX12_readsWay_58 rfl) <|
    fm_c (si_iadd dX12_readsWay_59) <|
    fm_c (si_putI (C := RX12) (T := TX12) (N := 34) dX12_readsWay_60 rfl inC_12 tyX12 tyX12_ok nmX12 rfl tw_968 rfl (tyX12_ok 11 (by decide))) <|
    fm_c (si_iinc dX12_readsWay_63 rfl rfl) <|
    fm_c (si_goto dX12_readsWay_66 rfl) <|
    fm_c (si_iconst dX12_readsWay_69 rfl) <|
    fm_c (si_iret rfl dX12_readsWay_70) <|
    fun _ h => absurd h List.not_mem_nil
def K12_isPlace : List (Nat × am_O) := [(0, o_iload 1 1),
  (1, o_i2l 2),
  (2, o_push (aL 0) 3),
  (3, o_push (aL 63) 6),
  (6, o_call S12_in 3 false 9),
  (9, o_if (fun a => a = 0) 27 12),
  (12, o_aload 0 13),
  (13, o_getf 12 8 16),
  (16, o_iload 1 17),
  (17, o_iald 18),
  (18, o_push (aI 99) 20),
  (20, o_ic (fun a b => a = b) 27 23),
  (23, o_push (aI 1) 24),
  (24, o_goto 28),
  (27, o_push (aI 0) 28),
  (28, o_zret)]
def S12_isPlace : am_E := am_S K12_isPlace 2
theorem hdd_12_isPlace : yX12_isPlace.cls ≠ "java/lang/invoke/MethodHandle" ∧ yX12_isPlace.cls ≠ "java/lang/invoke/VarHandle" ∧ (parseMethodDescriptor yX12_isPlace.desc).map (fun d => d.parameters.length) = some 1 := by decide +kernel
set_option maxRecDepth 100000 in
theorem snd_12_isPlace : am_Sound yX12_isPlace cX12_isPlace 2 (some .boolean) 1 25 S12_isPlace :=
  am_sound_of (own := RX12) (by decide) rfl <|
    fm_c (si_iloadn dX12_isPlace_0 rfl) <|
    fm_c (si_i2l dX12_isPlace_1) <|
    fm_c (si_lconst0 dX12_isPlace_2) <|
    fm_c (si_ldc2 dX12_isPlace_3 tw_1157 rfl) <|
    fm_c (si_call snd_12_in dX12_isPlace_6 tw_1068 tw_1069 tw_78 tw_1070 hdd_12_in ⟨rfl, rfl⟩) <|
    fm_c (si_if_eq dX12_isPlace_9 rfl) <|
    fm_c (si_aloadn dX12_isPlace_12 rfl) <|
    fm_c (si_getf (C := RX12) (T := TX12) (N := 34) dX12_isPlace_13 rfl inC_12 rfl tw_965) <|
    fm_c (si_iloadn dX12_isPlace_16 rfl) <|
    fm_c (si_iald dX12_isPlace_17) <|
    fm_c (si_bipush dX12_isPlace_18 rfl) <|
    fm_c (si_ic_eq dX12_isPlace_20 rfl) <|
    fm_c (si_iconst dX12_isPlace_23 rfl) <|
    fm_c (si_goto dX12_isPlace_24 rfl) <|
    fm_c (si_iconst dX12_isPlace_27 rfl) <|
    fm_c (si_zret rfl dX12_isPlace_28) <|
    fun _ h => absurd h List.not_mem_nil
def K12_beside : List (Nat × am_O) := [(0, o_iload 1 1),
  (1, o_push (aI 8) 3),
  (3, o_idiv 4),
  (4, o_iload 2 5),
  (5, o_if (fun a => ¬ a = 0) 12 8),
  (8, o_push (aI (-1)) 9),
  (9, o_goto 22),
  (12, o_iload 2 13),
  (13, o_push (aI 2) 14),
  (14, o_ic (fun a b => ¬ a = b) 21 17),
  (17, o_push (aI 1) 18),
  (18, o_goto 22),
  (21, o_push (aI 0) 22),
  (22, o_bin (fun a b => w32 (a + b)) 23),
  (23, o_istore 3 24),
  (24, o_iload 1 25),
  (25, o_push (aI 8) 27),
  (27, o_irem 28),
  (28, o_iload 2 29),
  (29, o_push (aI 1) 30),
  (30, o_ic (fun a b => ¬ a = b) 37 33),
  (33, o_push (aI 1) 34),
  (34, o_goto 47),
  (37, o_iload 2 38),
  (38, o_push (aI 3) 39),
  (39, o_ic (fun a b => ¬ a = b) 46 42),
  (42, o_push (aI (-1)) 43),
  (43, o_goto 47),
  (46, o_push (aI 0) 47),
  (47, o_bin (fun a b => w32 (a + b)) 48),
  (48, o_istore 4 50),
  (50, o_iload 3 51),
  (51, o_i2l 52),
  (52, o_push (aL 0) 53),
  (53, o_push (aL 7) 56),
  (56, o_call S12_in 3 false 59),
  (59, o_if (fun a => a = 0) 102 62),
  (62, o_iload 4 64),
  (64, o_i2l 65),
  (65, o_push (aL 0) 66),
  (66, o_push (aL 7) 69),
  (69, o_call S12_in 3 false 72),
  (72, o_if (fun a => a = 0) 102 75),
  (75, o_aload 0 76),
  (76, o_getf 12 8 79),
  (79, o_push (aI 8) 81),
  (81, o_iload 3 82),
  (82, o_bin (fun a b => w32 (a * b)) 83),
  (83, o_iload 4 85),
  (85, o_bin (fun a b => w32 (a + b)) 86),
  (86, o_iald 87),
  (87, o_push (aI 99) 89),
  (89, o_ic (fun a b => a = b) 102 92),
  (92, o_push (aI 8) 94),
  (94, o_iload 3 95),
  (95, o_bin (fun a b => w32 (a * b)) 96),
  (96, o_iload 4 98),
  (98, o_bin (fun a b => w32 (a + b)) 99),
  (99, o_goto 103),
  (102, o_push (aI (-1)) 103),
  (103, o_iret)]
def S12_beside : am_E := am_S K12_beside 5
theorem hdd_12_beside : yX12_beside.cls ≠ "java/lang/invoke/MethodHandle" ∧ yX12_beside.cls ≠ "java/lang/invoke/VarHandle" ∧ (parseMethodDescriptor yX12_beside.desc).map (fun d => d.parameters.length) = some 2 := by decide +kernel
set_option maxRecDepth 100000 in
theorem snd_12_beside : am_Sound yX12_beside cX12_beside 5 (some .int) 1 25 S12_beside :=
  am_sound_of (own := RX12) (by decide) rfl <|
    fm_c (si_iloadn dX12_beside_0 rfl) <|
    fm_c (si_bipush dX12_beside_1 rfl) <|
    fm_c (si_idiv dX12_beside_3) <|
    fm_c (si_iloadn dX12_beside_4 rfl) <|
    fm_c (si_if_ne dX12_beside_5 rfl) <|
    fm_c (si_iconst dX12_beside_8 rfl) <|
    fm_c (si_goto dX12_beside_9 rfl) <|
    fm_c (si_iloadn dX12_beside_12 rfl) <|
    fm_c (si_iconst dX12_beside_13 rfl) <|
    fm_c (si_ic_ne dX12_beside_14 rfl) <|
    fm_c (si_iconst dX12_beside_17 rfl) <|
    fm_c (si_goto dX12_beside_18 rfl) <|
    fm_c (si_iconst dX12_beside_21 rfl) <|
    fm_c (si_iadd dX12_beside_22) <|
    fm_c (si_istoren dX12_beside_23 rfl rfl) <|
    fm_c (si_iloadn dX12_beside_24 rfl) <|
    fm_c (si_bipush dX12_beside_25 rfl) <|
    fm_c (si_irem dX12_beside_27) <|
    fm_c (si_iloadn dX12_beside_28 rfl) <|
    fm_c (si_iconst dX12_beside_29 rfl) <|
    fm_c (si_ic_ne dX12_beside_30 rfl) <|
    fm_c (si_iconst dX12_beside_33 rfl) <|
    fm_c (si_goto dX12_beside_34 rfl) <|
    fm_c (si_iloadn dX12_beside_37 rfl) <|
    fm_c (si_iconst dX12_beside_38 rfl) <|
    fm_c (si_ic_ne dX12_beside_39 rfl) <|
    fm_c (si_iconst dX12_beside_42 rfl) <|
    fm_c (si_goto dX12_beside_43 rfl) <|
    fm_c (si_iconst dX12_beside_46 rfl) <|
    fm_c (si_iadd dX12_beside_47) <|
    fm_c (si_istore dX12_beside_48 rfl) <|
    fm_c (si_iloadn dX12_beside_50 rfl) <|
    fm_c (si_i2l dX12_beside_51) <|
    fm_c (si_lconst0 dX12_beside_52) <|
    fm_c (si_ldc2 dX12_beside_53 tw_1198 rfl) <|
    fm_c (si_call snd_12_in dX12_beside_56 tw_1068 tw_1069 tw_78 tw_1070 hdd_12_in ⟨rfl, rfl⟩) <|
    fm_c (si_if_eq dX12_beside_59 rfl) <|
    fm_c (si_iload dX12_beside_62) <|
    fm_c (si_i2l dX12_beside_64) <|
    fm_c (si_lconst0 dX12_beside_65) <|
    fm_c (si_ldc2 dX12_beside_66 tw_1198 rfl) <|
    fm_c (si_call snd_12_in dX12_beside_69 tw_1068 tw_1069 tw_78 tw_1070 hdd_12_in ⟨rfl, rfl⟩) <|
    fm_c (si_if_eq dX12_beside_72 rfl) <|
    fm_c (si_aloadn dX12_beside_75 rfl) <|
    fm_c (si_getf (C := RX12) (T := TX12) (N := 34) dX12_beside_76 rfl inC_12 rfl tw_965) <|
    fm_c (si_bipush dX12_beside_79 rfl) <|
    fm_c (si_iloadn dX12_beside_81 rfl) <|
    fm_c (si_imul dX12_beside_82) <|
    fm_c (si_iload dX12_beside_83) <|
    fm_c (si_iadd dX12_beside_85) <|
    fm_c (si_iald dX12_beside_86) <|
    fm_c (si_bipush dX12_beside_87 rfl) <|
    fm_c (si_ic_eq dX12_beside_89 rfl) <|
    fm_c (si_bipush dX12_beside_92 rfl) <|
    fm_c (si_iloadn dX12_beside_94 rfl) <|
    fm_c (si_imul dX12_beside_95) <|
    fm_c (si_iload dX12_beside_96) <|
    fm_c (si_iadd dX12_beside_98) <|
    fm_c (si_goto dX12_beside_99 rfl) <|
    fm_c (si_iconst dX12_beside_102 rfl) <|
    fm_c (si_iret rfl dX12_beside_103) <|
    fun _ h => absurd h List.not_mem_nil
def K12_walks : List (Nat × am_O) := [(0, o_aload 0 1),
  (1, o_push (aI 0) 2),
  (2, o_putI 12 17 5),
  (5, o_aload 0 6),
  (6, o_getf 12 18 9),
  (9, o_push (aI 0) 10),
  (10, o_aload 0 11),
  (11, o_getf 12 13 14),
  (14, o_push (aI 0) 15),
  (15, o_iald 16),
  (16, o_iast 17),
  (17, o_aload 0 18),
  (18, o_aload 0 19),
  (19, o_getf 12 13 22),
  (22, o_push (aI 0) 23),
  (23, o_iald 24),
  (24, o_callv S12_isPlace 12 1 false 27),
  (27, o_istore 1 28),
  (28, o_iload 1 29),
  (29, o_if (fun a => a = 0) 104 32),
  (32, o_aload 0 33),
  (33, o_getf 12 17 36),
  (36, o_aload 0 37),
  (37, o_getf 12 11 40),
  (40, o_ic (fun a b => b ≤ a) 104 43),
  (43, o_aload 0 44),
  (44, o_aload 0 45),
  (45, o_getf 12 18 48),
  (48, o_aload 0 49),
  (49, o_getf 12 17 52),
  (52, o_iald 53),
  (53, o_aload 0 54),
  (54, o_getf 12 12 57),
  (57, o_aload 0 58),
  (58, o_getf 12 17 61),
  (61, o_iald 62),
  (62, o_callv S12_beside 12 2 false 65),
  (65, o_istore 2 66),
  (66, o_iload 2 67),
  (67, o_push (aI (-1)) 68),
  (68, o_ic (fun a b => a = b) 75 71),
  (71, o_push (aI 1) 72),
  (72, o_goto 76),
  (75, o_push (aI 0) 76),
  (76, o_istore 1 77),
  (77, o_iload 1 78),
  (78, o_if (fun a => a = 0) 101 81),
  (81, o_aload 0 82),
  (82, o_dup 83),
  (83, o_getf 12 17 86),
  (86, o_push (aI 1) 87),
  (87, o_bin (fun a b => w32 (a + b)) 88),
  (88, o_putI 12 17 91),
  (91, o_aload 0 92),
  (92, o_getf 12 18 95),
  (95, o_aload 0 96),
  (96, o_getf 12 17 99),
  (99, o_iload 2 100),
  (100, o_iast 101),
  (101, o_goto 28),
  (104, o_vret)]
def S12_walks : am_E := am_S K12_walks 3
theorem hdd_12_walks : yX12_walks.cls ≠ "java/lang/invoke/MethodHandle" ∧ yX12_walks.cls ≠ "java/lang/invoke/VarHandle" ∧ (parseMethodDescriptor yX12_walks.desc).map (fun d => d.parameters.length) = some 0 := by decide +kernel
set_option maxRecDepth 100000 in
theorem snd_12_walks : am_Sound yX12_walks cX12_walks 3 none 2 49 S12_walks :=
  am_sound_of (own := RX12) (by decide) rfl <|
    fm_c (si_aloadn dX12_walks_0 rfl) <|
    fm_c (si_iconst dX12_walks_1 rfl) <|
    fm_c (si_putI (C := RX12) (T := TX12) (N := 34) dX12_walks_2 rfl inC_12 tyX12 tyX12_ok nmX12 rfl tw_974 rfl (tyX12_ok 17 (by decide))) <|
    fm_c (si_aloadn dX12_walks_5 rfl) <|
    fm_c (si_getf (C := RX12) (T := TX12) (N := 34) dX12_walks_6 rfl inC_12 rfl tw_975) <|
    fm_c (si_iconst dX12_walks_9 rfl) <|
    fm_c (si_aloadn dX12_walks_10 rfl) <|
    fm_c (si_getf (C := RX12) (T := TX12) (N := 34) dX12_walks_11 rfl inC_12 rfl tw_970) <|
    fm_c (si_iconst dX12_walks_14 rfl) <|
    fm_c (si_iald dX12_walks_15) <|
    fm_c (si_iast dX12_walks_16) <|
    fm_c (si_aloadn dX12_walks_17 rfl) <|
    fm_c (si_aloadn dX12_walks_18 rfl) <|
    fm_c (si_getf (C := RX12) (T := TX12) (N := 34) dX12_walks_19 rfl inC_12 rfl tw_970) <|
    fm_c (si_iconst dX12_walks_22 rfl) <|
    fm_c (si_iald dX12_walks_23) <|
    fm_c (si_callv (C := RX12) (T := TX12) (N := 34) snd_12_isPlace rfl dX12_walks_24 tw_1190 tw_1192 tw_37 tw_78 tw_1193 hdd_12_isPlace ⟨rfl, rfl⟩) <|
    fm_c (si_istoren dX12_walks_27 rfl rfl) <|
    fm_c (si_iloadn dX12_walks_28 rfl) <|
    fm_c (si_if_eq dX12_walks_29 rfl) <|
    fm_c (si_aloadn dX12_walks_32 rfl) <|
    fm_c (si_getf (C := RX12) (T := TX12) (N := 34) dX12_walks_33 rfl inC_12 rfl tw_974) <|
    fm_c (si_aloadn dX12_walks_36 rfl) <|
    fm_c (si_getf (C := RX12) (T := TX12) (N := 34) dX12_walks_37 rfl inC_12 rfl tw_968) <|
    fm_c (si_ic_ge dX12_walks_40 rfl) <|
    fm_c (si_aloadn dX12_walks_43 rfl) <|
    fm_c (si_aloadn dX12_walks_44 rfl) <|
    fm_c (si_getf (C := RX12) (T := TX12) (N := 34) dX12_walks_45 rfl inC_12 rfl tw_975) <|
    fm_c (si_aloadn dX12_walks_48 rfl) <|
    fm_c (si_getf (C := RX12) (T := TX12) (N := 34) dX12_walks_49 rfl inC_12 rfl tw_974) <|
    fm_c (si_iald dX12_walks_52) <|
    fm_c (si_aloadn dX12_walks_53 rfl) <|
    fm_c (si_getf (C := RX12) (T := TX12) (N := 34) dX12_walks_54 rfl inC_12 rfl tw_969) <|
    fm_c (si_aloadn dX12_walks_57 rfl) <|
    fm_c (si_getf (C := RX12) (T := TX12) (N := 34) dX12_walks_58 rfl inC_12 rfl tw_974) <|
    fm_c (si_iald dX12_walks_61) <|
    fm_c (si_callv (C := RX12) (T := TX12) (N := 34) snd_12_beside rfl dX12_walks_62 tw_1194 tw_1196 tw_38 tw_78 tw_1197 hdd_12_beside ⟨rfl, rfl⟩) <|
    fm_c (si_istoren dX12_walks_65 rfl rfl) <|
    fm_c (si_iloadn dX12_walks_66 rfl) <|
    fm_c (si_iconst dX12_walks_67 rfl) <|
    fm_c (si_ic_eq dX12_walks_68 rfl) <|
    fm_c (si_iconst dX12_walks_71 rfl) <|
    fm_c (si_goto dX12_walks_72 rfl) <|
    fm_c (si_iconst dX12_walks_75 rfl) <|
    fm_c (si_istoren dX12_walks_76 rfl rfl) <|
    fm_c (si_iloadn dX12_walks_77 rfl) <|
    fm_c (si_if_eq dX12_walks_78 rfl) <|
    fm_c (si_aloadn dX12_walks_81 rfl) <|
    fm_c (si_dup dX12_walks_82) <|
    fm_c (si_getf (C := RX12) (T := TX12) (N := 34) dX12_walks_83 rfl inC_12 rfl tw_974) <|
    fm_c (si_iconst dX12_walks_86 rfl) <|
    fm_c (si_iadd dX12_walks_87) <|
    fm_c (si_putI (C := RX12) (T := TX12) (N := 34) dX12_walks_88 rfl inC_12 tyX12 tyX12_ok nmX12 rfl tw_974 rfl (tyX12_ok 17 (by decide))) <|
    fm_c (si_aloadn dX12_walks_91 rfl) <|
    fm_c (si_getf (C := RX12) (T := TX12) (N := 34) dX12_walks_92 rfl inC_12 rfl tw_975) <|
    fm_c (si_aloadn dX12_walks_95 rfl) <|
    fm_c (si_getf (C := RX12) (T := TX12) (N := 34) dX12_walks_96 rfl inC_12 rfl tw_974) <|
    fm_c (si_iloadn dX12_walks_99 rfl) <|
    fm_c (si_iast dX12_walks_100) <|
    fm_c (si_goto dX12_walks_101 rfl) <|
    fm_c (si_vret rfl dX12_walks_104) <|
    fun _ h => absurd h List.not_mem_nil
def K12_reads : List (Nat × am_O) := [(0, o_aload 0 1),
  (1, o_callv S12_readsFair 12 0 false 4),
  (4, o_pop 5),
  (5, o_aload 0 6),
  (6, o_callv S12_readsOrder 12 0 false 9),
  (9, o_pop 10),
  (10, o_aload 0 11),
  (11, o_callv S12_readsWay 12 0 false 14),
  (14, o_pop 15),
  (15, o_aload 0 16),
  (16, o_callv S12_walks 12 0 true 19),
  (19, o_vret)]
def S12_reads : am_E := am_S K12_reads 1
theorem hdd_12_reads : yX12_reads.cls ≠ "java/lang/invoke/MethodHandle" ∧ yX12_reads.cls ≠ "java/lang/invoke/VarHandle" ∧ (parseMethodDescriptor yX12_reads.desc).map (fun d => d.parameters.length) = some 0 := by decide +kernel
set_option maxRecDepth 100000 in
theorem snd_12_reads : am_Sound yX12_reads cX12_reads 1 none 3 74 S12_reads :=
  am_sound_of (own := RX12) (by decide) rfl <|
    fm_c (si_aloadn dX12_reads_0 rfl) <|
    fm_c (si_callv (C := RX12) (T := TX12) (N := 34) snd_12_readsFair rfl dX12_reads_1 tw_1120 tw_1122 tw_29 tw_78 tw_1123 hdd_12_readsFair ⟨rfl, rfl⟩) <|
    fm_c (si_pop dX12_reads_4) <|
    fm_c (si_aloadn dX12_reads_5 rfl) <|
    fm_c (si_callv (C := RX12) (T := TX12) (N := 34) snd_12_readsOrder rfl dX12_reads_6 tw_1138 tw_1140 tw_33 tw_78 tw_1141 hdd_12_readsOrder ⟨rfl, rfl⟩) <|
    fm_c (si_pop dX12_reads_9) <|
    fm_c (si_aloadn dX12_reads_10 rfl) <|
    fm_c (si_callv (C := RX12) (T := TX12) (N := 34) snd_12_readsWay rfl dX12_reads_11 tw_1146 tw_1148 tw_34 tw_78 tw_1149 hdd_12_readsWay ⟨rfl, rfl⟩) <|
    fm_c (si_pop dX12_reads_14) <|
    fm_c (si_aloadn dX12_reads_15 rfl) <|
    fm_c (si_callv (C := RX12) (T := TX12) (N := 34) snd_12_walks rfl dX12_reads_16 tw_1186 tw_1188 tw_36 tw_78 tw_1189 hdd_12_walks ⟨rfl, rfl⟩) <|
    fm_c (si_vret rfl dX12_reads_19) <|
    fun _ h => absurd h List.not_mem_nil
def K12_isTwo : List (Nat × am_O) := [(0, o_iload 0 1),
  (1, o_i2l 2),
  (2, o_push (aL 0) 3),
  (3, o_push (aL 1) 4),
  (4, o_call S12_in 3 false 7),
  (7, o_zret)]
def S12_isTwo : am_E := am_S K12_isTwo 1
theorem hdd_12_isTwo : yX12_isTwo.cls ≠ "java/lang/invoke/MethodHandle" ∧ yX12_isTwo.cls ≠ "java/lang/invoke/VarHandle" ∧ (parseMethodDescriptor yX12_isTwo.desc).map (fun d => d.parameters.length) = some 1 := by decide +kernel
set_option maxRecDepth 100000 in
theorem snd_12_isTwo : am_Sound yX12_isTwo cX12_isTwo 1 (some .boolean) 1 25 S12_isTwo :=
  am_sound_of (own := RX12) (by decide) rfl <|
    fm_c (si_iloadn dX12_isTwo_0 rfl) <|
    fm_c (si_i2l dX12_isTwo_1) <|
    fm_c (si_lconst0 dX12_isTwo_2) <|
    fm_c (si_lconst1 dX12_isTwo_3) <|
    fm_c (si_call snd_12_in dX12_isTwo_4 tw_1068 tw_1069 tw_78 tw_1070 hdd_12_in ⟨rfl, rfl⟩) <|
    fm_c (si_zret rfl dX12_isTwo_7) <|
    fun _ h => absurd h List.not_mem_nil
def K12_part : List (Nat × am_O) := [(0, o_lload 0 1),
  (1, o_lstore 5 3),
  (3, o_lload 2 4),
  (4, o_lstore 7 6),
  (6, o_lload 7 8),
  (8, o_push (aL 0) 9),
  (9, o_lcmp 10),
  (10, o_if (fun a => a = 0) 31 13),
  (13, o_lload 5 15),
  (15, o_lload 7 17),
  (17, o_lrem 18),
  (18, o_lstore 9 20),
  (20, o_lload 7 22),
  (22, o_lstore 5 24),
  (24, o_lload 9 26),
  (26, o_lstore 7 28),
  (28, o_goto 6),
  (31, o_iload 4 33),
  (33, o_if (fun a => ¬ a = 0) 40 36),
  (36, o_lload 0 37),
  (37, o_goto 41),
  (40, o_lload 2 41),
  (41, o_lload 5 43),
  (43, o_ldiv 44),
  (44, o_lret)]
def S12_part : am_E := am_S K12_part 11
theorem hdd_12_part : yX12_part.cls ≠ "java/lang/invoke/MethodHandle" ∧ yX12_part.cls ≠ "java/lang/invoke/VarHandle" ∧ (parseMethodDescriptor yX12_part.desc).map (fun d => d.parameters.length) = some 3 := by decide +kernel
set_option maxRecDepth 100000 in
theorem snd_12_part : am_Sound yX12_part cX12_part 11 (some .long) 0 0 S12_part :=
  am_sound_of (own := RX12) (by decide) rfl <|
    fm_c (si_lloadn dX12_part_0 rfl) <|
    fm_c (si_lstore dX12_part_1 rfl) <|
    fm_c (si_lloadn dX12_part_3 rfl) <|
    fm_c (si_lstore dX12_part_4 rfl) <|
    fm_c (si_lload dX12_part_6) <|
    fm_c (si_lconst0 dX12_part_8) <|
    fm_c (si_lcmp dX12_part_9) <|
    fm_c (si_if_eq dX12_part_10 rfl) <|
    fm_c (si_lload dX12_part_13) <|
    fm_c (si_lload dX12_part_15) <|
    fm_c (si_lrem dX12_part_17) <|
    fm_c (si_lstore dX12_part_18 rfl) <|
    fm_c (si_lload dX12_part_20) <|
    fm_c (si_lstore dX12_part_22 rfl) <|
    fm_c (si_lload dX12_part_24) <|
    fm_c (si_lstore dX12_part_26 rfl) <|
    fm_c (si_goto dX12_part_28 rfl) <|
    fm_c (si_iload dX12_part_31) <|
    fm_c (si_if_ne dX12_part_33 rfl) <|
    fm_c (si_lloadn dX12_part_36 rfl) <|
    fm_c (si_goto dX12_part_37 rfl) <|
    fm_c (si_lloadn dX12_part_40 rfl) <|
    fm_c (si_lload dX12_part_41) <|
    fm_c (si_ldiv dX12_part_43) <|
    fm_c (si_lret rfl dX12_part_44) <|
    fun _ h => absurd h List.not_mem_nil
def K12_alikeOf : List (Nat × am_O) := [(0, o_push (aL 1) 1),
  (1, o_lstore 2 2),
  (2, o_push (aL 1) 3),
  (3, o_lstore 4 5),
  (5, o_push (aL 1) 6),
  (6, o_lstore 6 8),
  (8, o_push (aI 0) 9),
  (9, o_istore 8 11),
  (11, o_iload 8 13),
  (13, o_aload 0 14),
  (14, o_getf 12 9 17),
  (17, o_ic (fun a b => b ≤ a) 71 20),
  (20, o_lload 2 21),
  (21, o_aload 0 22),
  (22, o_getf 12 15 25),
  (25, o_aload 0 26),
  (26, o_getf 12 10 29),
  (29, o_iload 8 31),
  (31, o_iald 32),
  (32, o_iald 33),
  (33, o_i2l 34),
  (34, o_binL (fun a b => w64 (a * b)) 35),
  (35, o_lstore 2 36),
  (36, o_lload 4 38),
  (38, o_push (aI 16) 40),
  (40, o_aload 0 41),
  (41, o_getf 12 15 44),
  (44, o_aload 0 45),
  (45, o_getf 12 10 48),
  (48, o_iload 8 50),
  (50, o_iald 51),
  (51, o_iald 52),
  (52, o_bin (fun a b => w32 (a - b)) 53),
  (53, o_i2l 54),
  (54, o_binL (fun a b => w64 (a * b)) 55),
  (55, o_lstore 4 57),
  (57, o_lload 6 59),
  (59, o_push (aL 16) 62),
  (62, o_binL (fun a b => w64 (a * b)) 63),
  (63, o_lstore 6 65),
  (65, o_iinc 8 1 68),
  (68, o_goto 11),
  (71, o_aload 0 72),
  (72, o_getf 12 9 75),
  (75, o_if (fun a => ¬ a = 0) 82 78),
  (78, o_push (aL 1) 79),
  (79, o_goto 92),
  (82, o_lload 2 83),
  (83, o_lload 4 85),
  (85, o_binL (fun a b => w64 (a + b)) 86),
  (86, o_lload 6 88),
  (88, o_iload 1 89),
  (89, o_call S12_part 3 false 92),
  (92, o_lret)]
def S12_alikeOf : am_E := am_S K12_alikeOf 9
theorem hdd_12_alikeOf : yX12_alikeOf.cls ≠ "java/lang/invoke/MethodHandle" ∧ yX12_alikeOf.cls ≠ "java/lang/invoke/VarHandle" ∧ (parseMethodDescriptor yX12_alikeOf.desc).map (fun d => d.parameters.length) = some 1 := by decide +kernel
set_option maxRecDepth 100000 in
theorem snd_12_alikeOf : am_Sound yX12_alikeOf cX12_alikeOf 9 (some .long) 1 30 S12_alikeOf :=
  am_sound_of (own := RX12) (by decide) rfl <|
    fm_c (si_lconst1 dX12_alikeOf_0) <|
    fm_c (si_lstoren dX12_alikeOf_1 rfl rfl) <|
    fm_c (si_lconst1 dX12_alikeOf_2) <|
    fm_c (si_lstore dX12_alikeOf_3 rfl) <|
    fm_c (si_lconst1 dX12_alikeOf_5) <|
    fm_c (si_lstore dX12_alikeOf_6 rfl) <|
    fm_c (si_iconst dX12_alikeOf_8 rfl) <|
    fm_c (si_istore dX12_alikeOf_9 rfl) <|
    fm_c (si_iload dX12_alikeOf_11) <|
    fm_c (si_aloadn dX12_alikeOf_13 rfl) <|
    fm_c (si_getf (C := RX12) (T := TX12) (N := 34) dX12_alikeOf_14 rfl inC_12 rfl tw_966) <|
    fm_c (si_ic_ge dX12_alikeOf_17 rfl) <|
    fm_c (si_lloadn dX12_alikeOf_20 rfl) <|
    fm_c (si_aloadn dX12_alikeOf_21 rfl) <|
    fm_c (si_getf (C := RX12) (T := TX12) (N := 34) dX12_alikeOf_22 rfl inC_12 rfl tw_972) <|
    fm_c (si_aloadn dX12_alikeOf_25 rfl) <|
    fm_c (si_getf (C := RX12) (T := TX12) (N := 34) dX12_alikeOf_26 rfl inC_12 rfl tw_967) <|
    fm_c (si_iload dX12_alikeOf_29) <|
    fm_c (si_iald dX12_alikeOf_31) <|
    fm_c (si_iald dX12_alikeOf_32) <|
    fm_c (si_i2l dX12_alikeOf_33) <|
    fm_c (si_lmul dX12_alikeOf_34) <|
    fm_c (si_lstoren dX12_alikeOf_35 rfl rfl) <|
    fm_c (si_lload dX12_alikeOf_36) <|
    fm_c (si_bipush dX12_alikeOf_38 rfl) <|
    fm_c (si_aloadn dX12_alikeOf_40 rfl) <|
    fm_c (si_getf (C := RX12) (T := TX12) (N := 34) dX12_alikeOf_41 rfl inC_12 rfl tw_972) <|
    fm_c (si_aloadn dX12_alikeOf_44 rfl) <|
    fm_c (si_getf (C := RX12) (T := TX12) (N := 34) dX12_alikeOf_45 rfl inC_12 rfl tw_967) <|
    fm_c (si_iload dX12_alikeOf_48) <|
    fm_c (si_iald dX12_alikeOf_50) <|
    fm_c (si_iald dX12_alikeOf_51) <|
    fm_c (si_isub dX12_alikeOf_52) <|
    fm_c (si_i2l dX12_alikeOf_53) <|
    fm_c (si_lmul dX12_alikeOf_54) <|
    fm_c (si_lstore dX12_alikeOf_55 rfl) <|
    fm_c (si_lload dX12_alikeOf_57) <|
    fm_c (si_ldc2 dX12_alikeOf_59 tw_1165 rfl) <|
    fm_c (si_lmul dX12_alikeOf_62) <|
    fm_c (si_lstore dX12_alikeOf_63 rfl) <|
    fm_c (si_iinc dX12_alikeOf_65 rfl rfl) <|
    fm_c (si_goto dX12_alikeOf_68 rfl) <|
    fm_c (si_aloadn dX12_alikeOf_71 rfl) <|
    fm_c (si_getf (C := RX12) (T := TX12) (N := 34) dX12_alikeOf_72 rfl inC_12 rfl tw_966) <|
    fm_c (si_if_ne dX12_alikeOf_75 rfl) <|
    fm_c (si_lconst1 dX12_alikeOf_78) <|
    fm_c (si_goto dX12_alikeOf_79 rfl) <|
    fm_c (si_lloadn dX12_alikeOf_82 rfl) <|
    fm_c (si_lload dX12_alikeOf_83) <|
    fm_c (si_ladd dX12_alikeOf_85) <|
    fm_c (si_lload dX12_alikeOf_86) <|
    fm_c (si_iloadn dX12_alikeOf_88 rfl) <|
    fm_c (si_call snd_12_part dX12_alikeOf_89 tw_1279 tw_1280 tw_78 tw_1281 hdd_12_part ⟨rfl, rfl⟩) <|
    fm_c (si_lret rfl dX12_alikeOf_92) <|
    fun _ h => absurd h List.not_mem_nil
def K12_no : List (Nat × am_O) := [(0, o_push (aL (-9223372036854775808)) 3),
  (3, o_iload 0 4),
  (4, o_i2l 5),
  (5, o_binL (fun a b => w64 (a - b)) 6),
  (6, o_lret)]
def S12_no : am_E := am_S K12_no 1
theorem hdd_12_no : yX12_no.cls ≠ "java/lang/invoke/MethodHandle" ∧ yX12_no.cls ≠ "java/lang/invoke/VarHandle" ∧ (parseMethodDescriptor yX12_no.desc).map (fun d => d.parameters.length) = some 1 := by decide +kernel
set_option maxRecDepth 100000 in
theorem snd_12_no : am_Sound yX12_no cX12_no 1 (some .long) 0 0 S12_no :=
  am_sound_of (own := RX12) (by decide) rfl <|
    fm_c (si_ldc2 dX12_no_0 tw_1285 rfl) <|
    fm_c (si_iloadn dX12_no_3 rfl) <|
    fm_c (si_i2l dX12_no_4) <|
    fm_c (si_lsub dX12_no_5) <|
    fm_c (si_lret rfl dX12_no_6) <|
    fun _ h => absurd h List.not_mem_nil
def K12_alike : List (Nat × am_O) := [(0, o_aload 0 1),
  (1, o_callv S12_reads 12 0 true 4),
  (4, o_iload 1 5),
  (5, o_call S12_isTwo 1 false 8),
  (8, o_if (fun a => a = 0) 19 11),
  (11, o_aload 0 12),
  (12, o_iload 1 13),
  (13, o_callv S12_alikeOf 12 1 false 16),
  (16, o_goto 24),
  (19, o_push (aI (-2)) 21),
  (21, o_call S12_no 1 false 24),
  (24, o_lret)]
def S12_alike : am_E := am_S K12_alike 2
theorem hdd_12_alike : yX12_alike.cls ≠ "java/lang/invoke/MethodHandle" ∧ yX12_alike.cls ≠ "java/lang/invoke/VarHandle" ∧ (parseMethodDescriptor yX12_alike.desc).map (fun d => d.parameters.length) = some 1 := by decide +kernel
set_option maxRecDepth 100000 in
theorem snd_12_alike : am_Sound yX12_alike cX12_alike 2 (some .long) 4 94 S12_alike :=
  am_sound_of (own := RX12) (by decide) rfl <|
    fm_c (si_aloadn dX12_alike_0 rfl) <|
    fm_c (si_callv (C := RX12) (T := TX12) (N := 34) snd_12_reads rfl dX12_alike_1 tw_1182 tw_1184 tw_35 tw_78 tw_1185 hdd_12_reads ⟨rfl, rfl⟩) <|
    fm_c (si_iloadn dX12_alike_4 rfl) <|
    fm_c (si_call snd_12_isTwo dX12_alike_5 tw_1170 tw_1171 tw_78 tw_1172 hdd_12_isTwo ⟨rfl, rfl⟩) <|
    fm_c (si_if_eq dX12_alike_8 rfl) <|
    fm_c (si_aloadn dX12_alike_11 rfl) <|
    fm_c (si_iloadn dX12_alike_12 rfl) <|
    fm_c (si_callv (C := RX12) (T := TX12) (N := 34) snd_12_alikeOf rfl dX12_alike_13 tw_1290 tw_1292 tw_48 tw_78 tw_1293 hdd_12_alikeOf ⟨rfl, rfl⟩) <|
    fm_c (si_goto dX12_alike_16 rfl) <|
    fm_c (si_bipush dX12_alike_19 rfl) <|
    fm_c (si_call snd_12_no dX12_alike_21 tw_1282 tw_1283 tw_78 tw_1284 hdd_12_no ⟨rfl, rfl⟩) <|
    fm_c (si_lret rfl dX12_alike_24) <|
    fun _ h => absurd h List.not_mem_nil
def K12_at : List (Nat × am_O) := [(0, o_aload 0 1),
  (1, o_callv S12_reads 12 0 true 4),
  (4, o_iload 1 5),
  (5, o_i2l 6),
  (6, o_push (aL 0) 7),
  (7, o_aload 0 8),
  (8, o_getf 12 17 11),
  (11, o_i2l 12),
  (12, o_call S12_in 3 false 15),
  (15, o_if (fun a => ¬ a = 0) 23 18),
  (18, o_push (aI (-2)) 20),
  (20, o_goto 47),
  (23, o_aload 0 24),
  (24, o_aload 0 25),
  (25, o_getf 12 13 28),
  (28, o_push (aI 0) 29),
  (29, o_iald 30),
  (30, o_callv S12_isPlace 12 1 false 33),
  (33, o_if (fun a => a = 0) 45 36),
  (36, o_aload 0 37),
  (37, o_getf 12 18 40),
  (40, o_iload 1 41),
  (41, o_iald 42),
  (42, o_goto 47),
  (45, o_push (aI (-3)) 47),
  (47, o_iret)]
def S12_at : am_E := am_S K12_at 2
theorem hdd_12_at : yX12_at.cls ≠ "java/lang/invoke/MethodHandle" ∧ yX12_at.cls ≠ "java/lang/invoke/VarHandle" ∧ (parseMethodDescriptor yX12_at.desc).map (fun d => d.parameters.length) = some 1 := by decide +kernel
set_option maxRecDepth 100000 in
theorem snd_12_at : am_Sound yX12_at cX12_at 2 (some .int) 4 94 S12_at :=
  am_sound_of (own := RX12) (by decide) rfl <|
    fm_c (si_aloadn dX12_at_0 rfl) <|
    fm_c (si_callv (C := RX12) (T := TX12) (N := 34) snd_12_reads rfl dX12_at_1 tw_1182 tw_1184 tw_35 tw_78 tw_1185 hdd_12_reads ⟨rfl, rfl⟩) <|
    fm_c (si_iloadn dX12_at_4 rfl) <|
    fm_c (si_i2l dX12_at_5) <|
    fm_c (si_lconst0 dX12_at_6) <|
    fm_c (si_aloadn dX12_at_7 rfl) <|
    fm_c (si_getf (C := RX12) (T := TX12) (N := 34) dX12_at_8 rfl inC_12 rfl tw_974) <|
    fm_c (si_i2l dX12_at_11) <|
    fm_c (si_call snd_12_in dX12_at_12 tw_1068 tw_1069 tw_78 tw_1070 hdd_12_in ⟨rfl, rfl⟩) <|
    fm_c (si_if_ne dX12_at_15 rfl) <|
    fm_c (si_bipush dX12_at_18 rfl) <|
    fm_c (si_goto dX12_at_20 rfl) <|
    fm_c (si_aloadn dX12_at_23 rfl) <|
    fm_c (si_aloadn dX12_at_24 rfl) <|
    fm_c (si_getf (C := RX12) (T := TX12) (N := 34) dX12_at_25 rfl inC_12 rfl tw_970) <|
    fm_c (si_iconst dX12_at_28 rfl) <|
    fm_c (si_iald dX12_at_29) <|
    fm_c (si_callv (C := RX12) (T := TX12) (N := 34) snd_12_isPlace rfl dX12_at_30 tw_1190 tw_1192 tw_37 tw_78 tw_1193 hdd_12_isPlace ⟨rfl, rfl⟩) <|
    fm_c (si_if_eq dX12_at_33 rfl) <|
    fm_c (si_aloadn dX12_at_36 rfl) <|
    fm_c (si_getf (C := RX12) (T := TX12) (N := 34) dX12_at_37 rfl inC_12 rfl tw_975) <|
    fm_c (si_iloadn dX12_at_40 rfl) <|
    fm_c (si_iald dX12_at_41) <|
    fm_c (si_goto dX12_at_42 rfl) <|
    fm_c (si_bipush dX12_at_45 rfl) <|
    fm_c (si_iret rfl dX12_at_47) <|
    fun _ h => absurd h List.not_mem_nil
