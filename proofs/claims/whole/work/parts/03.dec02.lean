theorem dX7_init_9 : decode cX7_init 9 = .ok (.putfield 9, 3) := by decide +kernel
theorem dX7_init_12 : decode cX7_init 12 = .ok (.aload_n 0, 1) := by decide +kernel
theorem dX7_init_13 : decode cX7_init 13 = .ok (.iconst (-1), 1) := by decide +kernel
theorem dX7_init_14 : decode cX7_init 14 = .ok (.putfield 15, 3) := by decide +kernel
theorem dX7_init_17 : decode cX7_init 17 = .ok (.aload_n 0, 1) := by decide +kernel
theorem dX7_init_18 : decode cX7_init 18 = .ok (.iconst 0, 1) := by decide +kernel
theorem dX7_init_19 : decode cX7_init 19 = .ok (.putfield 19, 3) := by decide +kernel
theorem dX7_init_22 : decode cX7_init 22 = .ok (.return_, 1) := by decide +kernel
theorem dX7_isLost_0 : decode cX7_isLost 0 = .ok (.aload_n 0, 1) := by decide +kernel
theorem dX7_isLost_1 : decode cX7_isLost 1 = .ok (.getfield 15, 3) := by decide +kernel
theorem dX7_isLost_4 : decode cX7_isLost 4 = .ok (.iconst (-1), 1) := by decide +kernel
theorem dX7_isLost_5 : decode cX7_isLost 5 = .ok (.if_icmp .ne 7, 3) := by decide +kernel
theorem dX7_isLost_8 : decode cX7_isLost 8 = .ok (.iconst 1, 1) := by decide +kernel
theorem dX7_isLost_9 : decode cX7_isLost 9 = .ok (.goto 4, 3) := by decide +kernel
theorem dX7_isLost_12 : decode cX7_isLost 12 = .ok (.iconst 0, 1) := by decide +kernel
theorem dX7_isLost_13 : decode cX7_isLost 13 = .ok (.ireturn, 1) := by decide +kernel
theorem dX7_renew_0 : decode cX7_renew 0 = .ok (.aload_n 0, 1) := by decide +kernel
theorem dX7_renew_1 : decode cX7_renew 1 = .ok (.getfield 9, 3) := by decide +kernel
theorem dX7_renew_4 : decode cX7_renew 4 = .ok (.iconst 0, 1) := by decide +kernel
theorem dX7_renew_5 : decode cX7_renew 5 = .ok (.invokestatic 22, 3) := by decide +kernel
theorem dX7_renew_8 : decode cX7_renew 8 = .ok (.aload_n 0, 1) := by decide +kernel
theorem dX7_renew_9 : decode cX7_renew 9 = .ok (.iload_n 1, 1) := by decide +kernel
theorem dX7_renew_10 : decode cX7_renew 10 = .ok (.putfield 15, 3) := by decide +kernel
theorem dX7_renew_13 : decode cX7_renew 13 = .ok (.aload_n 0, 1) := by decide +kernel
theorem dX7_renew_14 : decode cX7_renew 14 = .ok (.iload_n 2, 1) := by decide +kernel
theorem dX7_renew_15 : decode cX7_renew 15 = .ok (.bipush 64, 2) := by decide +kernel
theorem dX7_renew_17 : decode cX7_renew 17 = .ok (.invokestatic 28, 3) := by decide +kernel
theorem dX7_renew_20 : decode cX7_renew 20 = .ok (.putfield 19, 3) := by decide +kernel
theorem dX7_renew_23 : decode cX7_renew 23 = .ok (.return_, 1) := by decide +kernel
theorem dX7_giveUp_0 : decode cX7_giveUp 0 = .ok (.aload_n 0, 1) := by decide +kernel
theorem dX7_giveUp_1 : decode cX7_giveUp 1 = .ok (.iconst (-1), 1) := by decide +kernel
theorem dX7_giveUp_2 : decode cX7_giveUp 2 = .ok (.putfield 15, 3) := by decide +kernel
theorem dX7_giveUp_5 : decode cX7_giveUp 5 = .ok (.aload_n 0, 1) := by decide +kernel
theorem dX7_giveUp_6 : decode cX7_giveUp 6 = .ok (.iconst 0, 1) := by decide +kernel
theorem dX7_giveUp_7 : decode cX7_giveUp 7 = .ok (.putfield 19, 3) := by decide +kernel
theorem dX7_giveUp_10 : decode cX7_giveUp 10 = .ok (.return_, 1) := by decide +kernel
theorem dX7_has_0 : decode cX7_has 0 = .ok (.iload_n 1, 1) := by decide +kernel
theorem dX7_has_1 : decode cX7_has 1 = .ok (.ifCond .lt 21, 3) := by decide +kernel
theorem dX7_has_4 : decode cX7_has 4 = .ok (.iload_n 1, 1) := by decide +kernel
theorem dX7_has_5 : decode cX7_has 5 = .ok (.aload_n 0, 1) := by decide +kernel
theorem dX7_has_6 : decode cX7_has 6 = .ok (.getfield 19, 3) := by decide +kernel
theorem dX7_has_9 : decode cX7_has 9 = .ok (.if_icmp .ge 13, 3) := by decide +kernel
theorem dX7_has_12 : decode cX7_has 12 = .ok (.iload_n 1, 1) := by decide +kernel
theorem dX7_has_13 : decode cX7_has 13 = .ok (.bipush 64, 2) := by decide +kernel
theorem dX7_has_15 : decode cX7_has 15 = .ok (.if_icmp .ge 7, 3) := by decide +kernel
theorem dX7_has_18 : decode cX7_has 18 = .ok (.iconst 1, 1) := by decide +kernel
theorem dX7_has_19 : decode cX7_has 19 = .ok (.goto 4, 3) := by decide +kernel
theorem dX7_has_22 : decode cX7_has 22 = .ok (.iconst 0, 1) := by decide +kernel
theorem dX7_has_23 : decode cX7_has 23 = .ok (.ireturn, 1) := by decide +kernel
theorem dX7_hasRun_0 : decode cX7_hasRun 0 = .ok (.iload_n 1, 1) := by decide +kernel
theorem dX7_hasRun_1 : decode cX7_hasRun 1 = .ok (.ifCond .lt 21, 3) := by decide +kernel
theorem dX7_hasRun_4 : decode cX7_hasRun 4 = .ok (.iload_n 2, 1) := by decide +kernel
theorem dX7_hasRun_5 : decode cX7_hasRun 5 = .ok (.ifCond .lt 17, 3) := by decide +kernel
theorem dX7_hasRun_8 : decode cX7_hasRun 8 = .ok (.iload_n 1, 1) := by decide +kernel
theorem dX7_hasRun_9 : decode cX7_hasRun 9 = .ok (.aload_n 0, 1) := by decide +kernel
theorem dX7_hasRun_10 : decode cX7_hasRun 10 = .ok (.getfield 19, 3) := by decide +kernel
theorem dX7_hasRun_13 : decode cX7_hasRun 13 = .ok (.iload_n 2, 1) := by decide +kernel
theorem dX7_hasRun_14 : decode cX7_hasRun 14 = .ok (.isub, 1) := by decide +kernel
theorem dX7_hasRun_15 : decode cX7_hasRun 15 = .ok (.if_icmp .gt 7, 3) := by decide +kernel
theorem dX7_hasRun_18 : decode cX7_hasRun 18 = .ok (.iconst 1, 1) := by decide +kernel
theorem dX7_hasRun_19 : decode cX7_hasRun 19 = .ok (.goto 4, 3) := by decide +kernel
theorem dX7_hasRun_22 : decode cX7_hasRun 22 = .ok (.iconst 0, 1) := by decide +kernel
theorem dX7_hasRun_23 : decode cX7_hasRun 23 = .ok (.ireturn, 1) := by decide +kernel
theorem dX7_wrongWith_0 : decode cX7_wrongWith 0 = .ok (.aload_n 0, 1) := by decide +kernel
theorem dX7_wrongWith_1 : decode cX7_wrongWith 1 = .ok (.invokevirtual 34, 3) := by decide +kernel
theorem dX7_wrongWith_4 : decode cX7_wrongWith 4 = .ok (.ifCond .eq 5, 3) := by decide +kernel
theorem dX7_wrongWith_7 : decode cX7_wrongWith 7 = .ok (.iconst 1, 1) := by decide +kernel
theorem dX7_wrongWith_8 : decode cX7_wrongWith 8 = .ok (.ireturn, 1) := by decide +kernel
theorem dX7_wrongWith_9 : decode cX7_wrongWith 9 = .ok (.aload_n 0, 1) := by decide +kernel
theorem dX7_wrongWith_10 : decode cX7_wrongWith 10 = .ok (.getfield 15, 3) := by decide +kernel
theorem dX7_wrongWith_13 : decode cX7_wrongWith 13 = .ok (.iload_n 1, 1) := by decide +kernel
theorem dX7_wrongWith_14 : decode cX7_wrongWith 14 = .ok (.if_icmp .eq 5, 3) := by decide +kernel
theorem dX7_wrongWith_17 : decode cX7_wrongWith 17 = .ok (.iconst 3, 1) := by decide +kernel
theorem dX7_wrongWith_18 : decode cX7_wrongWith 18 = .ok (.ireturn, 1) := by decide +kernel
theorem dX7_wrongWith_19 : decode cX7_wrongWith 19 = .ok (.aload_n 0, 1) := by decide +kernel
theorem dX7_wrongWith_20 : decode cX7_wrongWith 20 = .ok (.iload_n 2, 1) := by decide +kernel
theorem dX7_wrongWith_21 : decode cX7_wrongWith 21 = .ok (.invokevirtual 38, 3) := by decide +kernel
theorem dX7_wrongWith_24 : decode cX7_wrongWith 24 = .ok (.ifCond .eq 7, 3) := by decide +kernel
theorem dX7_wrongWith_27 : decode cX7_wrongWith 27 = .ok (.iconst 0, 1) := by decide +kernel
theorem dX7_wrongWith_28 : decode cX7_wrongWith 28 = .ok (.goto 4, 3) := by decide +kernel
theorem dX7_wrongWith_31 : decode cX7_wrongWith 31 = .ok (.iconst 2, 1) := by decide +kernel
theorem dX7_wrongWith_32 : decode cX7_wrongWith 32 = .ok (.ireturn, 1) := by decide +kernel
theorem dX7_itemAt_0 : decode cX7_itemAt 0 = .ok (.aload_n 0, 1) := by decide +kernel
theorem dX7_itemAt_1 : decode cX7_itemAt 1 = .ok (.iload_n 1, 1) := by decide +kernel
theorem dX7_itemAt_2 : decode cX7_itemAt 2 = .ok (.invokevirtual 38, 3) := by decide +kernel
theorem dX7_itemAt_5 : decode cX7_itemAt 5 = .ok (.ifCond .eq 12, 3) := by decide +kernel
theorem dX7_itemAt_8 : decode cX7_itemAt 8 = .ok (.aload_n 0, 1) := by decide +kernel
theorem dX7_itemAt_9 : decode cX7_itemAt 9 = .ok (.getfield 9, 3) := by decide +kernel
theorem dX7_itemAt_12 : decode cX7_itemAt 12 = .ok (.iload_n 1, 1) := by decide +kernel
theorem dX7_itemAt_13 : decode cX7_itemAt 13 = .ok (.iaload, 1) := by decide +kernel
theorem dX7_itemAt_14 : decode cX7_itemAt 14 = .ok (.goto 4, 3) := by decide +kernel
theorem dX7_itemAt_17 : decode cX7_itemAt 17 = .ok (.iconst 0, 1) := by decide +kernel
theorem dX7_itemAt_18 : decode cX7_itemAt 18 = .ok (.ireturn, 1) := by decide +kernel
theorem dX7_putItem_0 : decode cX7_putItem 0 = .ok (.aload_n 0, 1) := by decide +kernel
theorem dX7_putItem_1 : decode cX7_putItem 1 = .ok (.iload_n 1, 1) := by decide +kernel
theorem dX7_putItem_2 : decode cX7_putItem 2 = .ok (.invokevirtual 38, 3) := by decide +kernel
theorem dX7_putItem_5 : decode cX7_putItem 5 = .ok (.ifCond .eq 35, 3) := by decide +kernel
theorem dX7_putItem_8 : decode cX7_putItem 8 = .ok (.aload_n 0, 1) := by decide +kernel
theorem dX7_putItem_9 : decode cX7_putItem 9 = .ok (.getfield 9, 3) := by decide +kernel
theorem dX7_putItem_12 : decode cX7_putItem 12 = .ok (.iload_n 1, 1) := by decide +kernel
theorem dX7_putItem_13 : decode cX7_putItem 13 = .ok (.aload_n 0, 1) := by decide +kernel
theorem dX7_putItem_14 : decode cX7_putItem 14 = .ok (.getfield 15, 3) := by decide +kernel
theorem dX7_putItem_17 : decode cX7_putItem 17 = .ok (.ifCond .ne 8, 3) := by decide +kernel
theorem dX7_putItem_20 : decode cX7_putItem 20 = .ok (.iload_n 2, 1) := by decide +kernel
theorem dX7_putItem_21 : decode cX7_putItem 21 = .ok (.i2b, 1) := by decide +kernel
theorem dX7_putItem_22 : decode cX7_putItem 22 = .ok (.goto 17, 3) := by decide +kernel
theorem dX7_putItem_25 : decode cX7_putItem 25 = .ok (.aload_n 0, 1) := by decide +kernel
theorem dX7_putItem_26 : decode cX7_putItem 26 = .ok (.getfield 15, 3) := by decide +kernel
theorem dX7_putItem_29 : decode cX7_putItem 29 = .ok (.iconst 1, 1) := by decide +kernel
theorem dX7_putItem_30 : decode cX7_putItem 30 = .ok (.if_icmp .ne 8, 3) := by decide +kernel
theorem dX7_putItem_33 : decode cX7_putItem 33 = .ok (.iload_n 2, 1) := by decide +kernel
theorem dX7_putItem_34 : decode cX7_putItem 34 = .ok (.i2s, 1) := by decide +kernel
theorem dX7_putItem_35 : decode cX7_putItem 35 = .ok (.goto 4, 3) := by decide +kernel
theorem dX7_putItem_38 : decode cX7_putItem 38 = .ok (.iload_n 2, 1) := by decide +kernel
theorem dX7_putItem_39 : decode cX7_putItem 39 = .ok (.iastore, 1) := by decide +kernel
theorem dX7_putItem_40 : decode cX7_putItem 40 = .ok (.return_, 1) := by decide +kernel
theorem dX8_init_0 : decode cX8_init 0 = .ok (.aload_n 0, 1) := by decide +kernel
theorem dX8_init_1 : decode cX8_init 1 = .ok (.invokespecial 3, 3) := by decide +kernel
theorem dX8_init_4 : decode cX8_init 4 = .ok (.aload_n 0, 1) := by decide +kernel
theorem dX8_init_5 : decode cX8_init 5 = .ok (.iconst 0, 1) := by decide +kernel
theorem dX8_init_6 : decode cX8_init 6 = .ok (.putfield 9, 3) := by decide +kernel
theorem dX8_init_9 : decode cX8_init 9 = .ok (.aload_n 0, 1) := by decide +kernel
theorem dX8_init_10 : decode cX8_init 10 = .ok (.invokevirtual 15, 3) := by decide +kernel
theorem dX8_init_13 : decode cX8_init 13 = .ok (.return_, 1) := by decide +kernel
theorem dX8_startWhole_0 : decode cX8_startWhole 0 = .ok (.aload_n 0, 1) := by decide +kernel
theorem dX8_startWhole_1 : decode cX8_startWhole 1 = .ok (.iconst 0, 1) := by decide +kernel
theorem dX8_startWhole_2 : decode cX8_startWhole 2 = .ok (.putfield 18, 3) := by decide +kernel
theorem dX8_startWhole_5 : decode cX8_startWhole 5 = .ok (.aload_n 0, 1) := by decide +kernel
theorem dX8_startWhole_6 : decode cX8_startWhole 6 = .ok (.iconst (-1), 1) := by decide +kernel
theorem dX8_startWhole_7 : decode cX8_startWhole 7 = .ok (.putfield 21, 3) := by decide +kernel
theorem dX8_startWhole_10 : decode cX8_startWhole 10 = .ok (.aload_n 0, 1) := by decide +kernel
theorem dX8_startWhole_11 : decode cX8_startWhole 11 = .ok (.iconst (-1), 1) := by decide +kernel
theorem dX8_startWhole_12 : decode cX8_startWhole 12 = .ok (.putfield 24, 3) := by decide +kernel
theorem dX8_startWhole_15 : decode cX8_startWhole 15 = .ok (.aload_n 0, 1) := by decide +kernel
theorem dX8_startWhole_16 : decode cX8_startWhole 16 = .ok (.iconst 0, 1) := by decide +kernel
theorem dX8_startWhole_17 : decode cX8_startWhole 17 = .ok (.putfield 27, 3) := by decide +kernel
theorem dX8_startWhole_20 : decode cX8_startWhole 20 = .ok (.return_, 1) := by decide +kernel
theorem dX8_goStep_0 : decode cX8_goStep 0 = .ok (.iconst 0, 1) := by decide +kernel
theorem dX8_goStep_1 : decode cX8_goStep 1 = .ok (.istore 4, 2) := by decide +kernel
theorem dX8_goStep_3 : decode cX8_goStep 3 = .ok (.iload 4, 2) := by decide +kernel
theorem dX8_goStep_5 : decode cX8_goStep 5 = .ok (.aload_n 3, 1) := by decide +kernel
theorem dX8_goStep_6 : decode cX8_goStep 6 = .ok (.invokevirtual 30, 3) := by decide +kernel
theorem dX8_goStep_9 : decode cX8_goStep 9 = .ok (.if_icmp .ge 77, 3) := by decide +kernel
theorem dX8_goStep_12 : decode cX8_goStep 12 = .ok (.aload_n 0, 1) := by decide +kernel
theorem dX8_goStep_13 : decode cX8_goStep 13 = .ok (.getfield 18, 3) := by decide +kernel
theorem dX8_goStep_16 : decode cX8_goStep 16 = .ok (.iload 4, 2) := by decide +kernel
theorem dX8_goStep_18 : decode cX8_goStep 18 = .ok (.ishr, 1) := by decide +kernel
theorem dX8_goStep_19 : decode cX8_goStep 19 = .ok (.iconst 1, 1) := by decide +kernel
theorem dX8_goStep_20 : decode cX8_goStep 20 = .ok (.iand, 1) := by decide +kernel
theorem dX8_goStep_21 : decode cX8_goStep 21 = .ok (.ifCond .ne 59, 3) := by decide +kernel
theorem dX8_goStep_24 : decode cX8_goStep 24 = .ok (.aload_n 0, 1) := by decide +kernel
theorem dX8_goStep_25 : decode cX8_goStep 25 = .ok (.iload_n 2, 1) := by decide +kernel
theorem dX8_goStep_26 : decode cX8_goStep 26 = .ok (.aload_n 3, 1) := by decide +kernel
theorem dX8_goStep_27 : decode cX8_goStep 27 = .ok (.iload 4, 2) := by decide +kernel
theorem dX8_goStep_29 : decode cX8_goStep 29 = .ok (.invokevirtual 36, 3) := by decide +kernel
theorem dX8_goStep_32 : decode cX8_goStep 32 = .ok (.invokevirtual 40, 3) := by decide +kernel
theorem dX8_goStep_35 : decode cX8_goStep 35 = .ok (.ifCond .eq 45, 3) := by decide +kernel
theorem dX8_goStep_38 : decode cX8_goStep 38 = .ok (.aload_n 0, 1) := by decide +kernel
theorem dX8_goStep_39 : decode cX8_goStep 39 = .ok (.dup, 1) := by decide +kernel
theorem dX8_goStep_40 : decode cX8_goStep 40 = .ok (.getfield 18, 3) := by decide +kernel
theorem dX8_goStep_43 : decode cX8_goStep 43 = .ok (.iconst 1, 1) := by decide +kernel
theorem dX8_goStep_44 : decode cX8_goStep 44 = .ok (.iload 4, 2) := by decide +kernel
theorem dX8_goStep_46 : decode cX8_goStep 46 = .ok (.ishl, 1) := by decide +kernel
theorem dX8_goStep_47 : decode cX8_goStep 47 = .ok (.ior, 1) := by decide +kernel
theorem dX8_goStep_48 : decode cX8_goStep 48 = .ok (.putfield 18, 3) := by decide +kernel
theorem dX8_goStep_51 : decode cX8_goStep 51 = .ok (.aload_n 0, 1) := by decide +kernel
theorem dX8_goStep_52 : decode cX8_goStep 52 = .ok (.dup, 1) := by decide +kernel
theorem dX8_goStep_53 : decode cX8_goStep 53 = .ok (.getfield 27, 3) := by decide +kernel
theorem dX8_goStep_56 : decode cX8_goStep 56 = .ok (.iconst 1, 1) := by decide +kernel
theorem dX8_goStep_57 : decode cX8_goStep 57 = .ok (.iadd, 1) := by decide +kernel
theorem dX8_goStep_58 : decode cX8_goStep 58 = .ok (.putfield 27, 3) := by decide +kernel
theorem dX8_goStep_61 : decode cX8_goStep 61 = .ok (.aload_n 0, 1) := by decide +kernel
theorem dX8_goStep_62 : decode cX8_goStep 62 = .ok (.getfield 21, 3) := by decide +kernel
theorem dX8_goStep_65 : decode cX8_goStep 65 = .ok (.iconst (-1), 1) := by decide +kernel
theorem dX8_goStep_66 : decode cX8_goStep 66 = .ok (.if_icmp .ne 14, 3) := by decide +kernel
theorem dX8_goStep_69 : decode cX8_goStep 69 = .ok (.aload_n 0, 1) := by decide +kernel
theorem dX8_goStep_70 : decode cX8_goStep 70 = .ok (.iload 4, 2) := by decide +kernel
theorem dX8_goStep_72 : decode cX8_goStep 72 = .ok (.putfield 21, 3) := by decide +kernel
theorem dX8_goStep_75 : decode cX8_goStep 75 = .ok (.aload_n 0, 1) := by decide +kernel
theorem dX8_goStep_76 : decode cX8_goStep 76 = .ok (.iload_n 1, 1) := by decide +kernel
theorem dX8_goStep_77 : decode cX8_goStep 77 = .ok (.putfield 24, 3) := by decide +kernel
theorem dX8_goStep_80 : decode cX8_goStep 80 = .ok (.iinc 4 1, 3) := by decide +kernel
theorem dX8_goStep_83 : decode cX8_goStep 83 = .ok (.goto (-80), 3) := by decide +kernel
theorem dX8_goStep_86 : decode cX8_goStep 86 = .ok (.return_, 1) := by decide +kernel
theorem dX8_tears_0 : decode cX8_tears 0 = .ok (.aload_n 0, 1) := by decide +kernel
theorem dX8_tears_1 : decode cX8_tears 1 = .ok (.invokevirtual 44, 3) := by decide +kernel
theorem dX8_tears_4 : decode cX8_tears 4 = .ok (.iload_n 1, 1) := by decide +kernel
theorem dX8_tears_5 : decode cX8_tears 5 = .ok (.if_icmp .ge 15, 3) := by decide +kernel
theorem dX8_tears_8 : decode cX8_tears 8 = .ok (.aload_n 0, 1) := by decide +kernel
theorem dX8_tears_9 : decode cX8_tears 9 = .ok (.invokevirtual 44, 3) := by decide +kernel
theorem dX8_tears_12 : decode cX8_tears 12 = .ok (.iload_n 2, 1) := by decide +kernel
theorem dX8_tears_13 : decode cX8_tears 13 = .ok (.if_icmp .lt 7, 3) := by decide +kernel
theorem dX8_tears_16 : decode cX8_tears 16 = .ok (.iconst 1, 1) := by decide +kernel
theorem dX8_tears_17 : decode cX8_tears 17 = .ok (.goto 4, 3) := by decide +kernel
theorem dX8_tears_20 : decode cX8_tears 20 = .ok (.iconst 0, 1) := by decide +kernel
theorem dX8_tears_21 : decode cX8_tears 21 = .ok (.ireturn, 1) := by decide +kernel
theorem dX8_lotOfSixteen_0 : decode cX8_lotOfSixteen 0 = .ok (.aload_n 0, 1) := by decide +kernel
theorem dX8_lotOfSixteen_1 : decode cX8_lotOfSixteen 1 = .ok (.ldc 47, 2) := by decide +kernel
theorem dX8_lotOfSixteen_3 : decode cX8_lotOfSixteen 3 = .ok (.aload_n 0, 1) := by decide +kernel
theorem dX8_lotOfSixteen_4 : decode cX8_lotOfSixteen 4 = .ok (.getfield 9, 3) := by decide +kernel
theorem dX8_lotOfSixteen_7 : decode cX8_lotOfSixteen 7 = .ok (.imul, 1) := by decide +kernel
theorem dX8_lotOfSixteen_8 : decode cX8_lotOfSixteen 8 = .ok (.sipush 12345, 3) := by decide +kernel
theorem dX8_lotOfSixteen_11 : decode cX8_lotOfSixteen 11 = .ok (.iadd, 1) := by decide +kernel
theorem dX8_lotOfSixteen_12 : decode cX8_lotOfSixteen 12 = .ok (.putfield 9, 3) := by decide +kernel
theorem dX8_lotOfSixteen_15 : decode cX8_lotOfSixteen 15 = .ok (.aload_n 0, 1) := by decide +kernel
theorem dX8_lotOfSixteen_16 : decode cX8_lotOfSixteen 16 = .ok (.getfield 9, 3) := by decide +kernel
theorem dX8_lotOfSixteen_19 : decode cX8_lotOfSixteen 19 = .ok (.bipush 16, 2) := by decide +kernel
theorem dX8_lotOfSixteen_21 : decode cX8_lotOfSixteen 21 = .ok (.iushr, 1) := by decide +kernel
theorem dX8_lotOfSixteen_22 : decode cX8_lotOfSixteen 22 = .ok (.bipush 16, 2) := by decide +kernel
theorem dX8_lotOfSixteen_24 : decode cX8_lotOfSixteen 24 = .ok (.irem, 1) := by decide +kernel
theorem dX8_lotOfSixteen_25 : decode cX8_lotOfSixteen 25 = .ok (.ireturn, 1) := by decide +kernel
theorem dX9_init_0 : decode cX9_init 0 = .ok (.aload_n 0, 1) := by decide +kernel
theorem dX9_init_1 : decode cX9_init 1 = .ok (.invokespecial 3, 3) := by decide +kernel
theorem dX9_init_4 : decode cX9_init 4 = .ok (.aload_n 0, 1) := by decide +kernel
theorem dX9_init_5 : decode cX9_init 5 = .ok (.iload_n 1, 1) := by decide +kernel
theorem dX9_init_6 : decode cX9_init 6 = .ok (.putfield 9, 3) := by decide +kernel
theorem dX9_init_9 : decode cX9_init 9 = .ok (.aload_n 0, 1) := by decide +kernel
theorem dX9_init_10 : decode cX9_init 10 = .ok (.bipush 71, 2) := by decide +kernel
theorem dX9_init_12 : decode cX9_init 12 = .ok (.newarray .int, 2) := by decide +kernel
theorem dX9_init_14 : decode cX9_init 14 = .ok (.putfield 15, 3) := by decide +kernel
theorem dX9_init_17 : decode cX9_init 17 = .ok (.aload_n 0, 1) := by decide +kernel
theorem dX9_init_18 : decode cX9_init 18 = .ok (.iconst 0, 1) := by decide +kernel
theorem dX9_init_19 : decode cX9_init 19 = .ok (.putfield 19, 3) := by decide +kernel
theorem dX9_init_22 : decode cX9_init 22 = .ok (.aload_n 0, 1) := by decide +kernel
theorem dX9_init_23 : decode cX9_init 23 = .ok (.iconst (-1), 1) := by decide +kernel
theorem dX9_init_24 : decode cX9_init 24 = .ok (.putfield 22, 3) := by decide +kernel
theorem dX9_init_27 : decode cX9_init 27 = .ok (.return_, 1) := by decide +kernel
theorem dX9_isFull_0 : decode cX9_isFull 0 = .ok (.aload_n 0, 1) := by decide +kernel
theorem dX9_isFull_1 : decode cX9_isFull 1 = .ok (.getfield 19, 3) := by decide +kernel
theorem dX9_isFull_4 : decode cX9_isFull 4 = .ok (.aload_n 0, 1) := by decide +kernel
theorem dX9_isFull_5 : decode cX9_isFull 5 = .ok (.getfield 9, 3) := by decide +kernel
theorem dX9_isFull_8 : decode cX9_isFull 8 = .ok (.if_icmp .ge 12, 3) := by decide +kernel
theorem dX9_isFull_11 : decode cX9_isFull 11 = .ok (.aload_n 0, 1) := by decide +kernel
theorem dX9_isFull_12 : decode cX9_isFull 12 = .ok (.getfield 19, 3) := by decide +kernel
theorem dX9_isFull_15 : decode cX9_isFull 15 = .ok (.bipush 71, 2) := by decide +kernel
theorem dX9_isFull_17 : decode cX9_isFull 17 = .ok (.if_icmp .lt 7, 3) := by decide +kernel
theorem dX9_isFull_20 : decode cX9_isFull 20 = .ok (.iconst 1, 1) := by decide +kernel
theorem dX9_isFull_21 : decode cX9_isFull 21 = .ok (.goto 4, 3) := by decide +kernel
theorem dX9_isFull_24 : decode cX9_isFull 24 = .ok (.iconst 0, 1) := by decide +kernel
theorem dX9_isFull_25 : decode cX9_isFull 25 = .ok (.ireturn, 1) := by decide +kernel
theorem dX9_append_0 : decode cX9_append 0 = .ok (.aload_n 0, 1) := by decide +kernel
theorem dX9_append_1 : decode cX9_append 1 = .ok (.getfield 19, 3) := by decide +kernel
theorem dX9_append_4 : decode cX9_append 4 = .ok (.ifCond .lt 32, 3) := by decide +kernel
theorem dX9_append_7 : decode cX9_append 7 = .ok (.aload_n 0, 1) := by decide +kernel
theorem dX9_append_8 : decode cX9_append 8 = .ok (.getfield 19, 3) := by decide +kernel
theorem dX9_append_11 : decode cX9_append 11 = .ok (.bipush 71, 2) := by decide +kernel
theorem dX9_append_13 : decode cX9_append 13 = .ok (.if_icmp .ge 23, 3) := by decide +kernel
theorem dX9_append_16 : decode cX9_append 16 = .ok (.aload_n 0, 1) := by decide +kernel
theorem dX9_append_17 : decode cX9_append 17 = .ok (.getfield 15, 3) := by decide +kernel
theorem dX9_append_20 : decode cX9_append 20 = .ok (.aload_n 0, 1) := by decide +kernel
theorem dX9_append_21 : decode cX9_append 21 = .ok (.getfield 19, 3) := by decide +kernel
theorem dX9_append_24 : decode cX9_append 24 = .ok (.iload_n 1, 1) := by decide +kernel
theorem dX9_append_25 : decode cX9_append 25 = .ok (.iastore, 1) := by decide +kernel
theorem dX9_append_26 : decode cX9_append 26 = .ok (.aload_n 0, 1) := by decide +kernel
theorem dX9_append_27 : decode cX9_append 27 = .ok (.dup, 1) := by decide +kernel
theorem dX9_append_28 : decode cX9_append 28 = .ok (.getfield 19, 3) := by decide +kernel
theorem dX9_append_31 : decode cX9_append 31 = .ok (.iconst 1, 1) := by decide +kernel
theorem dX9_append_32 : decode cX9_append 32 = .ok (.iadd, 1) := by decide +kernel
theorem dX9_append_33 : decode cX9_append 33 = .ok (.putfield 19, 3) := by decide +kernel
theorem dX9_append_36 : decode cX9_append 36 = .ok (.return_, 1) := by decide +kernel
theorem dX9_byteAt_0 : decode cX9_byteAt 0 = .ok (.iload_n 1, 1) := by decide +kernel
theorem dX9_byteAt_1 : decode cX9_byteAt 1 = .ok (.ifCond .lt 26, 3) := by decide +kernel
theorem dX9_byteAt_4 : decode cX9_byteAt 4 = .ok (.iload_n 1, 1) := by decide +kernel
theorem dX9_byteAt_5 : decode cX9_byteAt 5 = .ok (.aload_n 0, 1) := by decide +kernel
theorem dX9_byteAt_6 : decode cX9_byteAt 6 = .ok (.getfield 19, 3) := by decide +kernel
theorem dX9_byteAt_9 : decode cX9_byteAt 9 = .ok (.if_icmp .ge 18, 3) := by decide +kernel
theorem dX9_byteAt_12 : decode cX9_byteAt 12 = .ok (.iload_n 1, 1) := by decide +kernel
theorem dX9_byteAt_13 : decode cX9_byteAt 13 = .ok (.bipush 71, 2) := by decide +kernel
theorem dX9_byteAt_15 : decode cX9_byteAt 15 = .ok (.if_icmp .ge 12, 3) := by decide +kernel
theorem dX9_byteAt_18 : decode cX9_byteAt 18 = .ok (.aload_n 0, 1) := by decide +kernel
theorem dX9_byteAt_19 : decode cX9_byteAt 19 = .ok (.getfield 15, 3) := by decide +kernel
theorem dX9_byteAt_22 : decode cX9_byteAt 22 = .ok (.iload_n 1, 1) := by decide +kernel
theorem dX9_byteAt_23 : decode cX9_byteAt 23 = .ok (.iaload, 1) := by decide +kernel
theorem dX9_byteAt_24 : decode cX9_byteAt 24 = .ok (.goto 4, 3) := by decide +kernel
theorem dX9_byteAt_27 : decode cX9_byteAt 27 = .ok (.iconst (-1), 1) := by decide +kernel
theorem dX9_byteAt_28 : decode cX9_byteAt 28 = .ok (.ireturn, 1) := by decide +kernel
theorem dX10_init_0 : decode cX10_init 0 = .ok (.aload_n 0, 1) := by decide +kernel
theorem dX10_init_1 : decode cX10_init 1 = .ok (.invokespecial 3, 3) := by decide +kernel
theorem dX10_init_4 : decode cX10_init 4 = .ok (.aload_n 0, 1) := by decide +kernel
theorem dX10_init_5 : decode cX10_init 5 = .ok (.bipush 40, 2) := by decide +kernel
theorem dX10_init_7 : decode cX10_init 7 = .ok (.newarray .int, 2) := by decide +kernel
theorem dX10_init_9 : decode cX10_init 9 = .ok (.putfield 9, 3) := by decide +kernel
theorem dX10_init_12 : decode cX10_init 12 = .ok (.aload_n 0, 1) := by decide +kernel
theorem dX10_init_13 : decode cX10_init 13 = .ok (.bipush 41, 2) := by decide +kernel
theorem dX10_init_15 : decode cX10_init 15 = .ok (.newarray .int, 2) := by decide +kernel
theorem dX10_init_17 : decode cX10_init 17 = .ok (.putfield 15, 3) := by decide +kernel
theorem dX10_init_20 : decode cX10_init 20 = .ok (.aload_n 0, 1) := by decide +kernel
theorem dX10_init_21 : decode cX10_init 21 = .ok (.iconst 0, 1) := by decide +kernel
theorem dX10_init_22 : decode cX10_init 22 = .ok (.putfield 18, 3) := by decide +kernel
theorem dX10_init_25 : decode cX10_init 25 = .ok (.aload_n 0, 1) := by decide +kernel
theorem dX10_init_26 : decode cX10_init 26 = .ok (.iconst 0, 1) := by decide +kernel
theorem dX10_init_27 : decode cX10_init 27 = .ok (.putfield 22, 3) := by decide +kernel
theorem dX10_init_30 : decode cX10_init 30 = .ok (.aload_n 0, 1) := by decide +kernel
theorem dX10_init_31 : decode cX10_init 31 = .ok (.iconst 0, 1) := by decide +kernel
theorem dX10_init_32 : decode cX10_init 32 = .ok (.putfield 25, 3) := by decide +kernel
theorem dX10_init_35 : decode cX10_init 35 = .ok (.return_, 1) := by decide +kernel
theorem dX10_takeText_0 : decode cX10_takeText 0 = .ok (.aload_n 0, 1) := by decide +kernel
theorem dX10_takeText_1 : decode cX10_takeText 1 = .ok (.iconst 0, 1) := by decide +kernel
theorem dX10_takeText_2 : decode cX10_takeText 2 = .ok (.putfield 22, 3) := by decide +kernel
theorem dX10_takeText_5 : decode cX10_takeText 5 = .ok (.iconst 0, 1) := by decide +kernel
theorem dX10_takeText_6 : decode cX10_takeText 6 = .ok (.istore_n 2, 1) := by decide +kernel
theorem dX10_takeText_7 : decode cX10_takeText 7 = .ok (.iload_n 2, 1) := by decide +kernel
theorem dX10_takeText_8 : decode cX10_takeText 8 = .ok (.aload_n 1, 1) := by decide +kernel
theorem dX10_takeText_9 : decode cX10_takeText 9 = .ok (.getfield 28, 3) := by decide +kernel
theorem dX10_takeText_12 : decode cX10_takeText 12 = .ok (.if_icmp .ge 38, 3) := by decide +kernel
theorem dX10_takeText_15 : decode cX10_takeText 15 = .ok (.aload_n 1, 1) := by decide +kernel
theorem dX10_takeText_16 : decode cX10_takeText 16 = .ok (.iload_n 2, 1) := by decide +kernel
theorem dX10_takeText_17 : decode cX10_takeText 17 = .ok (.invokevirtual 31, 3) := by decide +kernel
theorem dX10_takeText_20 : decode cX10_takeText 20 = .ok (.invokestatic 35, 3) := by decide +kernel
theorem dX10_takeText_23 : decode cX10_takeText 23 = .ok (.istore_n 3, 1) := by decide +kernel
theorem dX10_takeText_24 : decode cX10_takeText 24 = .ok (.iload_n 3, 1) := by decide +kernel
theorem dX10_takeText_25 : decode cX10_takeText 25 = .ok (.iconst (-1), 1) := by decide +kernel
theorem dX10_takeText_26 : decode cX10_takeText 26 = .ok (.if_icmp .eq 9, 3) := by decide +kernel
theorem dX10_takeText_29 : decode cX10_takeText 29 = .ok (.iload_n 2, 1) := by decide +kernel
theorem dX10_takeText_30 : decode cX10_takeText 30 = .ok (.bipush 40, 2) := by decide +kernel
theorem dX10_takeText_32 : decode cX10_takeText 32 = .ok (.if_icmp .lt 5, 3) := by decide +kernel
theorem dX10_takeText_35 : decode cX10_takeText 35 = .ok (.iload_n 2, 1) := by decide +kernel
theorem dX10_takeText_36 : decode cX10_takeText 36 = .ok (.ireturn, 1) := by decide +kernel
theorem dX10_takeText_37 : decode cX10_takeText 37 = .ok (.aload_n 0, 1) := by decide +kernel
theorem dX10_takeText_38 : decode cX10_takeText 38 = .ok (.getfield 9, 3) := by decide +kernel
theorem dX10_takeText_41 : decode cX10_takeText 41 = .ok (.iload_n 2, 1) := by decide +kernel
theorem dX10_takeText_42 : decode cX10_takeText 42 = .ok (.iload_n 3, 1) := by decide +kernel
theorem dX10_takeText_43 : decode cX10_takeText 43 = .ok (.iastore, 1) := by decide +kernel
theorem dX10_takeText_44 : decode cX10_takeText 44 = .ok (.iinc 2 1, 3) := by decide +kernel
theorem dX10_takeText_47 : decode cX10_takeText 47 = .ok (.goto (-40), 3) := by decide +kernel
theorem dX10_takeText_50 : decode cX10_takeText 50 = .ok (.aload_n 0, 1) := by decide +kernel
theorem dX10_takeText_51 : decode cX10_takeText 51 = .ok (.aload_n 1, 1) := by decide +kernel
theorem dX10_takeText_52 : decode cX10_takeText 52 = .ok (.getfield 28, 3) := by decide +kernel
theorem dX10_takeText_55 : decode cX10_takeText 55 = .ok (.putfield 22, 3) := by decide +kernel
theorem dX10_takeText_58 : decode cX10_takeText 58 = .ok (.iconst (-1), 1) := by decide +kernel
theorem dX10_takeText_59 : decode cX10_takeText 59 = .ok (.ireturn, 1) := by decide +kernel
theorem dX10_directionOf_0 : decode cX10_directionOf 0 = .ok (.iload_n 0, 1) := by decide +kernel
theorem dX10_directionOf_1 : decode cX10_directionOf 1 = .ok (.lookupswitch 51 #[(101, 45), (110, 43), (115, 47), (119, 49)], 43) := by decide +kernel
theorem dX10_directionOf_44 : decode cX10_directionOf 44 = .ok (.iconst 0, 1) := by decide +kernel
theorem dX10_directionOf_45 : decode cX10_directionOf 45 = .ok (.ireturn, 1) := by decide +kernel
theorem dX10_directionOf_46 : decode cX10_directionOf 46 = .ok (.iconst 1, 1) := by decide +kernel
theorem dX10_directionOf_47 : decode cX10_directionOf 47 = .ok (.ireturn, 1) := by decide +kernel
theorem dX10_directionOf_48 : decode cX10_directionOf 48 = .ok (.iconst 2, 1) := by decide +kernel
theorem dX10_directionOf_49 : decode cX10_directionOf 49 = .ok (.ireturn, 1) := by decide +kernel
theorem dX10_directionOf_50 : decode cX10_directionOf 50 = .ok (.iconst 3, 1) := by decide +kernel
theorem dX10_directionOf_51 : decode cX10_directionOf 51 = .ok (.ireturn, 1) := by decide +kernel
theorem dX10_directionOf_52 : decode cX10_directionOf 52 = .ok (.iconst (-1), 1) := by decide +kernel
theorem dX10_directionOf_53 : decode cX10_directionOf 53 = .ok (.ireturn, 1) := by decide +kernel
theorem dX10_retrace_0 : decode cX10_retrace 0 = .ok (.aload_n 0, 1) := by decide +kernel
theorem dX10_retrace_1 : decode cX10_retrace 1 = .ok (.iconst 0, 1) := by decide +kernel
theorem dX10_retrace_2 : decode cX10_retrace 2 = .ok (.putfield 25, 3) := by decide +kernel
theorem dX10_retrace_5 : decode cX10_retrace 5 = .ok (.aload_n 0, 1) := by decide +kernel
theorem dX10_retrace_6 : decode cX10_retrace 6 = .ok (.getfield 15, 3) := by decide +kernel
theorem dX10_retrace_9 : decode cX10_retrace 9 = .ok (.iconst 0, 1) := by decide +kernel
theorem dX10_retrace_10 : decode cX10_retrace 10 = .ok (.aload_n 0, 1) := by decide +kernel
theorem dX10_retrace_11 : decode cX10_retrace 11 = .ok (.getfield 18, 3) := by decide +kernel
theorem dX10_retrace_14 : decode cX10_retrace 14 = .ok (.iastore, 1) := by decide +kernel
theorem dX10_retrace_15 : decode cX10_retrace 15 = .ok (.iconst 0, 1) := by decide +kernel
theorem dX10_retrace_16 : decode cX10_retrace 16 = .ok (.istore_n 2, 1) := by decide +kernel
theorem dX10_retrace_17 : decode cX10_retrace 17 = .ok (.iload_n 2, 1) := by decide +kernel
theorem dX10_retrace_18 : decode cX10_retrace 18 = .ok (.aload_n 0, 1) := by decide +kernel
theorem dX10_retrace_19 : decode cX10_retrace 19 = .ok (.getfield 22, 3) := by decide +kernel
theorem dX10_retrace_22 : decode cX10_retrace 22 = .ok (.if_icmp .ge 54, 3) := by decide +kernel
theorem dX10_retrace_25 : decode cX10_retrace 25 = .ok (.iload_n 2, 1) := by decide +kernel
theorem dX10_retrace_26 : decode cX10_retrace 26 = .ok (.bipush 40, 2) := by decide +kernel
theorem dX10_retrace_28 : decode cX10_retrace 28 = .ok (.if_icmp .ge 48, 3) := by decide +kernel
theorem dX10_retrace_31 : decode cX10_retrace 31 = .ok (.aload_n 1, 1) := by decide +kernel
theorem dX10_retrace_32 : decode cX10_retrace 32 = .ok (.aload_n 0, 1) := by decide +kernel
theorem dX10_retrace_33 : decode cX10_retrace 33 = .ok (.getfield 15, 3) := by decide +kernel
theorem dX10_retrace_36 : decode cX10_retrace 36 = .ok (.iload_n 2, 1) := by decide +kernel
theorem dX10_retrace_37 : decode cX10_retrace 37 = .ok (.iaload, 1) := by decide +kernel
theorem dX10_retrace_38 : decode cX10_retrace 38 = .ok (.aload_n 0, 1) := by decide +kernel
theorem dX10_retrace_39 : decode cX10_retrace 39 = .ok (.getfield 9, 3) := by decide +kernel
theorem dX10_retrace_42 : decode cX10_retrace 42 = .ok (.iload_n 2, 1) := by decide +kernel
theorem dX10_retrace_43 : decode cX10_retrace 43 = .ok (.iaload, 1) := by decide +kernel
theorem dX10_retrace_44 : decode cX10_retrace 44 = .ok (.invokevirtual 38, 3) := by decide +kernel
theorem dX10_retrace_47 : decode cX10_retrace 47 = .ok (.istore_n 3, 1) := by decide +kernel
theorem dX10_retrace_48 : decode cX10_retrace 48 = .ok (.iload_n 3, 1) := by decide +kernel
theorem dX10_retrace_49 : decode cX10_retrace 49 = .ok (.iconst (-1), 1) := by decide +kernel
theorem dX10_retrace_50 : decode cX10_retrace 50 = .ok (.if_icmp .ne 4, 3) := by decide +kernel
theorem dX10_retrace_53 : decode cX10_retrace 53 = .ok (.return_, 1) := by decide +kernel
theorem dX10_retrace_54 : decode cX10_retrace 54 = .ok (.aload_n 0, 1) := by decide +kernel
theorem dX10_retrace_55 : decode cX10_retrace 55 = .ok (.getfield 15, 3) := by decide +kernel
theorem dX10_retrace_58 : decode cX10_retrace 58 = .ok (.iload_n 2, 1) := by decide +kernel
theorem dX10_retrace_59 : decode cX10_retrace 59 = .ok (.iconst 1, 1) := by decide +kernel
theorem dX10_retrace_60 : decode cX10_retrace 60 = .ok (.iadd, 1) := by decide +kernel
theorem dX10_retrace_61 : decode cX10_retrace 61 = .ok (.iload_n 3, 1) := by decide +kernel
theorem dX10_retrace_62 : decode cX10_retrace 62 = .ok (.iastore, 1) := by decide +kernel
theorem dX10_retrace_63 : decode cX10_retrace 63 = .ok (.aload_n 0, 1) := by decide +kernel
theorem dX10_retrace_64 : decode cX10_retrace 64 = .ok (.iload_n 2, 1) := by decide +kernel
theorem dX10_retrace_65 : decode cX10_retrace 65 = .ok (.iconst 1, 1) := by decide +kernel
theorem dX10_retrace_66 : decode cX10_retrace 66 = .ok (.iadd, 1) := by decide +kernel
theorem dX10_retrace_67 : decode cX10_retrace 67 = .ok (.putfield 25, 3) := by decide +kernel
theorem dX10_retrace_70 : decode cX10_retrace 70 = .ok (.iinc 2 1, 3) := by decide +kernel
theorem dX10_retrace_73 : decode cX10_retrace 73 = .ok (.goto (-56), 3) := by decide +kernel
theorem dX10_retrace_76 : decode cX10_retrace 76 = .ok (.return_, 1) := by decide +kernel
theorem dX10_placeBehind_0 : decode cX10_placeBehind 0 = .ok (.iload_n 1, 1) := by decide +kernel
theorem dX10_placeBehind_1 : decode cX10_placeBehind 1 = .ok (.ifCond .lt 26, 3) := by decide +kernel
theorem dX10_placeBehind_4 : decode cX10_placeBehind 4 = .ok (.iload_n 1, 1) := by decide +kernel
theorem dX10_placeBehind_5 : decode cX10_placeBehind 5 = .ok (.aload_n 0, 1) := by decide +kernel
theorem dX10_placeBehind_6 : decode cX10_placeBehind 6 = .ok (.getfield 25, 3) := by decide +kernel
theorem dX10_placeBehind_9 : decode cX10_placeBehind 9 = .ok (.if_icmp .gt 18, 3) := by decide +kernel
theorem dX10_placeBehind_12 : decode cX10_placeBehind 12 = .ok (.iload_n 1, 1) := by decide +kernel
theorem dX10_placeBehind_13 : decode cX10_placeBehind 13 = .ok (.bipush 40, 2) := by decide +kernel
theorem dX10_placeBehind_15 : decode cX10_placeBehind 15 = .ok (.if_icmp .gt 12, 3) := by decide +kernel
theorem dX10_placeBehind_18 : decode cX10_placeBehind 18 = .ok (.aload_n 0, 1) := by decide +kernel
theorem dX10_placeBehind_19 : decode cX10_placeBehind 19 = .ok (.getfield 15, 3) := by decide +kernel
theorem dX10_placeBehind_22 : decode cX10_placeBehind 22 = .ok (.iload_n 1, 1) := by decide +kernel
theorem dX10_placeBehind_23 : decode cX10_placeBehind 23 = .ok (.iaload, 1) := by decide +kernel
theorem dX10_placeBehind_24 : decode cX10_placeBehind 24 = .ok (.goto 4, 3) := by decide +kernel
theorem dX10_placeBehind_27 : decode cX10_placeBehind 27 = .ok (.iconst (-1), 1) := by decide +kernel
theorem dX10_placeBehind_28 : decode cX10_placeBehind 28 = .ok (.ireturn, 1) := by decide +kernel
theorem dX11_init_0 : decode cX11_init 0 = .ok (.aload_n 0, 1) := by decide +kernel
theorem dX11_init_1 : decode cX11_init 1 = .ok (.invokespecial 1, 3) := by decide +kernel
theorem dX11_init_4 : decode cX11_init 4 = .ok (.aload_n 0, 1) := by decide +kernel
theorem dX11_init_5 : decode cX11_init 5 = .ok (.new 7, 3) := by decide +kernel
theorem dX11_init_8 : decode cX11_init 8 = .ok (.dup, 1) := by decide +kernel
theorem dX11_init_9 : decode cX11_init 9 = .ok (.bipush 71, 2) := by decide +kernel
theorem dX11_init_11 : decode cX11_init 11 = .ok (.invokespecial 11, 3) := by decide +kernel
theorem dX11_init_14 : decode cX11_init 14 = .ok (.putfield 14, 3) := by decide +kernel
theorem dX11_init_17 : decode cX11_init 17 = .ok (.aload_n 0, 1) := by decide +kernel
theorem dX11_init_18 : decode cX11_init 18 = .ok (.new 7, 3) := by decide +kernel
theorem dX11_init_21 : decode cX11_init 21 = .ok (.dup, 1) := by decide +kernel
theorem dX11_init_22 : decode cX11_init 22 = .ok (.iconst 5, 1) := by decide +kernel
theorem dX11_init_23 : decode cX11_init 23 = .ok (.invokespecial 11, 3) := by decide +kernel
theorem dX11_init_26 : decode cX11_init 26 = .ok (.putfield 18, 3) := by decide +kernel
theorem dX11_init_29 : decode cX11_init 29 = .ok (.aload_n 0, 1) := by decide +kernel
theorem dX11_init_30 : decode cX11_init 30 = .ok (.new 7, 3) := by decide +kernel
theorem dX11_init_33 : decode cX11_init 33 = .ok (.dup, 1) := by decide +kernel
theorem dX11_init_34 : decode cX11_init 34 = .ok (.bipush 40, 2) := by decide +kernel
theorem dX11_init_36 : decode cX11_init 36 = .ok (.invokespecial 11, 3) := by decide +kernel
theorem dX11_init_39 : decode cX11_init 39 = .ok (.putfield 21, 3) := by decide +kernel
theorem dX11_init_42 : decode cX11_init 42 = .ok (.aload_n 0, 1) := by decide +kernel
theorem dX11_init_43 : decode cX11_init 43 = .ok (.new 24, 3) := by decide +kernel
theorem dX11_init_46 : decode cX11_init 46 = .ok (.dup, 1) := by decide +kernel
theorem dX11_init_47 : decode cX11_init 47 = .ok (.invokespecial 26, 3) := by decide +kernel
theorem dX11_init_50 : decode cX11_init 50 = .ok (.putfield 27, 3) := by decide +kernel
theorem dX11_init_53 : decode cX11_init 53 = .ok (.aload_n 0, 1) := by decide +kernel
theorem dX11_init_54 : decode cX11_init 54 = .ok (.new 31, 3) := by decide +kernel
theorem dX11_init_57 : decode cX11_init 57 = .ok (.dup, 1) := by decide +kernel
theorem dX11_init_58 : decode cX11_init 58 = .ok (.aload_n 0, 1) := by decide +kernel
theorem dX11_init_59 : decode cX11_init 59 = .ok (.getfield 27, 3) := by decide +kernel
theorem dX11_init_62 : decode cX11_init 62 = .ok (.invokespecial 33, 3) := by decide +kernel
theorem dX11_init_65 : decode cX11_init 65 = .ok (.putfield 36, 3) := by decide +kernel
theorem dX11_init_68 : decode cX11_init 68 = .ok (.aload_n 0, 1) := by decide +kernel
theorem dX11_init_69 : decode cX11_init 69 = .ok (.new 40, 3) := by decide +kernel
theorem dX11_init_72 : decode cX11_init 72 = .ok (.dup, 1) := by decide +kernel
theorem dX11_init_73 : decode cX11_init 73 = .ok (.aload_n 0, 1) := by decide +kernel
theorem dX11_init_74 : decode cX11_init 74 = .ok (.getfield 27, 3) := by decide +kernel
theorem dX11_init_77 : decode cX11_init 77 = .ok (.invokespecial 42, 3) := by decide +kernel
theorem dX11_init_80 : decode cX11_init 80 = .ok (.putfield 43, 3) := by decide +kernel
theorem dX11_init_83 : decode cX11_init 83 = .ok (.aload_n 0, 1) := by decide +kernel
theorem dX11_init_84 : decode cX11_init 84 = .ok (.new 47, 3) := by decide +kernel
theorem dX11_init_87 : decode cX11_init 87 = .ok (.dup, 1) := by decide +kernel
theorem dX11_init_88 : decode cX11_init 88 = .ok (.invokespecial 49, 3) := by decide +kernel
theorem dX11_init_91 : decode cX11_init 91 = .ok (.putfield 50, 3) := by decide +kernel
theorem dX11_init_94 : decode cX11_init 94 = .ok (.aload_n 0, 1) := by decide +kernel
theorem dX11_init_95 : decode cX11_init 95 = .ok (.new 54, 3) := by decide +kernel
theorem dX11_init_98 : decode cX11_init 98 = .ok (.dup, 1) := by decide +kernel
theorem dX11_init_99 : decode cX11_init 99 = .ok (.invokespecial 56, 3) := by decide +kernel
theorem dX11_init_102 : decode cX11_init 102 = .ok (.putfield 57, 3) := by decide +kernel
theorem dX11_init_105 : decode cX11_init 105 = .ok (.aload_n 0, 1) := by decide +kernel
theorem dX11_init_106 : decode cX11_init 106 = .ok (.new 61, 3) := by decide +kernel
theorem dX11_init_109 : decode cX11_init 109 = .ok (.dup, 1) := by decide +kernel
theorem dX11_init_110 : decode cX11_init 110 = .ok (.invokespecial 63, 3) := by decide +kernel
theorem dX11_init_113 : decode cX11_init 113 = .ok (.putfield 64, 3) := by decide +kernel
theorem dX11_init_116 : decode cX11_init 116 = .ok (.aload_n 0, 1) := by decide +kernel
theorem dX11_init_117 : decode cX11_init 117 = .ok (.new 68, 3) := by decide +kernel
theorem dX11_init_120 : decode cX11_init 120 = .ok (.dup, 1) := by decide +kernel
theorem dX11_init_121 : decode cX11_init 121 = .ok (.aload_n 0, 1) := by decide +kernel
theorem dX11_init_122 : decode cX11_init 122 = .ok (.getfield 27, 3) := by decide +kernel
theorem dX11_init_125 : decode cX11_init 125 = .ok (.aload_n 0, 1) := by decide +kernel
theorem dX11_init_126 : decode cX11_init 126 = .ok (.getfield 36, 3) := by decide +kernel
theorem dX11_init_129 : decode cX11_init 129 = .ok (.invokespecial 70, 3) := by decide +kernel
theorem dX11_init_132 : decode cX11_init 132 = .ok (.putfield 73, 3) := by decide +kernel
theorem dX11_init_135 : decode cX11_init 135 = .ok (.aload_n 0, 1) := by decide +kernel
theorem dX11_init_136 : decode cX11_init 136 = .ok (.new 77, 3) := by decide +kernel
theorem dX11_init_139 : decode cX11_init 139 = .ok (.dup, 1) := by decide +kernel
theorem dX11_init_140 : decode cX11_init 140 = .ok (.invokespecial 79, 3) := by decide +kernel
theorem dX11_init_143 : decode cX11_init 143 = .ok (.putfield 80, 3) := by decide +kernel
theorem dX11_init_146 : decode cX11_init 146 = .ok (.aload_n 0, 1) := by decide +kernel
theorem dX11_init_147 : decode cX11_init 147 = .ok (.new 84, 3) := by decide +kernel
theorem dX11_init_150 : decode cX11_init 150 = .ok (.dup, 1) := by decide +kernel
theorem dX11_init_151 : decode cX11_init 151 = .ok (.invokespecial 86, 3) := by decide +kernel
theorem dX11_init_154 : decode cX11_init 154 = .ok (.putfield 87, 3) := by decide +kernel
theorem dX11_init_157 : decode cX11_init 157 = .ok (.aload_n 0, 1) := by decide +kernel
theorem dX11_init_158 : decode cX11_init 158 = .ok (.iconst 4, 1) := by decide +kernel
theorem dX11_init_159 : decode cX11_init 159 = .ok (.anewarray 91, 3) := by decide +kernel
theorem dX11_init_162 : decode cX11_init 162 = .ok (.putfield 93, 3) := by decide +kernel
theorem dX11_init_165 : decode cX11_init 165 = .ok (.iconst 0, 1) := by decide +kernel
theorem dX11_init_166 : decode cX11_init 166 = .ok (.istore_n 1, 1) := by decide +kernel
theorem dX11_init_167 : decode cX11_init 167 = .ok (.iload_n 1, 1) := by decide +kernel
theorem dX11_init_168 : decode cX11_init 168 = .ok (.iconst 4, 1) := by decide +kernel
theorem dX11_init_169 : decode cX11_init 169 = .ok (.if_icmp .ge 22, 3) := by decide +kernel
theorem dX11_init_172 : decode cX11_init 172 = .ok (.aload_n 0, 1) := by decide +kernel
theorem dX11_init_173 : decode cX11_init 173 = .ok (.getfield 93, 3) := by decide +kernel
theorem dX11_init_176 : decode cX11_init 176 = .ok (.iload_n 1, 1) := by decide +kernel
theorem dX11_init_177 : decode cX11_init 177 = .ok (.new 91, 3) := by decide +kernel
theorem dX11_init_180 : decode cX11_init 180 = .ok (.dup, 1) := by decide +kernel
theorem dX11_init_181 : decode cX11_init 181 = .ok (.invokespecial 97, 3) := by decide +kernel
theorem dX11_init_184 : decode cX11_init 184 = .ok (.aastore, 1) := by decide +kernel
theorem dX11_init_185 : decode cX11_init 185 = .ok (.iinc 1 1, 3) := by decide +kernel
theorem dX11_init_188 : decode cX11_init 188 = .ok (.goto (-21), 3) := by decide +kernel
theorem dX11_init_191 : decode cX11_init 191 = .ok (.aload_n 0, 1) := by decide +kernel
theorem dX11_init_192 : decode cX11_init 192 = .ok (.bipush 64, 2) := by decide +kernel
theorem dX11_init_194 : decode cX11_init 194 = .ok (.newarray .int, 2) := by decide +kernel
theorem dX11_init_196 : decode cX11_init 196 = .ok (.putfield 98, 3) := by decide +kernel
theorem dX11_init_199 : decode cX11_init 199 = .ok (.return_, 1) := by decide +kernel
theorem dX11_type_0 : decode cX11_type 0 = .ok (.aload_n 0, 1) := by decide +kernel
theorem dX11_type_1 : decode cX11_type 1 = .ok (.iload_n 1, 1) := by decide +kernel
theorem dX11_type_2 : decode cX11_type 2 = .ok (.invokevirtual 102, 3) := by decide +kernel
theorem dX11_type_5 : decode cX11_type 5 = .ok (.astore_n 3, 1) := by decide +kernel
theorem dX11_type_6 : decode cX11_type 6 = .ok (.aload_n 3, 1) := by decide +kernel
theorem dX11_type_7 : decode cX11_type 7 = .ok (.ifnull 14, 3) := by decide +kernel
theorem dX11_type_10 : decode cX11_type 10 = .ok (.iload_n 2, 1) := by decide +kernel
theorem dX11_type_11 : decode cX11_type 11 = .ok (.ifCond .lt 10, 3) := by decide +kernel
theorem dX11_type_14 : decode cX11_type 14 = .ok (.iload_n 2, 1) := by decide +kernel
theorem dX11_type_15 : decode cX11_type 15 = .ok (.sipush 255, 3) := by decide +kernel
theorem dX11_type_18 : decode cX11_type 18 = .ok (.if_icmp .le 6, 3) := by decide +kernel
theorem dX11_type_21 : decode cX11_type 21 = .ok (.bipush (-2), 2) := by decide +kernel
theorem dX11_type_23 : decode cX11_type 23 = .ok (.ireturn, 1) := by decide +kernel
theorem dX11_type_24 : decode cX11_type 24 = .ok (.aload_n 3, 1) := by decide +kernel
theorem dX11_type_25 : decode cX11_type 25 = .ok (.invokevirtual 106, 3) := by decide +kernel
theorem dX11_type_28 : decode cX11_type 28 = .ok (.ifCond .eq 6, 3) := by decide +kernel
theorem dX11_type_31 : decode cX11_type 31 = .ok (.bipush (-4), 2) := by decide +kernel
theorem dX11_type_33 : decode cX11_type 33 = .ok (.ireturn, 1) := by decide +kernel
theorem dX11_type_34 : decode cX11_type 34 = .ok (.aload_n 3, 1) := by decide +kernel
theorem dX11_type_35 : decode cX11_type 35 = .ok (.iload_n 2, 1) := by decide +kernel
theorem dX11_type_36 : decode cX11_type 36 = .ok (.invokevirtual 110, 3) := by decide +kernel
theorem dX11_type_39 : decode cX11_type 39 = .ok (.aload_n 0, 1) := by decide +kernel
theorem dX11_type_40 : decode cX11_type 40 = .ok (.iload_n 1, 1) := by decide +kernel
theorem dX11_type_41 : decode cX11_type 41 = .ok (.invokevirtual 113, 3) := by decide +kernel
theorem dX11_type_44 : decode cX11_type 44 = .ok (.aload_n 3, 1) := by decide +kernel
theorem dX11_type_45 : decode cX11_type 45 = .ok (.getfield 116, 3) := by decide +kernel
theorem dX11_type_48 : decode cX11_type 48 = .ok (.ireturn, 1) := by decide +kernel
theorem dX11_wipe_0 : decode cX11_wipe 0 = .ok (.aload_n 0, 1) := by decide +kernel
theorem dX11_wipe_1 : decode cX11_wipe 1 = .ok (.iload_n 1, 1) := by decide +kernel
theorem dX11_wipe_2 : decode cX11_wipe 2 = .ok (.invokevirtual 102, 3) := by decide +kernel
theorem dX11_wipe_5 : decode cX11_wipe 5 = .ok (.astore_n 2, 1) := by decide +kernel
theorem dX11_wipe_6 : decode cX11_wipe 6 = .ok (.aload_n 2, 1) := by decide +kernel
theorem dX11_wipe_7 : decode cX11_wipe 7 = .ok (.ifnonnull 6, 3) := by decide +kernel
theorem dX11_wipe_10 : decode cX11_wipe 10 = .ok (.bipush (-2), 2) := by decide +kernel
theorem dX11_wipe_12 : decode cX11_wipe 12 = .ok (.ireturn, 1) := by decide +kernel
theorem dX11_wipe_13 : decode cX11_wipe 13 = .ok (.aload_n 2, 1) := by decide +kernel
theorem dX11_wipe_14 : decode cX11_wipe 14 = .ok (.getfield 116, 3) := by decide +kernel
theorem dX11_wipe_17 : decode cX11_wipe 17 = .ok (.istore_n 3, 1) := by decide +kernel
theorem dX11_wipe_18 : decode cX11_wipe 18 = .ok (.aload_n 2, 1) := by decide +kernel
theorem dX11_wipe_19 : decode cX11_wipe 19 = .ok (.iconst 0, 1) := by decide +kernel
theorem dX11_wipe_20 : decode cX11_wipe 20 = .ok (.putfield 116, 3) := by decide +kernel
theorem dX11_wipe_23 : decode cX11_wipe 23 = .ok (.aload_n 0, 1) := by decide +kernel
theorem dX11_wipe_24 : decode cX11_wipe 24 = .ok (.iload_n 1, 1) := by decide +kernel
theorem dX11_wipe_25 : decode cX11_wipe 25 = .ok (.invokevirtual 113, 3) := by decide +kernel
theorem dX11_wipe_28 : decode cX11_wipe 28 = .ok (.iload_n 3, 1) := by decide +kernel
theorem dX11_wipe_29 : decode cX11_wipe 29 = .ok (.ireturn, 1) := by decide +kernel
theorem dX11_undo_0 : decode cX11_undo 0 = .ok (.aload_n 0, 1) := by decide +kernel
theorem dX11_undo_1 : decode cX11_undo 1 = .ok (.iload_n 1, 1) := by decide +kernel
theorem dX11_undo_2 : decode cX11_undo 2 = .ok (.invokevirtual 102, 3) := by decide +kernel
theorem dX11_undo_5 : decode cX11_undo 5 = .ok (.astore_n 2, 1) := by decide +kernel
theorem dX11_undo_6 : decode cX11_undo 6 = .ok (.aload_n 2, 1) := by decide +kernel
theorem dX11_undo_7 : decode cX11_undo 7 = .ok (.ifnonnull 6, 3) := by decide +kernel
theorem dX11_undo_10 : decode cX11_undo 10 = .ok (.bipush (-2), 2) := by decide +kernel
theorem dX11_undo_12 : decode cX11_undo 12 = .ok (.ireturn, 1) := by decide +kernel
theorem dX11_undo_13 : decode cX11_undo 13 = .ok (.aload_n 2, 1) := by decide +kernel
theorem dX11_undo_14 : decode cX11_undo 14 = .ok (.getfield 116, 3) := by decide +kernel
theorem dX11_undo_17 : decode cX11_undo 17 = .ok (.ifCond .gt 6, 3) := by decide +kernel
theorem dX11_undo_20 : decode cX11_undo 20 = .ok (.bipush (-3), 2) := by decide +kernel
theorem dX11_undo_22 : decode cX11_undo 22 = .ok (.ireturn, 1) := by decide +kernel
theorem dX11_undo_23 : decode cX11_undo 23 = .ok (.aload_n 2, 1) := by decide +kernel
theorem dX11_undo_24 : decode cX11_undo 24 = .ok (.dup, 1) := by decide +kernel
theorem dX11_undo_25 : decode cX11_undo 25 = .ok (.getfield 116, 3) := by decide +kernel
theorem dX11_undo_28 : decode cX11_undo 28 = .ok (.iconst 1, 1) := by decide +kernel
theorem dX11_undo_29 : decode cX11_undo 29 = .ok (.isub, 1) := by decide +kernel
theorem dX11_undo_30 : decode cX11_undo 30 = .ok (.putfield 116, 3) := by decide +kernel
theorem dX11_undo_33 : decode cX11_undo 33 = .ok (.aload_n 0, 1) := by decide +kernel
theorem dX11_undo_34 : decode cX11_undo 34 = .ok (.iload_n 1, 1) := by decide +kernel
theorem dX11_undo_35 : decode cX11_undo 35 = .ok (.invokevirtual 113, 3) := by decide +kernel
theorem dX11_undo_38 : decode cX11_undo 38 = .ok (.aload_n 2, 1) := by decide +kernel
theorem dX11_undo_39 : decode cX11_undo 39 = .ok (.getfield 116, 3) := by decide +kernel
theorem dX11_undo_42 : decode cX11_undo 42 = .ok (.ireturn, 1) := by decide +kernel
theorem dX11_fault_0 : decode cX11_fault 0 = .ok (.aload_n 0, 1) := by decide +kernel
theorem dX11_fault_1 : decode cX11_fault 1 = .ok (.iload_n 1, 1) := by decide +kernel
theorem dX11_fault_2 : decode cX11_fault 2 = .ok (.invokevirtual 102, 3) := by decide +kernel
theorem dX11_fault_5 : decode cX11_fault 5 = .ok (.astore_n 2, 1) := by decide +kernel
theorem dX11_fault_6 : decode cX11_fault 6 = .ok (.aload_n 2, 1) := by decide +kernel
theorem dX11_fault_7 : decode cX11_fault 7 = .ok (.ifnonnull 8, 3) := by decide +kernel
theorem dX11_fault_10 : decode cX11_fault 10 = .ok (.bipush (-2), 2) := by decide +kernel
theorem dX11_fault_12 : decode cX11_fault 12 = .ok (.goto 7, 3) := by decide +kernel
theorem dX11_fault_15 : decode cX11_fault 15 = .ok (.aload_n 2, 1) := by decide +kernel
theorem dX11_fault_16 : decode cX11_fault 16 = .ok (.getfield 120, 3) := by decide +kernel
theorem dX11_fault_19 : decode cX11_fault 19 = .ok (.ireturn, 1) := by decide +kernel
theorem dX11_set_0 : decode cX11_set 0 = .ok (.iload_n 1, 1) := by decide +kernel
theorem dX11_set_1 : decode cX11_set 1 = .ok (.ifCond .lt 27, 3) := by decide +kernel
theorem dX11_set_4 : decode cX11_set 4 = .ok (.iload_n 1, 1) := by decide +kernel
theorem dX11_set_5 : decode cX11_set 5 = .ok (.iconst 2, 1) := by decide +kernel
theorem dX11_set_6 : decode cX11_set 6 = .ok (.if_icmp .gt 22, 3) := by decide +kernel
theorem dX11_set_9 : decode cX11_set 9 = .ok (.iload_n 2, 1) := by decide +kernel
theorem dX11_set_10 : decode cX11_set 10 = .ok (.ifCond .lt 18, 3) := by decide +kernel
theorem dX11_set_13 : decode cX11_set 13 = .ok (.iload_n 2, 1) := by decide +kernel
theorem dX11_set_14 : decode cX11_set 14 = .ok (.iload_n 1, 1) := by decide +kernel
theorem dX11_set_15 : decode cX11_set 15 = .ok (.iconst 2, 1) := by decide +kernel
theorem dX11_set_16 : decode cX11_set 16 = .ok (.if_icmp .ne 7, 3) := by decide +kernel
theorem dX11_set_19 : decode cX11_set 19 = .ok (.iconst 2, 1) := by decide +kernel
theorem dX11_set_20 : decode cX11_set 20 = .ok (.goto 5, 3) := by decide +kernel
theorem dX11_set_23 : decode cX11_set 23 = .ok (.bipush 63, 2) := by decide +kernel
theorem dX11_set_25 : decode cX11_set 25 = .ok (.if_icmp .le 6, 3) := by decide +kernel
theorem dX11_set_28 : decode cX11_set 28 = .ok (.bipush (-2), 2) := by decide +kernel
theorem dX11_set_30 : decode cX11_set 30 = .ok (.ireturn, 1) := by decide +kernel
theorem dX11_set_31 : decode cX11_set 31 = .ok (.iload_n 1, 1) := by decide +kernel
theorem dX11_set_32 : decode cX11_set 32 = .ok (.ifCond .ne 33, 3) := by decide +kernel
theorem dX11_set_35 : decode cX11_set 35 = .ok (.aload_n 0, 1) := by decide +kernel
theorem dX11_set_36 : decode cX11_set 36 = .ok (.getfield 57, 3) := by decide +kernel
theorem dX11_set_39 : decode cX11_set 39 = .ok (.getfield 123, 3) := by decide +kernel
theorem dX11_set_42 : decode cX11_set 42 = .ok (.istore_n 3, 1) := by decide +kernel
theorem dX11_set_43 : decode cX11_set 43 = .ok (.aload_n 0, 1) := by decide +kernel
theorem dX11_set_44 : decode cX11_set 44 = .ok (.getfield 57, 3) := by decide +kernel
theorem dX11_set_47 : decode cX11_set 47 = .ok (.iload_n 2, 1) := by decide +kernel
theorem dX11_set_48 : decode cX11_set 48 = .ok (.putfield 123, 3) := by decide +kernel
theorem dX11_set_51 : decode cX11_set 51 = .ok (.aload_n 0, 1) := by decide +kernel
theorem dX11_set_52 : decode cX11_set 52 = .ok (.getfield 57, 3) := by decide +kernel
theorem dX11_set_55 : decode cX11_set 55 = .ok (.aload_n 0, 1) := by decide +kernel
theorem dX11_set_56 : decode cX11_set 56 = .ok (.getfield 27, 3) := by decide +kernel
theorem dX11_set_59 : decode cX11_set 59 = .ok (.invokevirtual 126, 3) := by decide +kernel
theorem dX11_set_62 : decode cX11_set 62 = .ok (.goto 31, 3) := by decide +kernel
theorem dX11_set_65 : decode cX11_set 65 = .ok (.iload_n 1, 1) := by decide +kernel
theorem dX11_set_66 : decode cX11_set 66 = .ok (.iconst 1, 1) := by decide +kernel
theorem dX11_set_67 : decode cX11_set 67 = .ok (.if_icmp .ne 16, 3) := by decide +kernel
theorem dX11_set_70 : decode cX11_set 70 = .ok (.aload_n 0, 1) := by decide +kernel
theorem dX11_set_71 : decode cX11_set 71 = .ok (.getfield 129, 3) := by decide +kernel
theorem dX11_set_74 : decode cX11_set 74 = .ok (.istore_n 3, 1) := by decide +kernel
theorem dX11_set_75 : decode cX11_set 75 = .ok (.aload_n 0, 1) := by decide +kernel
theorem dX11_set_76 : decode cX11_set 76 = .ok (.iload_n 2, 1) := by decide +kernel
theorem dX11_set_77 : decode cX11_set 77 = .ok (.putfield 129, 3) := by decide +kernel
theorem dX11_set_80 : decode cX11_set 80 = .ok (.goto 13, 3) := by decide +kernel
theorem dX11_set_83 : decode cX11_set 83 = .ok (.aload_n 0, 1) := by decide +kernel
theorem dX11_set_84 : decode cX11_set 84 = .ok (.getfield 132, 3) := by decide +kernel
theorem dX11_set_87 : decode cX11_set 87 = .ok (.istore_n 3, 1) := by decide +kernel
theorem dX11_set_88 : decode cX11_set 88 = .ok (.aload_n 0, 1) := by decide +kernel
theorem dX11_set_89 : decode cX11_set 89 = .ok (.iload_n 2, 1) := by decide +kernel
theorem dX11_set_90 : decode cX11_set 90 = .ok (.putfield 132, 3) := by decide +kernel
theorem dX11_set_93 : decode cX11_set 93 = .ok (.iload_n 3, 1) := by decide +kernel
theorem dX11_set_94 : decode cX11_set 94 = .ok (.ireturn, 1) := by decide +kernel
theorem dX11_grip_0 : decode cX11_grip 0 = .ok (.iload_n 1, 1) := by decide +kernel
theorem dX11_grip_1 : decode cX11_grip 1 = .ok (.invokestatic 135, 3) := by decide +kernel
theorem dX11_grip_4 : decode cX11_grip 4 = .ok (.ifCond .eq 22, 3) := by decide +kernel
theorem dX11_grip_7 : decode cX11_grip 7 = .ok (.iload_n 2, 1) := by decide +kernel
theorem dX11_grip_8 : decode cX11_grip 8 = .ok (.invokestatic 135, 3) := by decide +kernel
theorem dX11_grip_11 : decode cX11_grip 11 = .ok (.ifCond .eq 15, 3) := by decide +kernel
theorem dX11_grip_14 : decode cX11_grip 14 = .ok (.iload_n 1, 1) := by decide +kernel
theorem dX11_grip_15 : decode cX11_grip 15 = .ok (.iload_n 2, 1) := by decide +kernel
theorem dX11_grip_16 : decode cX11_grip 16 = .ok (.if_icmp .eq 10, 3) := by decide +kernel
theorem dX11_grip_19 : decode cX11_grip 19 = .ok (.iload_n 3, 1) := by decide +kernel
theorem dX11_grip_20 : decode cX11_grip 20 = .ok (.invokestatic 139, 3) := by decide +kernel
theorem dX11_grip_23 : decode cX11_grip 23 = .ok (.ifCond .ne 6, 3) := by decide +kernel
theorem dX11_grip_26 : decode cX11_grip 26 = .ok (.bipush (-2), 2) := by decide +kernel
theorem dX11_grip_28 : decode cX11_grip 28 = .ok (.ireturn, 1) := by decide +kernel
theorem dX11_grip_29 : decode cX11_grip 29 = .ok (.aload_n 0, 1) := by decide +kernel
theorem dX11_grip_30 : decode cX11_grip 30 = .ok (.getfield 50, 3) := by decide +kernel
theorem dX11_grip_33 : decode cX11_grip 33 = .ok (.iload_n 1, 1) := by decide +kernel
theorem dX11_grip_34 : decode cX11_grip 34 = .ok (.iload_n 2, 1) := by decide +kernel
theorem dX11_grip_35 : decode cX11_grip 35 = .ok (.invokevirtual 142, 3) := by decide +kernel
theorem dX11_grip_38 : decode cX11_grip 38 = .ok (.istore 4, 2) := by decide +kernel
theorem dX11_grip_40 : decode cX11_grip 40 = .ok (.aload_n 0, 1) := by decide +kernel
theorem dX11_grip_41 : decode cX11_grip 41 = .ok (.getfield 50, 3) := by decide +kernel
theorem dX11_grip_44 : decode cX11_grip 44 = .ok (.iload_n 1, 1) := by decide +kernel
theorem dX11_grip_45 : decode cX11_grip 45 = .ok (.iload_n 2, 1) := by decide +kernel
theorem dX11_grip_46 : decode cX11_grip 46 = .ok (.iload_n 3, 1) := by decide +kernel
theorem dX11_grip_47 : decode cX11_grip 47 = .ok (.invokevirtual 146, 3) := by decide +kernel
theorem dX11_grip_50 : decode cX11_grip 50 = .ok (.iload 4, 2) := by decide +kernel
theorem dX11_grip_52 : decode cX11_grip 52 = .ok (.ireturn, 1) := by decide +kernel
theorem dX11_person_0 : decode cX11_person 0 = .ok (.iload_n 1, 1) := by decide +kernel
theorem dX11_person_1 : decode cX11_person 1 = .ok (.invokestatic 135, 3) := by decide +kernel
theorem dX11_person_4 : decode cX11_person 4 = .ok (.ifCond .ne 6, 3) := by decide +kernel
theorem dX11_person_7 : decode cX11_person 7 = .ok (.bipush (-2), 2) := by decide +kernel
theorem dX11_person_9 : decode cX11_person 9 = .ok (.ireturn, 1) := by decide +kernel
theorem dX11_person_10 : decode cX11_person 10 = .ok (.iload_n 2, 1) := by decide +kernel
theorem dX11_person_11 : decode cX11_person 11 = .ok (.ifCond .ne 34, 3) := by decide +kernel
theorem dX11_person_14 : decode cX11_person 14 = .ok (.iload_n 3, 1) := by decide +kernel
theorem dX11_person_15 : decode cX11_person 15 = .ok (.invokestatic 139, 3) := by decide +kernel
theorem dX11_person_18 : decode cX11_person 18 = .ok (.ifCond .eq 27, 3) := by decide +kernel
theorem dX11_person_21 : decode cX11_person 21 = .ok (.aload_n 0, 1) := by decide +kernel
theorem dX11_person_22 : decode cX11_person 22 = .ok (.getfield 50, 3) := by decide +kernel
theorem dX11_person_25 : decode cX11_person 25 = .ok (.getfield 150, 3) := by decide +kernel
theorem dX11_person_28 : decode cX11_person 28 = .ok (.iload_n 1, 1) := by decide +kernel
theorem dX11_person_29 : decode cX11_person 29 = .ok (.iaload, 1) := by decide +kernel
theorem dX11_person_30 : decode cX11_person 30 = .ok (.istore 4, 2) := by decide +kernel
theorem dX11_person_32 : decode cX11_person 32 = .ok (.aload_n 0, 1) := by decide +kernel
theorem dX11_person_33 : decode cX11_person 33 = .ok (.getfield 50, 3) := by decide +kernel
theorem dX11_person_36 : decode cX11_person 36 = .ok (.getfield 150, 3) := by decide +kernel
theorem dX11_person_39 : decode cX11_person 39 = .ok (.iload_n 1, 1) := by decide +kernel
theorem dX11_person_40 : decode cX11_person 40 = .ok (.iload_n 3, 1) := by decide +kernel
theorem dX11_person_41 : decode cX11_person 41 = .ok (.iastore, 1) := by decide +kernel
theorem dX11_person_42 : decode cX11_person 42 = .ok (.iload 4, 2) := by decide +kernel
theorem dX11_person_44 : decode cX11_person 44 = .ok (.ireturn, 1) := by decide +kernel
theorem dX11_person_45 : decode cX11_person 45 = .ok (.iload_n 2, 1) := by decide +kernel
theorem dX11_person_46 : decode cX11_person 46 = .ok (.iconst 1, 1) := by decide +kernel
theorem dX11_person_47 : decode cX11_person 47 = .ok (.if_icmp .ne 34, 3) := by decide +kernel
theorem dX11_person_50 : decode cX11_person 50 = .ok (.iload_n 3, 1) := by decide +kernel
theorem dX11_person_51 : decode cX11_person 51 = .ok (.invokestatic 153, 3) := by decide +kernel
theorem dX11_person_54 : decode cX11_person 54 = .ok (.ifCond .eq 27, 3) := by decide +kernel
theorem dX11_person_57 : decode cX11_person 57 = .ok (.aload_n 0, 1) := by decide +kernel
theorem dX11_person_58 : decode cX11_person 58 = .ok (.getfield 50, 3) := by decide +kernel
theorem dX11_person_61 : decode cX11_person 61 = .ok (.getfield 156, 3) := by decide +kernel
theorem dX11_person_64 : decode cX11_person 64 = .ok (.iload_n 1, 1) := by decide +kernel
theorem dX11_person_65 : decode cX11_person 65 = .ok (.iaload, 1) := by decide +kernel
theorem dX11_person_66 : decode cX11_person 66 = .ok (.istore 4, 2) := by decide +kernel
theorem dX11_person_68 : decode cX11_person 68 = .ok (.aload_n 0, 1) := by decide +kernel
theorem dX11_person_69 : decode cX11_person 69 = .ok (.getfield 50, 3) := by decide +kernel
theorem dX11_person_72 : decode cX11_person 72 = .ok (.getfield 156, 3) := by decide +kernel
theorem dX11_person_75 : decode cX11_person 75 = .ok (.iload_n 1, 1) := by decide +kernel
theorem dX11_person_76 : decode cX11_person 76 = .ok (.iload_n 3, 1) := by decide +kernel
theorem dX11_person_77 : decode cX11_person 77 = .ok (.iastore, 1) := by decide +kernel
theorem dX11_person_78 : decode cX11_person 78 = .ok (.iload 4, 2) := by decide +kernel
theorem dX11_person_80 : decode cX11_person 80 = .ok (.ireturn, 1) := by decide +kernel
theorem dX11_person_81 : decode cX11_person 81 = .ok (.bipush (-2), 2) := by decide +kernel
theorem dX11_person_83 : decode cX11_person 83 = .ok (.ireturn, 1) := by decide +kernel
theorem dX11_read_0 : decode cX11_read 0 = .ok (.aload_n 0, 1) := by decide +kernel
theorem dX11_read_1 : decode cX11_read 1 = .ok (.iload_n 1, 1) := by decide +kernel
theorem dX11_read_2 : decode cX11_read 2 = .ok (.invokevirtual 159, 3) := by decide +kernel
theorem dX11_read_5 : decode cX11_read 5 = .ok (.astore_n 2, 1) := by decide +kernel
theorem dX11_read_6 : decode cX11_read 6 = .ok (.aload_n 2, 1) := by decide +kernel
theorem dX11_read_7 : decode cX11_read 7 = .ok (.ifnonnull 6, 3) := by decide +kernel
theorem dX11_read_10 : decode cX11_read 10 = .ok (.bipush (-2), 2) := by decide +kernel
theorem dX11_read_12 : decode cX11_read 12 = .ok (.ireturn, 1) := by decide +kernel
theorem dX11_read_13 : decode cX11_read 13 = .ok (.aload_n 2, 1) := by decide +kernel
theorem dX11_read_14 : decode cX11_read 14 = .ok (.invokevirtual 163, 3) := by decide +kernel
theorem dX11_read_17 : decode cX11_read 17 = .ok (.ifCond .eq 9, 3) := by decide +kernel
theorem dX11_read_20 : decode cX11_read 20 = .ok (.aload_n 0, 1) := by decide +kernel
theorem dX11_read_21 : decode cX11_read 21 = .ok (.iconst 1, 1) := by decide +kernel
theorem dX11_read_22 : decode cX11_read 22 = .ok (.invokevirtual 166, 3) := by decide +kernel
theorem dX11_read_25 : decode cX11_read 25 = .ok (.ireturn, 1) := by decide +kernel
theorem dX11_read_26 : decode cX11_read 26 = .ok (.iconst 0, 1) := by decide +kernel
theorem dX11_read_27 : decode cX11_read 27 = .ok (.istore_n 3, 1) := by decide +kernel
theorem dX11_read_28 : decode cX11_read 28 = .ok (.iload_n 3, 1) := by decide +kernel
theorem dX11_read_29 : decode cX11_read 29 = .ok (.iconst 5, 1) := by decide +kernel
theorem dX11_read_30 : decode cX11_read 30 = .ok (.if_icmp .ge 42, 3) := by decide +kernel
theorem dX11_read_33 : decode cX11_read 33 = .ok (.aload_n 2, 1) := by decide +kernel
theorem dX11_read_34 : decode cX11_read 34 = .ok (.iload_n 3, 1) := by decide +kernel
theorem dX11_read_35 : decode cX11_read 35 = .ok (.invokevirtual 170, 3) := by decide +kernel
theorem dX11_read_38 : decode cX11_read 38 = .ok (.ifCond .eq 34, 3) := by decide +kernel
theorem dX11_read_41 : decode cX11_read 41 = .ok (.aload_n 2, 1) := by decide +kernel
theorem dX11_read_42 : decode cX11_read 42 = .ok (.iload_n 3, 1) := by decide +kernel
theorem dX11_read_43 : decode cX11_read 43 = .ok (.invokevirtual 173, 3) := by decide +kernel
theorem dX11_read_46 : decode cX11_read 46 = .ok (.invokestatic 139, 3) := by decide +kernel
theorem dX11_read_49 : decode cX11_read 49 = .ok (.ifCond .eq 23, 3) := by decide +kernel
theorem dX11_read_52 : decode cX11_read 52 = .ok (.aload_n 0, 1) := by decide +kernel
theorem dX11_read_53 : decode cX11_read 53 = .ok (.getfield 50, 3) := by decide +kernel
theorem dX11_read_56 : decode cX11_read 56 = .ok (.getfield 150, 3) := by decide +kernel
theorem dX11_read_59 : decode cX11_read 59 = .ok (.iload_n 3, 1) := by decide +kernel
theorem dX11_read_60 : decode cX11_read 60 = .ok (.aload_n 2, 1) := by decide +kernel
theorem dX11_read_61 : decode cX11_read 61 = .ok (.iload_n 3, 1) := by decide +kernel
theorem dX11_read_62 : decode cX11_read 62 = .ok (.invokevirtual 173, 3) := by decide +kernel
theorem dX11_read_65 : decode cX11_read 65 = .ok (.iastore, 1) := by decide +kernel
theorem dX11_read_66 : decode cX11_read 66 = .ok (.iinc 3 1, 3) := by decide +kernel
theorem dX11_read_69 : decode cX11_read 69 = .ok (.goto (-41), 3) := by decide +kernel
theorem dX11_read_72 : decode cX11_read 72 = .ok (.iload_n 3, 1) := by decide +kernel
theorem dX11_read_73 : decode cX11_read 73 = .ok (.ireturn, 1) := by decide +kernel
theorem dX11_dense_0 : decode cX11_dense 0 = .ok (.aload_n 0, 1) := by decide +kernel
theorem dX11_dense_1 : decode cX11_dense 1 = .ok (.getfield 27, 3) := by decide +kernel
theorem dX11_dense_4 : decode cX11_dense 4 = .ok (.iload_n 1, 1) := by decide +kernel
theorem dX11_dense_5 : decode cX11_dense 5 = .ok (.invokevirtual 176, 3) := by decide +kernel
theorem dX11_dense_8 : decode cX11_dense 8 = .ok (.ifCond .eq 14, 3) := by decide +kernel
theorem dX11_dense_11 : decode cX11_dense 11 = .ok (.aload_n 0, 1) := by decide +kernel
theorem dX11_dense_12 : decode cX11_dense 12 = .ok (.getfield 27, 3) := by decide +kernel
theorem dX11_dense_15 : decode cX11_dense 15 = .ok (.iload_n 1, 1) := by decide +kernel
theorem dX11_dense_16 : decode cX11_dense 16 = .ok (.invokevirtual 179, 3) := by decide +kernel
theorem dX11_dense_19 : decode cX11_dense 19 = .ok (.goto 5, 3) := by decide +kernel
theorem dX11_dense_22 : decode cX11_dense 22 = .ok (.bipush (-2), 2) := by decide +kernel
theorem dX11_dense_24 : decode cX11_dense 24 = .ok (.ireturn, 1) := by decide +kernel
theorem dX11_judged_0 : decode cX11_judged 0 = .ok (.aload_n 0, 1) := by decide +kernel
theorem dX11_judged_1 : decode cX11_judged 1 = .ok (.getfield 57, 3) := by decide +kernel
theorem dX11_judged_4 : decode cX11_judged 4 = .ok (.getfield 182, 3) := by decide +kernel
theorem dX11_judged_7 : decode cX11_judged 7 = .ok (.aload_n 0, 1) := by decide +kernel
theorem dX11_judged_8 : decode cX11_judged 8 = .ok (.getfield 57, 3) := by decide +kernel
theorem dX11_judged_11 : decode cX11_judged 11 = .ok (.getfield 185, 3) := by decide +kernel
theorem dX11_judged_14 : decode cX11_judged 14 = .ok (.if_icmp .ge 13, 3) := by decide +kernel
theorem dX11_judged_17 : decode cX11_judged 17 = .ok (.aload_n 0, 1) := by decide +kernel
theorem dX11_judged_18 : decode cX11_judged 18 = .ok (.getfield 57, 3) := by decide +kernel
theorem dX11_judged_21 : decode cX11_judged 21 = .ok (.getfield 182, 3) := by decide +kernel
theorem dX11_judged_24 : decode cX11_judged 24 = .ok (.goto 4, 3) := by decide +kernel
theorem dX11_judged_27 : decode cX11_judged 27 = .ok (.iconst (-1), 1) := by decide +kernel
theorem dX11_judged_28 : decode cX11_judged 28 = .ok (.ireturn, 1) := by decide +kernel
theorem dX11_at_0 : decode cX11_at 0 = .ok (.iload_n 1, 1) := by decide +kernel
theorem dX11_at_1 : decode cX11_at 1 = .ok (.ifCond .lt 14, 3) := by decide +kernel
theorem dX11_at_4 : decode cX11_at 4 = .ok (.iload_n 1, 1) := by decide +kernel
theorem dX11_at_5 : decode cX11_at 5 = .ok (.aload_n 0, 1) := by decide +kernel
theorem dX11_at_6 : decode cX11_at 6 = .ok (.getfield 57, 3) := by decide +kernel
theorem dX11_at_9 : decode cX11_at 9 = .ok (.getfield 182, 3) := by decide +kernel
theorem dX11_at_12 : decode cX11_at 12 = .ok (.if_icmp .le 6, 3) := by decide +kernel
theorem dX11_at_15 : decode cX11_at 15 = .ok (.bipush (-2), 2) := by decide +kernel
theorem dX11_at_17 : decode cX11_at 17 = .ok (.ireturn, 1) := by decide +kernel
theorem dX11_at_18 : decode cX11_at 18 = .ok (.aload_n 0, 1) := by decide +kernel
theorem dX11_at_19 : decode cX11_at 19 = .ok (.getfield 27, 3) := by decide +kernel
theorem dX11_at_22 : decode cX11_at 22 = .ok (.aload_n 0, 1) := by decide +kernel
theorem dX11_at_23 : decode cX11_at 23 = .ok (.getfield 57, 3) := by decide +kernel
theorem dX11_at_26 : decode cX11_at 26 = .ok (.getfield 123, 3) := by decide +kernel
theorem dX11_at_29 : decode cX11_at 29 = .ok (.invokevirtual 176, 3) := by decide +kernel
theorem dX11_at_32 : decode cX11_at 32 = .ok (.ifCond .eq 14, 3) := by decide +kernel
theorem dX11_at_35 : decode cX11_at 35 = .ok (.aload_n 0, 1) := by decide +kernel
theorem dX11_at_36 : decode cX11_at 36 = .ok (.getfield 57, 3) := by decide +kernel
theorem dX11_at_39 : decode cX11_at 39 = .ok (.iload_n 1, 1) := by decide +kernel
theorem dX11_at_40 : decode cX11_at 40 = .ok (.invokevirtual 186, 3) := by decide +kernel
theorem dX11_at_43 : decode cX11_at 43 = .ok (.goto 5, 3) := by decide +kernel
theorem dX11_at_46 : decode cX11_at 46 = .ok (.bipush (-3), 2) := by decide +kernel
theorem dX11_at_48 : decode cX11_at 48 = .ok (.ireturn, 1) := by decide +kernel
theorem dX11_near_0 : decode cX11_near 0 = .ok (.aload_n 0, 1) := by decide +kernel
theorem dX11_near_1 : decode cX11_near 1 = .ok (.getfield 27, 3) := by decide +kernel
theorem dX11_near_4 : decode cX11_near 4 = .ok (.iload_n 1, 1) := by decide +kernel
theorem dX11_near_5 : decode cX11_near 5 = .ok (.invokevirtual 176, 3) := by decide +kernel
theorem dX11_near_8 : decode cX11_near 8 = .ok (.ifCond .eq 14, 3) := by decide +kernel
theorem dX11_near_11 : decode cX11_near 11 = .ok (.aload_n 0, 1) := by decide +kernel
theorem dX11_near_12 : decode cX11_near 12 = .ok (.getfield 27, 3) := by decide +kernel
theorem dX11_near_15 : decode cX11_near 15 = .ok (.iload_n 2, 1) := by decide +kernel
theorem dX11_near_16 : decode cX11_near 16 = .ok (.invokevirtual 176, 3) := by decide +kernel
theorem dX11_near_19 : decode cX11_near 19 = .ok (.ifCond .ne 6, 3) := by decide +kernel
theorem dX11_near_22 : decode cX11_near 22 = .ok (.bipush (-2), 2) := by decide +kernel
theorem dX11_near_24 : decode cX11_near 24 = .ok (.ireturn, 1) := by decide +kernel
theorem dX11_near_25 : decode cX11_near 25 = .ok (.aload_n 0, 1) := by decide +kernel
theorem dX11_near_26 : decode cX11_near 26 = .ok (.getfield 36, 3) := by decide +kernel
theorem dX11_near_29 : decode cX11_near 29 = .ok (.iload_n 1, 1) := by decide +kernel
theorem dX11_near_30 : decode cX11_near 30 = .ok (.invokevirtual 189, 3) := by decide +kernel
theorem dX11_near_33 : decode cX11_near 33 = .ok (.aload_n 0, 1) := by decide +kernel
theorem dX11_near_34 : decode cX11_near 34 = .ok (.getfield 36, 3) := by decide +kernel
theorem dX11_near_37 : decode cX11_near 37 = .ok (.iload_n 2, 1) := by decide +kernel
theorem dX11_near_38 : decode cX11_near 38 = .ok (.invokevirtual 192, 3) := by decide +kernel
theorem dX11_near_41 : decode cX11_near 41 = .ok (.ireturn, 1) := by decide +kernel
theorem dX11_easiest_0 : decode cX11_easiest 0 = .ok (.aload_n 0, 1) := by decide +kernel
theorem dX11_easiest_1 : decode cX11_easiest 1 = .ok (.getfield 27, 3) := by decide +kernel
theorem dX11_easiest_4 : decode cX11_easiest 4 = .ok (.iload_n 1, 1) := by decide +kernel
theorem dX11_easiest_5 : decode cX11_easiest 5 = .ok (.invokevirtual 176, 3) := by decide +kernel
theorem dX11_easiest_8 : decode cX11_easiest 8 = .ok (.ifCond .eq 20, 3) := by decide +kernel
theorem dX11_easiest_11 : decode cX11_easiest 11 = .ok (.aload_n 0, 1) := by decide +kernel
theorem dX11_easiest_12 : decode cX11_easiest 12 = .ok (.getfield 27, 3) := by decide +kernel
theorem dX11_easiest_15 : decode cX11_easiest 15 = .ok (.iload_n 2, 1) := by decide +kernel
theorem dX11_easiest_16 : decode cX11_easiest 16 = .ok (.invokevirtual 176, 3) := by decide +kernel
theorem dX11_easiest_19 : decode cX11_easiest 19 = .ok (.ifCond .eq 9, 3) := by decide +kernel
theorem dX11_easiest_22 : decode cX11_easiest 22 = .ok (.iload_n 3, 1) := by decide +kernel
theorem dX11_easiest_23 : decode cX11_easiest 23 = .ok (.bipush (-2), 2) := by decide +kernel
theorem dX11_easiest_25 : decode cX11_easiest 25 = .ok (.if_icmp .ge 6, 3) := by decide +kernel
theorem dX11_easiest_28 : decode cX11_easiest 28 = .ok (.bipush (-2), 2) := by decide +kernel
theorem dX11_easiest_30 : decode cX11_easiest 30 = .ok (.ireturn, 1) := by decide +kernel
theorem dX11_easiest_31 : decode cX11_easiest 31 = .ok (.aload_n 0, 1) := by decide +kernel
theorem dX11_easiest_32 : decode cX11_easiest 32 = .ok (.getfield 43, 3) := by decide +kernel
theorem dX11_easiest_35 : decode cX11_easiest 35 = .ok (.iload_n 2, 1) := by decide +kernel
theorem dX11_easiest_36 : decode cX11_easiest 36 = .ok (.invokevirtual 195, 3) := by decide +kernel
theorem dX11_easiest_39 : decode cX11_easiest 39 = .ok (.iload_n 3, 1) := by decide +kernel
theorem dX11_easiest_40 : decode cX11_easiest 40 = .ok (.bipush (-2), 2) := by decide +kernel
theorem dX11_easiest_42 : decode cX11_easiest 42 = .ok (.if_icmp .ne 12, 3) := by decide +kernel
theorem dX11_easiest_45 : decode cX11_easiest 45 = .ok (.aload_n 0, 1) := by decide +kernel
theorem dX11_easiest_46 : decode cX11_easiest 46 = .ok (.getfield 43, 3) := by decide +kernel
theorem dX11_easiest_49 : decode cX11_easiest 49 = .ok (.iload_n 1, 1) := by decide +kernel
theorem dX11_easiest_50 : decode cX11_easiest 50 = .ok (.invokevirtual 198, 3) := by decide +kernel
theorem dX11_easiest_53 : decode cX11_easiest 53 = .ok (.ireturn, 1) := by decide +kernel
theorem dX11_easiest_54 : decode cX11_easiest 54 = .ok (.iload_n 3, 1) := by decide +kernel
theorem dX11_easiest_55 : decode cX11_easiest 55 = .ok (.iconst (-1), 1) := by decide +kernel
theorem dX11_easiest_56 : decode cX11_easiest 56 = .ok (.if_icmp .ne 14, 3) := by decide +kernel
theorem dX11_easiest_59 : decode cX11_easiest 59 = .ok (.aload_n 0, 1) := by decide +kernel
theorem dX11_easiest_60 : decode cX11_easiest 60 = .ok (.getfield 43, 3) := by decide +kernel
theorem dX11_easiest_63 : decode cX11_easiest 63 = .ok (.iload_n 1, 1) := by decide +kernel
theorem dX11_easiest_64 : decode cX11_easiest 64 = .ok (.invokevirtual 201, 3) := by decide +kernel
theorem dX11_easiest_67 : decode cX11_easiest 67 = .ok (.goto 12, 3) := by decide +kernel
theorem dX11_easiest_70 : decode cX11_easiest 70 = .ok (.aload_n 0, 1) := by decide +kernel
theorem dX11_easiest_71 : decode cX11_easiest 71 = .ok (.getfield 43, 3) := by decide +kernel
theorem dX11_easiest_74 : decode cX11_easiest 74 = .ok (.iload_n 1, 1) := by decide +kernel
theorem dX11_easiest_75 : decode cX11_easiest 75 = .ok (.iload_n 3, 1) := by decide +kernel
theorem dX11_easiest_76 : decode cX11_easiest 76 = .ok (.invokevirtual 204, 3) := by decide +kernel
theorem dX11_easiest_79 : decode cX11_easiest 79 = .ok (.ireturn, 1) := by decide +kernel
theorem dX11_order_0 : decode cX11_order 0 = .ok (.iload_n 1, 1) := by decide +kernel
theorem dX11_order_1 : decode cX11_order 1 = .ok (.invokestatic 135, 3) := by decide +kernel
theorem dX11_order_4 : decode cX11_order 4 = .ok (.ifCond .eq 14, 3) := by decide +kernel
theorem dX11_order_7 : decode cX11_order 7 = .ok (.aload_n 0, 1) := by decide +kernel
theorem dX11_order_8 : decode cX11_order 8 = .ok (.getfield 50, 3) := by decide +kernel
theorem dX11_order_11 : decode cX11_order 11 = .ok (.iload_n 1, 1) := by decide +kernel
theorem dX11_order_12 : decode cX11_order 12 = .ok (.invokevirtual 207, 3) := by decide +kernel
theorem dX11_order_15 : decode cX11_order 15 = .ok (.goto 5, 3) := by decide +kernel
theorem dX11_order_18 : decode cX11_order 18 = .ok (.bipush (-2), 2) := by decide +kernel
theorem dX11_order_20 : decode cX11_order 20 = .ok (.ireturn, 1) := by decide +kernel
theorem dX11_loose_0 : decode cX11_loose 0 = .ok (.aload_n 0, 1) := by decide +kernel
theorem dX11_loose_1 : decode cX11_loose 1 = .ok (.getfield 50, 3) := by decide +kernel
theorem dX11_loose_4 : decode cX11_loose 4 = .ok (.invokevirtual 210, 3) := by decide +kernel
theorem dX11_loose_7 : decode cX11_loose 7 = .ok (.ireturn, 1) := by decide +kernel
theorem dX11_risk_0 : decode cX11_risk 0 = .ok (.iconst 0, 1) := by decide +kernel
theorem dX11_risk_1 : decode cX11_risk 1 = .ok (.istore_n 1, 1) := by decide +kernel
theorem dX11_risk_2 : decode cX11_risk 2 = .ok (.iconst 0, 1) := by decide +kernel
theorem dX11_risk_3 : decode cX11_risk 3 = .ok (.istore_n 2, 1) := by decide +kernel
theorem dX11_risk_4 : decode cX11_risk 4 = .ok (.iload_n 2, 1) := by decide +kernel
theorem dX11_risk_5 : decode cX11_risk 5 = .ok (.aload_n 0, 1) := by decide +kernel
theorem dX11_risk_6 : decode cX11_risk 6 = .ok (.getfield 57, 3) := by decide +kernel
theorem dX11_risk_9 : decode cX11_risk 9 = .ok (.getfield 182, 3) := by decide +kernel
theorem dX11_risk_12 : decode cX11_risk 12 = .ok (.if_icmp .ge 17, 3) := by decide +kernel
theorem dX11_risk_15 : decode cX11_risk 15 = .ok (.iload_n 1, 1) := by decide +kernel
theorem dX11_risk_16 : decode cX11_risk 16 = .ok (.aload_n 0, 1) := by decide +kernel
theorem dX11_risk_17 : decode cX11_risk 17 = .ok (.iload_n 2, 1) := by decide +kernel
theorem dX11_risk_18 : decode cX11_risk 18 = .ok (.invokevirtual 214, 3) := by decide +kernel
theorem dX11_risk_21 : decode cX11_risk 21 = .ok (.iadd, 1) := by decide +kernel
theorem dX11_risk_22 : decode cX11_risk 22 = .ok (.istore_n 1, 1) := by decide +kernel
theorem dX11_risk_23 : decode cX11_risk 23 = .ok (.iinc 2 1, 3) := by decide +kernel
theorem dX11_risk_26 : decode cX11_risk 26 = .ok (.goto (-22), 3) := by decide +kernel
theorem dX11_risk_29 : decode cX11_risk 29 = .ok (.iload_n 1, 1) := by decide +kernel
theorem dX11_risk_30 : decode cX11_risk 30 = .ok (.aload_n 0, 1) := by decide +kernel
theorem dX11_risk_31 : decode cX11_risk 31 = .ok (.getfield 50, 3) := by decide +kernel
theorem dX11_risk_34 : decode cX11_risk 34 = .ok (.invokevirtual 210, 3) := by decide +kernel
theorem dX11_risk_37 : decode cX11_risk 37 = .ok (.imul, 1) := by decide +kernel
theorem dX11_risk_38 : decode cX11_risk 38 = .ok (.ireturn, 1) := by decide +kernel
theorem dX11_best_0 : decode cX11_best 0 = .ok (.iload_n 1, 1) := by decide +kernel
theorem dX11_best_1 : decode cX11_best 1 = .ok (.ifCond .lt 27, 3) := by decide +kernel
theorem dX11_best_4 : decode cX11_best 4 = .ok (.iload_n 1, 1) := by decide +kernel
theorem dX11_best_5 : decode cX11_best 5 = .ok (.bipush 31, 2) := by decide +kernel
theorem dX11_best_7 : decode cX11_best 7 = .ok (.if_icmp .gt 21, 3) := by decide +kernel
theorem dX11_best_10 : decode cX11_best 10 = .ok (.iload_n 1, 1) := by decide +kernel
theorem dX11_best_11 : decode cX11_best 11 = .ok (.invokestatic 217, 3) := by decide +kernel
theorem dX11_best_14 : decode cX11_best 14 = .ok (.iconst 2, 1) := by decide +kernel
theorem dX11_best_15 : decode cX11_best 15 = .ok (.if_icmp .lt 13, 3) := by decide +kernel
theorem dX11_best_18 : decode cX11_best 18 = .ok (.iload_n 2, 1) := by decide +kernel
theorem dX11_best_19 : decode cX11_best 19 = .ok (.iconst (-1), 1) := by decide +kernel
theorem dX11_best_20 : decode cX11_best 20 = .ok (.if_icmp .lt 8, 3) := by decide +kernel
theorem dX11_best_23 : decode cX11_best 23 = .ok (.iload_n 2, 1) := by decide +kernel
theorem dX11_best_24 : decode cX11_best 24 = .ok (.iconst 5, 1) := by decide +kernel
theorem dX11_best_25 : decode cX11_best 25 = .ok (.if_icmp .lt 6, 3) := by decide +kernel
theorem dX11_best_28 : decode cX11_best 28 = .ok (.bipush (-2), 2) := by decide +kernel
theorem dX11_best_30 : decode cX11_best 30 = .ok (.ireturn, 1) := by decide +kernel
theorem dX11_best_31 : decode cX11_best 31 = .ok (.aload_n 0, 1) := by decide +kernel
theorem dX11_best_32 : decode cX11_best 32 = .ok (.getfield 87, 3) := by decide +kernel
theorem dX11_best_35 : decode cX11_best 35 = .ok (.aload_n 0, 1) := by decide +kernel
theorem dX11_best_36 : decode cX11_best 36 = .ok (.getfield 50, 3) := by decide +kernel
theorem dX11_best_39 : decode cX11_best 39 = .ok (.invokevirtual 222, 3) := by decide +kernel
theorem dX11_best_42 : decode cX11_best 42 = .ok (.aload_n 0, 1) := by decide +kernel
theorem dX11_best_43 : decode cX11_best 43 = .ok (.getfield 87, 3) := by decide +kernel
theorem dX11_best_46 : decode cX11_best 46 = .ok (.iload_n 1, 1) := by decide +kernel
theorem dX11_best_47 : decode cX11_best 47 = .ok (.invokevirtual 226, 3) := by decide +kernel
theorem dX11_best_50 : decode cX11_best 50 = .ok (.iload_n 2, 1) := by decide +kernel
theorem dX11_best_51 : decode cX11_best 51 = .ok (.iconst (-1), 1) := by decide +kernel
theorem dX11_best_52 : decode cX11_best 52 = .ok (.if_icmp .ne 15, 3) := by decide +kernel
theorem dX11_best_55 : decode cX11_best 55 = .ok (.aload_n 0, 1) := by decide +kernel
theorem dX11_best_56 : decode cX11_best 56 = .ok (.getfield 87, 3) := by decide +kernel
theorem dX11_best_59 : decode cX11_best 59 = .ok (.iconst 5, 1) := by decide +kernel
theorem dX11_best_60 : decode cX11_best 60 = .ok (.iload_n 1, 1) := by decide +kernel
theorem dX11_best_61 : decode cX11_best 61 = .ok (.invokevirtual 229, 3) := by decide +kernel
theorem dX11_best_64 : decode cX11_best 64 = .ok (.goto 12, 3) := by decide +kernel
theorem dX11_best_67 : decode cX11_best 67 = .ok (.aload_n 0, 1) := by decide +kernel
theorem dX11_best_68 : decode cX11_best 68 = .ok (.getfield 87, 3) := by decide +kernel
theorem dX11_best_71 : decode cX11_best 71 = .ok (.iload_n 1, 1) := by decide +kernel
theorem dX11_best_72 : decode cX11_best 72 = .ok (.iload_n 2, 1) := by decide +kernel
theorem dX11_best_73 : decode cX11_best 73 = .ok (.invokevirtual 232, 3) := by decide +kernel
theorem dX11_best_76 : decode cX11_best 76 = .ok (.ireturn, 1) := by decide +kernel
theorem dX11_holds_0 : decode cX11_holds 0 = .ok (.iload_n 1, 1) := by decide +kernel
theorem dX11_holds_1 : decode cX11_holds 1 = .ok (.ifCond .lt 49, 3) := by decide +kernel
theorem dX11_holds_4 : decode cX11_holds 4 = .ok (.iload_n 1, 1) := by decide +kernel
theorem dX11_holds_5 : decode cX11_holds 5 = .ok (.aload_n 0, 1) := by decide +kernel
theorem dX11_holds_6 : decode cX11_holds 6 = .ok (.getfield 50, 3) := by decide +kernel
theorem dX11_holds_9 : decode cX11_holds 9 = .ok (.invokevirtual 235, 3) := by decide +kernel
theorem dX11_holds_12 : decode cX11_holds 12 = .ok (.if_icmp .ge 38, 3) := by decide +kernel
theorem dX11_holds_15 : decode cX11_holds 15 = .ok (.iload_n 2, 1) := by decide +kernel
theorem dX11_holds_16 : decode cX11_holds 16 = .ok (.ifCond .lt 34, 3) := by decide +kernel
theorem dX11_holds_19 : decode cX11_holds 19 = .ok (.iload_n 3, 1) := by decide +kernel
theorem dX11_holds_20 : decode cX11_holds 20 = .ok (.ifCond .lt 30, 3) := by decide +kernel
theorem dX11_holds_23 : decode cX11_holds 23 = .ok (.iload_n 3, 1) := by decide +kernel
theorem dX11_holds_24 : decode cX11_holds 24 = .ok (.bipush 6, 2) := by decide +kernel
theorem dX11_holds_26 : decode cX11_holds 26 = .ok (.if_icmp .gt 24, 3) := by decide +kernel
theorem dX11_holds_29 : decode cX11_holds 29 = .ok (.iload_n 2, 1) := by decide +kernel
theorem dX11_holds_30 : decode cX11_holds 30 = .ok (.aload_n 0, 1) := by decide +kernel
theorem dX11_holds_31 : decode cX11_holds 31 = .ok (.getfield 57, 3) := by decide +kernel
theorem dX11_holds_34 : decode cX11_holds 34 = .ok (.getfield 182, 3) := by decide +kernel
theorem dX11_holds_37 : decode cX11_holds 37 = .ok (.iload_n 3, 1) := by decide +kernel
theorem dX11_holds_38 : decode cX11_holds 38 = .ok (.isub, 1) := by decide +kernel
theorem dX11_holds_39 : decode cX11_holds 39 = .ok (.if_icmp .gt 11, 3) := by decide +kernel
theorem dX11_holds_42 : decode cX11_holds 42 = .ok (.iload 4, 2) := by decide +kernel
theorem dX11_holds_44 : decode cX11_holds 44 = .ok (.invokestatic 238, 3) := by decide +kernel
theorem dX11_holds_47 : decode cX11_holds 47 = .ok (.ifCond .ne 9, 3) := by decide +kernel
theorem dX11_holds_50 : decode cX11_holds 50 = .ok (.bipush (-2), 2) := by decide +kernel
theorem dX11_holds_52 : decode cX11_holds 52 = .ok (.invokestatic 241, 3) := by decide +kernel
theorem dX11_holds_55 : decode cX11_holds 55 = .ok (.lreturn, 1) := by decide +kernel
theorem dX11_holds_56 : decode cX11_holds 56 = .ok (.lconst 1, 1) := by decide +kernel
theorem dX11_holds_57 : decode cX11_holds 57 = .ok (.lstore 5, 2) := by decide +kernel
theorem dX11_holds_59 : decode cX11_holds 59 = .ok (.lconst 1, 1) := by decide +kernel
theorem dX11_holds_60 : decode cX11_holds 60 = .ok (.lstore 7, 2) := by decide +kernel
theorem dX11_holds_62 : decode cX11_holds 62 = .ok (.bipush 16, 2) := by decide +kernel
theorem dX11_holds_64 : decode cX11_holds 64 = .ok (.aload_n 0, 1) := by decide +kernel
theorem dX11_holds_65 : decode cX11_holds 65 = .ok (.getfield 50, 3) := by decide +kernel
theorem dX11_holds_68 : decode cX11_holds 68 = .ok (.iload_n 1, 1) := by decide +kernel
theorem dX11_holds_69 : decode cX11_holds 69 = .ok (.invokevirtual 245, 3) := by decide +kernel
theorem dX11_holds_72 : decode cX11_holds 72 = .ok (.isub, 1) := by decide +kernel
theorem dX11_holds_73 : decode cX11_holds 73 = .ok (.istore 9, 2) := by decide +kernel
theorem dX11_holds_75 : decode cX11_holds 75 = .ok (.iconst 0, 1) := by decide +kernel
theorem dX11_holds_76 : decode cX11_holds 76 = .ok (.istore 10, 2) := by decide +kernel
theorem dX11_holds_78 : decode cX11_holds 78 = .ok (.iload 10, 2) := by decide +kernel
theorem dX11_holds_80 : decode cX11_holds 80 = .ok (.iload_n 3, 1) := by decide +kernel
theorem dX11_holds_81 : decode cX11_holds 81 = .ok (.if_icmp .ge 38, 3) := by decide +kernel
theorem dX11_holds_84 : decode cX11_holds 84 = .ok (.lload 5, 2) := by decide +kernel
theorem dX11_holds_86 : decode cX11_holds 86 = .ok (.sipush 256, 3) := by decide +kernel
theorem dX11_holds_89 : decode cX11_holds 89 = .ok (.aload_n 0, 1) := by decide +kernel
theorem dX11_holds_90 : decode cX11_holds 90 = .ok (.iload_n 2, 1) := by decide +kernel
theorem dX11_holds_91 : decode cX11_holds 91 = .ok (.iload 10, 2) := by decide +kernel
theorem dX11_holds_93 : decode cX11_holds 93 = .ok (.iadd, 1) := by decide +kernel
theorem dX11_holds_94 : decode cX11_holds 94 = .ok (.invokevirtual 214, 3) := by decide +kernel
theorem dX11_holds_97 : decode cX11_holds 97 = .ok (.iload 9, 2) := by decide +kernel
theorem dX11_holds_99 : decode cX11_holds 99 = .ok (.imul, 1) := by decide +kernel
theorem dX11_holds_100 : decode cX11_holds 100 = .ok (.isub, 1) := by decide +kernel
theorem dX11_holds_101 : decode cX11_holds 101 = .ok (.i2l, 1) := by decide +kernel
theorem dX11_holds_102 : decode cX11_holds 102 = .ok (.lmul, 1) := by decide +kernel
theorem dX11_holds_103 : decode cX11_holds 103 = .ok (.lstore 5, 2) := by decide +kernel
theorem dX11_holds_105 : decode cX11_holds 105 = .ok (.lload 7, 2) := by decide +kernel
theorem dX11_holds_107 : decode cX11_holds 107 = .ok (.ldc2_w 248, 3) := by decide +kernel
theorem dX11_holds_110 : decode cX11_holds 110 = .ok (.lmul, 1) := by decide +kernel
theorem dX11_holds_111 : decode cX11_holds 111 = .ok (.lstore 7, 2) := by decide +kernel
theorem dX11_holds_113 : decode cX11_holds 113 = .ok (.iinc 10 1, 3) := by decide +kernel
theorem dX11_holds_116 : decode cX11_holds 116 = .ok (.goto (-38), 3) := by decide +kernel
theorem dX11_holds_119 : decode cX11_holds 119 = .ok (.lload 5, 2) := by decide +kernel
theorem dX11_holds_121 : decode cX11_holds 121 = .ok (.lload 7, 2) := by decide +kernel
theorem dX11_holds_123 : decode cX11_holds 123 = .ok (.iload 4, 2) := by decide +kernel
theorem dX11_holds_125 : decode cX11_holds 125 = .ok (.invokestatic 250, 3) := by decide +kernel
theorem dX11_holds_128 : decode cX11_holds 128 = .ok (.lreturn, 1) := by decide +kernel
theorem dX11_alike_0 : decode cX11_alike 0 = .ok (.iload_n 1, 1) := by decide +kernel
theorem dX11_alike_1 : decode cX11_alike 1 = .ok (.invokestatic 238, 3) := by decide +kernel
theorem dX11_alike_4 : decode cX11_alike 4 = .ok (.ifCond .ne 9, 3) := by decide +kernel
theorem dX11_alike_7 : decode cX11_alike 7 = .ok (.bipush (-2), 2) := by decide +kernel
theorem dX11_alike_9 : decode cX11_alike 9 = .ok (.invokestatic 241, 3) := by decide +kernel
theorem dX11_alike_12 : decode cX11_alike 12 = .ok (.lreturn, 1) := by decide +kernel
theorem dX11_alike_13 : decode cX11_alike 13 = .ok (.aload_n 0, 1) := by decide +kernel
theorem dX11_alike_14 : decode cX11_alike 14 = .ok (.getfield 50, 3) := by decide +kernel
theorem dX11_alike_17 : decode cX11_alike 17 = .ok (.getfield 254, 3) := by decide +kernel
theorem dX11_alike_20 : decode cX11_alike 20 = .ok (.ifCond .ne 5, 3) := by decide +kernel
theorem dX11_alike_23 : decode cX11_alike 23 = .ok (.lconst 1, 1) := by decide +kernel
theorem dX11_alike_24 : decode cX11_alike 24 = .ok (.lreturn, 1) := by decide +kernel
theorem dX11_alike_25 : decode cX11_alike 25 = .ok (.lconst 1, 1) := by decide +kernel
theorem dX11_alike_26 : decode cX11_alike 26 = .ok (.lstore_n 2, 1) := by decide +kernel
theorem dX11_alike_27 : decode cX11_alike 27 = .ok (.lconst 1, 1) := by decide +kernel
theorem dX11_alike_28 : decode cX11_alike 28 = .ok (.lstore 4, 2) := by decide +kernel
theorem dX11_alike_30 : decode cX11_alike 30 = .ok (.lconst 1, 1) := by decide +kernel
theorem dX11_alike_31 : decode cX11_alike 31 = .ok (.lstore 6, 2) := by decide +kernel
theorem dX11_alike_33 : decode cX11_alike 33 = .ok (.iconst 0, 1) := by decide +kernel
theorem dX11_alike_34 : decode cX11_alike 34 = .ok (.istore 8, 2) := by decide +kernel
theorem dX11_alike_36 : decode cX11_alike 36 = .ok (.iload 8, 2) := by decide +kernel
theorem dX11_alike_38 : decode cX11_alike 38 = .ok (.aload_n 0, 1) := by decide +kernel
theorem dX11_alike_39 : decode cX11_alike 39 = .ok (.getfield 50, 3) := by decide +kernel
theorem dX11_alike_42 : decode cX11_alike 42 = .ok (.getfield 254, 3) := by decide +kernel
theorem dX11_alike_45 : decode cX11_alike 45 = .ok (.if_icmp .ge 52, 3) := by decide +kernel
theorem dX11_alike_48 : decode cX11_alike 48 = .ok (.aload_n 0, 1) := by decide +kernel
theorem dX11_alike_49 : decode cX11_alike 49 = .ok (.getfield 50, 3) := by decide +kernel
theorem dX11_alike_52 : decode cX11_alike 52 = .ok (.aload_n 0, 1) := by decide +kernel
theorem dX11_alike_53 : decode cX11_alike 53 = .ok (.getfield 50, 3) := by decide +kernel
theorem dX11_alike_56 : decode cX11_alike 56 = .ok (.iload 8, 2) := by decide +kernel
theorem dX11_alike_58 : decode cX11_alike 58 = .ok (.invokevirtual 207, 3) := by decide +kernel
theorem dX11_alike_61 : decode cX11_alike 61 = .ok (.invokevirtual 257, 3) := by decide +kernel
theorem dX11_alike_64 : decode cX11_alike 64 = .ok (.istore 9, 2) := by decide +kernel
theorem dX11_alike_66 : decode cX11_alike 66 = .ok (.lload_n 2, 1) := by decide +kernel
theorem dX11_alike_67 : decode cX11_alike 67 = .ok (.iload 9, 2) := by decide +kernel
theorem dX11_alike_69 : decode cX11_alike 69 = .ok (.i2l, 1) := by decide +kernel
theorem dX11_alike_70 : decode cX11_alike 70 = .ok (.lmul, 1) := by decide +kernel
theorem dX11_alike_71 : decode cX11_alike 71 = .ok (.lstore_n 2, 1) := by decide +kernel
theorem dX11_alike_72 : decode cX11_alike 72 = .ok (.lload 4, 2) := by decide +kernel
theorem dX11_alike_74 : decode cX11_alike 74 = .ok (.bipush 16, 2) := by decide +kernel
theorem dX11_alike_76 : decode cX11_alike 76 = .ok (.iload 9, 2) := by decide +kernel
theorem dX11_alike_78 : decode cX11_alike 78 = .ok (.isub, 1) := by decide +kernel
theorem dX11_alike_79 : decode cX11_alike 79 = .ok (.i2l, 1) := by decide +kernel
theorem dX11_alike_80 : decode cX11_alike 80 = .ok (.lmul, 1) := by decide +kernel
theorem dX11_alike_81 : decode cX11_alike 81 = .ok (.lstore 4, 2) := by decide +kernel
theorem dX11_alike_83 : decode cX11_alike 83 = .ok (.lload 6, 2) := by decide +kernel
theorem dX11_alike_85 : decode cX11_alike 85 = .ok (.ldc2_w 260, 3) := by decide +kernel
theorem dX11_alike_88 : decode cX11_alike 88 = .ok (.lmul, 1) := by decide +kernel
theorem dX11_alike_89 : decode cX11_alike 89 = .ok (.lstore 6, 2) := by decide +kernel
theorem dX11_alike_91 : decode cX11_alike 91 = .ok (.iinc 8 1, 3) := by decide +kernel
theorem dX11_alike_94 : decode cX11_alike 94 = .ok (.goto (-58), 3) := by decide +kernel
theorem dX11_alike_97 : decode cX11_alike 97 = .ok (.lload_n 2, 1) := by decide +kernel
theorem dX11_alike_98 : decode cX11_alike 98 = .ok (.lload 4, 2) := by decide +kernel
theorem dX11_alike_100 : decode cX11_alike 100 = .ok (.ladd, 1) := by decide +kernel
theorem dX11_alike_101 : decode cX11_alike 101 = .ok (.lload 6, 2) := by decide +kernel
theorem dX11_alike_103 : decode cX11_alike 103 = .ok (.iload_n 1, 1) := by decide +kernel
theorem dX11_alike_104 : decode cX11_alike 104 = .ok (.invokestatic 250, 3) := by decide +kernel
theorem dX11_alike_107 : decode cX11_alike 107 = .ok (.lreturn, 1) := by decide +kernel
theorem dX11_torn_0 : decode cX11_torn 0 = .ok (.iload_n 2, 1) := by decide +kernel
theorem dX11_torn_1 : decode cX11_torn 1 = .ok (.ifCond .lt 8, 3) := by decide +kernel
theorem dX11_torn_4 : decode cX11_torn 4 = .ok (.iload_n 2, 1) := by decide +kernel
theorem dX11_torn_5 : decode cX11_torn 5 = .ok (.iconst 3, 1) := by decide +kernel
theorem dX11_torn_6 : decode cX11_torn 6 = .ok (.if_icmp .le 6, 3) := by decide +kernel
theorem dX11_torn_9 : decode cX11_torn 9 = .ok (.bipush (-2), 2) := by decide +kernel
theorem dX11_torn_11 : decode cX11_torn 11 = .ok (.ireturn, 1) := by decide +kernel
theorem dX11_torn_12 : decode cX11_torn 12 = .ok (.aload_n 0, 1) := by decide +kernel
theorem dX11_torn_13 : decode cX11_torn 13 = .ok (.getfield 64, 3) := by decide +kernel
theorem dX11_torn_16 : decode cX11_torn 16 = .ok (.iload_n 1, 1) := by decide +kernel
theorem dX11_torn_17 : decode cX11_torn 17 = .ok (.putfield 262, 3) := by decide +kernel
theorem dX11_torn_20 : decode cX11_torn 20 = .ok (.aload_n 0, 1) := by decide +kernel
theorem dX11_torn_21 : decode cX11_torn 21 = .ok (.invokevirtual 265, 3) := by decide +kernel
theorem dX11_torn_24 : decode cX11_torn 24 = .ok (.iload_n 2, 1) := by decide +kernel
theorem dX11_torn_25 : decode cX11_torn 25 = .ok (.ifCond .ne 11, 3) := by decide +kernel
theorem dX11_torn_28 : decode cX11_torn 28 = .ok (.aload_n 0, 1) := by decide +kernel
theorem dX11_torn_29 : decode cX11_torn 29 = .ok (.getfield 64, 3) := by decide +kernel
theorem dX11_torn_32 : decode cX11_torn 32 = .ok (.getfield 268, 3) := by decide +kernel
theorem dX11_torn_35 : decode cX11_torn 35 = .ok (.ireturn, 1) := by decide +kernel
theorem dX11_torn_36 : decode cX11_torn 36 = .ok (.iload_n 2, 1) := by decide +kernel
theorem dX11_torn_37 : decode cX11_torn 37 = .ok (.iconst 1, 1) := by decide +kernel
theorem dX11_torn_38 : decode cX11_torn 38 = .ok (.if_icmp .ne 11, 3) := by decide +kernel
theorem dX11_torn_41 : decode cX11_torn 41 = .ok (.aload_n 0, 1) := by decide +kernel
theorem dX11_torn_42 : decode cX11_torn 42 = .ok (.getfield 64, 3) := by decide +kernel
theorem dX11_torn_45 : decode cX11_torn 45 = .ok (.getfield 271, 3) := by decide +kernel
theorem dX11_torn_48 : decode cX11_torn 48 = .ok (.ireturn, 1) := by decide +kernel
theorem dX11_torn_49 : decode cX11_torn 49 = .ok (.iload_n 2, 1) := by decide +kernel
theorem dX11_torn_50 : decode cX11_torn 50 = .ok (.iconst 2, 1) := by decide +kernel
theorem dX11_torn_51 : decode cX11_torn 51 = .ok (.if_icmp .ne 13, 3) := by decide +kernel
theorem dX11_torn_54 : decode cX11_torn 54 = .ok (.aload_n 0, 1) := by decide +kernel
theorem dX11_torn_55 : decode cX11_torn 55 = .ok (.getfield 64, 3) := by decide +kernel
theorem dX11_torn_58 : decode cX11_torn 58 = .ok (.getfield 274, 3) := by decide +kernel
theorem dX11_torn_61 : decode cX11_torn 61 = .ok (.goto 17, 3) := by decide +kernel
theorem dX11_torn_64 : decode cX11_torn 64 = .ok (.aload_n 0, 1) := by decide +kernel
theorem dX11_torn_65 : decode cX11_torn 65 = .ok (.getfield 50, 3) := by decide +kernel
theorem dX11_torn_68 : decode cX11_torn 68 = .ok (.aload_n 0, 1) := by decide +kernel
theorem dX11_torn_69 : decode cX11_torn 69 = .ok (.getfield 64, 3) := by decide +kernel
theorem dX11_torn_72 : decode cX11_torn 72 = .ok (.getfield 268, 3) := by decide +kernel
theorem dX11_torn_75 : decode cX11_torn 75 = .ok (.invokevirtual 277, 3) := by decide +kernel
theorem dX11_torn_78 : decode cX11_torn 78 = .ok (.ireturn, 1) := by decide +kernel
theorem dX11_fairs_0 : decode cX11_fairs 0 = .ok (.iload_n 2, 1) := by decide +kernel
theorem dX11_fairs_1 : decode cX11_fairs 1 = .ok (.iconst 1, 1) := by decide +kernel
theorem dX11_fairs_2 : decode cX11_fairs 2 = .ok (.if_icmp .lt 9, 3) := by decide +kernel
theorem dX11_fairs_5 : decode cX11_fairs 5 = .ok (.iload_n 2, 1) := by decide +kernel
theorem dX11_fairs_6 : decode cX11_fairs 6 = .ok (.bipush 60, 2) := by decide +kernel
theorem dX11_fairs_8 : decode cX11_fairs 8 = .ok (.if_icmp .le 6, 3) := by decide +kernel
theorem dX11_fairs_11 : decode cX11_fairs 11 = .ok (.bipush (-2), 2) := by decide +kernel
theorem dX11_fairs_13 : decode cX11_fairs 13 = .ok (.ireturn, 1) := by decide +kernel
theorem dX11_fairs_14 : decode cX11_fairs 14 = .ok (.iconst 0, 1) := by decide +kernel
theorem dX11_fairs_15 : decode cX11_fairs 15 = .ok (.istore_n 3, 1) := by decide +kernel
theorem dX11_fairs_16 : decode cX11_fairs 16 = .ok (.aload_n 0, 1) := by decide +kernel
theorem dX11_fairs_17 : decode cX11_fairs 17 = .ok (.getfield 64, 3) := by decide +kernel
theorem dX11_fairs_20 : decode cX11_fairs 20 = .ok (.iload_n 1, 1) := by decide +kernel
theorem dX11_fairs_21 : decode cX11_fairs 21 = .ok (.putfield 262, 3) := by decide +kernel
theorem dX11_fairs_24 : decode cX11_fairs 24 = .ok (.iconst 0, 1) := by decide +kernel
theorem dX11_fairs_25 : decode cX11_fairs 25 = .ok (.istore 4, 2) := by decide +kernel
theorem dX11_fairs_27 : decode cX11_fairs 27 = .ok (.iload 4, 2) := by decide +kernel
theorem dX11_fairs_29 : decode cX11_fairs 29 = .ok (.iload_n 2, 1) := by decide +kernel
theorem dX11_fairs_30 : decode cX11_fairs 30 = .ok (.if_icmp .ge 23, 3) := by decide +kernel
theorem dX11_fairs_33 : decode cX11_fairs 33 = .ok (.aload_n 0, 1) := by decide +kernel
theorem dX11_fairs_34 : decode cX11_fairs 34 = .ok (.invokevirtual 265, 3) := by decide +kernel
theorem dX11_fairs_37 : decode cX11_fairs 37 = .ok (.iload_n 3, 1) := by decide +kernel
theorem dX11_fairs_38 : decode cX11_fairs 38 = .ok (.aload_n 0, 1) := by decide +kernel
theorem dX11_fairs_39 : decode cX11_fairs 39 = .ok (.getfield 64, 3) := by decide +kernel
theorem dX11_fairs_42 : decode cX11_fairs 42 = .ok (.getfield 274, 3) := by decide +kernel
theorem dX11_fairs_45 : decode cX11_fairs 45 = .ok (.iadd, 1) := by decide +kernel
theorem dX11_fairs_46 : decode cX11_fairs 46 = .ok (.istore_n 3, 1) := by decide +kernel
theorem dX11_fairs_47 : decode cX11_fairs 47 = .ok (.iinc 4 1, 3) := by decide +kernel
theorem dX11_fairs_50 : decode cX11_fairs 50 = .ok (.goto (-23), 3) := by decide +kernel
theorem dX11_fairs_53 : decode cX11_fairs 53 = .ok (.iload_n 3, 1) := by decide +kernel
theorem dX11_fairs_54 : decode cX11_fairs 54 = .ok (.ireturn, 1) := by decide +kernel
theorem dX11_is_0 : decode cX11_is 0 = .ok (.aload_n 0, 1) := by decide +kernel
theorem dX11_is_1 : decode cX11_is 1 = .ok (.getfield 27, 3) := by decide +kernel
theorem dX11_is_4 : decode cX11_is 4 = .ok (.iload_n 1, 1) := by decide +kernel
theorem dX11_is_5 : decode cX11_is 5 = .ok (.invokevirtual 176, 3) := by decide +kernel
theorem dX11_is_8 : decode cX11_is 8 = .ok (.ifCond .eq 29, 3) := by decide +kernel
theorem dX11_is_11 : decode cX11_is 11 = .ok (.iload_n 2, 1) := by decide +kernel
theorem dX11_is_12 : decode cX11_is 12 = .ok (.invokestatic 280, 3) := by decide +kernel
theorem dX11_is_15 : decode cX11_is 15 = .ok (.ifCond .eq 22, 3) := by decide +kernel
theorem dX11_is_18 : decode cX11_is 18 = .ok (.aload_n 0, 1) := by decide +kernel
theorem dX11_is_19 : decode cX11_is 19 = .ok (.getfield 27, 3) := by decide +kernel
theorem dX11_is_22 : decode cX11_is 22 = .ok (.iload_n 3, 1) := by decide +kernel
theorem dX11_is_23 : decode cX11_is 23 = .ok (.invokevirtual 176, 3) := by decide +kernel
theorem dX11_is_26 : decode cX11_is 26 = .ok (.ifCond .eq 11, 3) := by decide +kernel
theorem dX11_is_29 : decode cX11_is 29 = .ok (.iload 4, 2) := by decide +kernel
theorem dX11_is_31 : decode cX11_is 31 = .ok (.invokestatic 238, 3) := by decide +kernel
theorem dX11_is_34 : decode cX11_is 34 = .ok (.ifCond .ne 9, 3) := by decide +kernel
theorem dX11_is_37 : decode cX11_is 37 = .ok (.bipush (-2), 2) := by decide +kernel
theorem dX11_is_39 : decode cX11_is 39 = .ok (.invokestatic 241, 3) := by decide +kernel
theorem dX11_is_42 : decode cX11_is 42 = .ok (.lreturn, 1) := by decide +kernel
theorem dX11_is_43 : decode cX11_is 43 = .ok (.aload_n 0, 1) := by decide +kernel
theorem dX11_is_44 : decode cX11_is 44 = .ok (.iload_n 1, 1) := by decide +kernel
theorem dX11_is_45 : decode cX11_is 45 = .ok (.iload_n 2, 1) := by decide +kernel
theorem dX11_is_46 : decode cX11_is 46 = .ok (.invokevirtual 283, 3) := by decide +kernel
theorem dX11_is_49 : decode cX11_is 49 = .ok (.aload_n 0, 1) := by decide +kernel
theorem dX11_is_50 : decode cX11_is 50 = .ok (.getfield 73, 3) := by decide +kernel
theorem dX11_is_53 : decode cX11_is 53 = .ok (.iload_n 3, 1) := by decide +kernel
theorem dX11_is_54 : decode cX11_is 54 = .ok (.invokevirtual 287, 3) := by decide +kernel
theorem dX11_is_57 : decode cX11_is 57 = .ok (.aload_n 0, 1) := by decide +kernel
theorem dX11_is_58 : decode cX11_is 58 = .ok (.getfield 73, 3) := by decide +kernel
theorem dX11_is_61 : decode cX11_is 61 = .ok (.getfield 290, 3) := by decide +kernel
theorem dX11_is_64 : decode cX11_is 64 = .ok (.iload 4, 2) := by decide +kernel
theorem dX11_is_66 : decode cX11_is 66 = .ok (.invokestatic 250, 3) := by decide +kernel
theorem dX11_is_69 : decode cX11_is 69 = .ok (.lreturn, 1) := by decide +kernel
theorem dX11_likeliest_0 : decode cX11_likeliest 0 = .ok (.aload_n 0, 1) := by decide +kernel
theorem dX11_likeliest_1 : decode cX11_likeliest 1 = .ok (.getfield 27, 3) := by decide +kernel
theorem dX11_likeliest_4 : decode cX11_likeliest 4 = .ok (.iload_n 1, 1) := by decide +kernel
theorem dX11_likeliest_5 : decode cX11_likeliest 5 = .ok (.invokevirtual 176, 3) := by decide +kernel
theorem dX11_likeliest_8 : decode cX11_likeliest 8 = .ok (.ifCond .eq 10, 3) := by decide +kernel
theorem dX11_likeliest_11 : decode cX11_likeliest 11 = .ok (.iload_n 2, 1) := by decide +kernel
theorem dX11_likeliest_12 : decode cX11_likeliest 12 = .ok (.invokestatic 280, 3) := by decide +kernel
theorem dX11_likeliest_15 : decode cX11_likeliest 15 = .ok (.ifCond .ne 6, 3) := by decide +kernel
theorem dX11_likeliest_18 : decode cX11_likeliest 18 = .ok (.bipush (-2), 2) := by decide +kernel
theorem dX11_likeliest_20 : decode cX11_likeliest 20 = .ok (.ireturn, 1) := by decide +kernel
theorem dX11_likeliest_21 : decode cX11_likeliest 21 = .ok (.aload_n 0, 1) := by decide +kernel
theorem dX11_likeliest_22 : decode cX11_likeliest 22 = .ok (.iload_n 1, 1) := by decide +kernel
theorem dX11_likeliest_23 : decode cX11_likeliest 23 = .ok (.iload_n 2, 1) := by decide +kernel
theorem dX11_likeliest_24 : decode cX11_likeliest 24 = .ok (.invokevirtual 283, 3) := by decide +kernel
theorem dX11_likeliest_27 : decode cX11_likeliest 27 = .ok (.aload_n 0, 1) := by decide +kernel
theorem dX11_likeliest_28 : decode cX11_likeliest 28 = .ok (.getfield 73, 3) := by decide +kernel
theorem dX11_likeliest_31 : decode cX11_likeliest 31 = .ok (.invokevirtual 294, 3) := by decide +kernel
theorem dX11_likeliest_34 : decode cX11_likeliest 34 = .ok (.ireturn, 1) := by decide +kernel
theorem dX11_look_0 : decode cX11_look 0 = .ok (.iload_n 1, 1) := by decide +kernel
theorem dX11_look_1 : decode cX11_look 1 = .ok (.invokestatic 153, 3) := by decide +kernel
theorem dX11_look_4 : decode cX11_look 4 = .ok (.ifCond .eq 14, 3) := by decide +kernel
theorem dX11_look_7 : decode cX11_look 7 = .ok (.iload_n 2, 1) := by decide +kernel
theorem dX11_look_8 : decode cX11_look 8 = .ok (.iconst 1, 1) := by decide +kernel
theorem dX11_look_9 : decode cX11_look 9 = .ok (.if_icmp .lt 9, 3) := by decide +kernel
theorem dX11_look_12 : decode cX11_look 12 = .ok (.iload_n 2, 1) := by decide +kernel
theorem dX11_look_13 : decode cX11_look 13 = .ok (.bipush 9, 2) := by decide +kernel
theorem dX11_look_15 : decode cX11_look 15 = .ok (.if_icmp .le 6, 3) := by decide +kernel
theorem dX11_look_18 : decode cX11_look 18 = .ok (.bipush (-2), 2) := by decide +kernel
theorem dX11_look_20 : decode cX11_look 20 = .ok (.ireturn, 1) := by decide +kernel
theorem dX11_look_21 : decode cX11_look 21 = .ok (.aload_n 0, 1) := by decide +kernel
theorem dX11_look_22 : decode cX11_look 22 = .ok (.getfield 80, 3) := by decide +kernel
theorem dX11_look_25 : decode cX11_look 25 = .ok (.getfield 297, 3) := by decide +kernel
theorem dX11_look_28 : decode cX11_look 28 = .ok (.iconst 5, 1) := by decide +kernel
theorem dX11_look_29 : decode cX11_look 29 = .ok (.if_icmp .lt 6, 3) := by decide +kernel
theorem dX11_look_32 : decode cX11_look 32 = .ok (.bipush (-4), 2) := by decide +kernel
theorem dX11_look_34 : decode cX11_look 34 = .ok (.ireturn, 1) := by decide +kernel
theorem dX11_look_35 : decode cX11_look 35 = .ok (.aload_n 0, 1) := by decide +kernel
theorem dX11_look_36 : decode cX11_look 36 = .ok (.getfield 80, 3) := by decide +kernel
theorem dX11_look_39 : decode cX11_look 39 = .ok (.iload_n 1, 1) := by decide +kernel
theorem dX11_look_40 : decode cX11_look 40 = .ok (.iload_n 2, 1) := by decide +kernel
theorem dX11_look_41 : decode cX11_look 41 = .ok (.invokevirtual 298, 3) := by decide +kernel
theorem dX11_look_44 : decode cX11_look 44 = .ok (.aload_n 0, 1) := by decide +kernel
theorem dX11_look_45 : decode cX11_look 45 = .ok (.getfield 80, 3) := by decide +kernel
theorem dX11_look_48 : decode cX11_look 48 = .ok (.getfield 297, 3) := by decide +kernel
theorem dX11_look_51 : decode cX11_look 51 = .ok (.ireturn, 1) := by decide +kernel
theorem dX11_forget_0 : decode cX11_forget 0 = .ok (.aload_n 0, 1) := by decide +kernel
theorem dX11_forget_1 : decode cX11_forget 1 = .ok (.getfield 80, 3) := by decide +kernel
theorem dX11_forget_4 : decode cX11_forget 4 = .ok (.getfield 297, 3) := by decide +kernel
theorem dX11_forget_7 : decode cX11_forget 7 = .ok (.istore_n 1, 1) := by decide +kernel
theorem dX11_forget_8 : decode cX11_forget 8 = .ok (.aload_n 0, 1) := by decide +kernel
theorem dX11_forget_9 : decode cX11_forget 9 = .ok (.getfield 80, 3) := by decide +kernel
theorem dX11_forget_12 : decode cX11_forget 12 = .ok (.iconst 0, 1) := by decide +kernel
theorem dX11_forget_13 : decode cX11_forget 13 = .ok (.putfield 297, 3) := by decide +kernel
theorem dX11_forget_16 : decode cX11_forget 16 = .ok (.iload_n 1, 1) := by decide +kernel
theorem dX11_forget_17 : decode cX11_forget 17 = .ok (.ireturn, 1) := by decide +kernel
theorem dX11_seek_0 : decode cX11_seek 0 = .ok (.iload_n 1, 1) := by decide +kernel
theorem dX11_seek_1 : decode cX11_seek 1 = .ok (.invokestatic 135, 3) := by decide +kernel
theorem dX11_seek_4 : decode cX11_seek 4 = .ok (.ifCond .eq 14, 3) := by decide +kernel
theorem dX11_seek_7 : decode cX11_seek 7 = .ok (.iload_n 2, 1) := by decide +kernel
theorem dX11_seek_8 : decode cX11_seek 8 = .ok (.bipush (-2), 2) := by decide +kernel
theorem dX11_seek_10 : decode cX11_seek 10 = .ok (.if_icmp .lt 8, 3) := by decide +kernel
theorem dX11_seek_13 : decode cX11_seek 13 = .ok (.iload_n 2, 1) := by decide +kernel
theorem dX11_seek_14 : decode cX11_seek 14 = .ok (.iconst 5, 1) := by decide +kernel
theorem dX11_seek_15 : decode cX11_seek 15 = .ok (.if_icmp .lt 9, 3) := by decide +kernel
theorem dX11_seek_18 : decode cX11_seek 18 = .ok (.bipush (-2), 2) := by decide +kernel
theorem dX11_seek_20 : decode cX11_seek 20 = .ok (.invokestatic 241, 3) := by decide +kernel
theorem dX11_seek_23 : decode cX11_seek 23 = .ok (.lreturn, 1) := by decide +kernel
theorem dX11_seek_24 : decode cX11_seek 24 = .ok (.aload_n 0, 1) := by decide +kernel
theorem dX11_seek_25 : decode cX11_seek 25 = .ok (.iload_n 1, 1) := by decide +kernel
theorem dX11_seek_26 : decode cX11_seek 26 = .ok (.iload_n 1, 1) := by decide +kernel
theorem dX11_seek_27 : decode cX11_seek 27 = .ok (.invokevirtual 300, 3) := by decide +kernel
theorem dX11_seek_30 : decode cX11_seek 30 = .ok (.ifCond .ne 9, 3) := by decide +kernel
theorem dX11_seek_33 : decode cX11_seek 33 = .ok (.bipush (-3), 2) := by decide +kernel
theorem dX11_seek_35 : decode cX11_seek 35 = .ok (.invokestatic 241, 3) := by decide +kernel
theorem dX11_seek_38 : decode cX11_seek 38 = .ok (.lreturn, 1) := by decide +kernel
theorem dX11_seek_39 : decode cX11_seek 39 = .ok (.aload_n 0, 1) := by decide +kernel
theorem dX11_seek_40 : decode cX11_seek 40 = .ok (.getfield 80, 3) := by decide +kernel
theorem dX11_seek_43 : decode cX11_seek 43 = .ok (.invokevirtual 304, 3) := by decide +kernel
theorem dX11_seek_46 : decode cX11_seek 46 = .ok (.istore_n 3, 1) := by decide +kernel
theorem dX11_seek_47 : decode cX11_seek 47 = .ok (.aload_n 0, 1) := by decide +kernel
theorem dX11_seek_48 : decode cX11_seek 48 = .ok (.getfield 87, 3) := by decide +kernel
theorem dX11_seek_51 : decode cX11_seek 51 = .ok (.iload_n 3, 1) := by decide +kernel
theorem dX11_seek_52 : decode cX11_seek 52 = .ok (.invokevirtual 226, 3) := by decide +kernel
theorem dX11_seek_55 : decode cX11_seek 55 = .ok (.iload_n 2, 1) := by decide +kernel
theorem dX11_seek_56 : decode cX11_seek 56 = .ok (.ifCond .lt 14, 3) := by decide +kernel
theorem dX11_seek_59 : decode cX11_seek 59 = .ok (.aload_n 0, 1) := by decide +kernel
theorem dX11_seek_60 : decode cX11_seek 60 = .ok (.getfield 87, 3) := by decide +kernel
theorem dX11_seek_63 : decode cX11_seek 63 = .ok (.iload_n 3, 1) := by decide +kernel
theorem dX11_seek_64 : decode cX11_seek 64 = .ok (.iload_n 2, 1) := by decide +kernel
theorem dX11_seek_65 : decode cX11_seek 65 = .ok (.invokevirtual 232, 3) := by decide +kernel
theorem dX11_seek_68 : decode cX11_seek 68 = .ok (.i2l, 1) := by decide +kernel
theorem dX11_seek_69 : decode cX11_seek 69 = .ok (.lreturn, 1) := by decide +kernel
theorem dX11_seek_70 : decode cX11_seek 70 = .ok (.aload_n 0, 1) := by decide +kernel
theorem dX11_seek_71 : decode cX11_seek 71 = .ok (.getfield 87, 3) := by decide +kernel
theorem dX11_seek_74 : decode cX11_seek 74 = .ok (.iconst 5, 1) := by decide +kernel
theorem dX11_seek_75 : decode cX11_seek 75 = .ok (.iload_n 3, 1) := by decide +kernel
theorem dX11_seek_76 : decode cX11_seek 76 = .ok (.invokevirtual 229, 3) := by decide +kernel
theorem dX11_seek_79 : decode cX11_seek 79 = .ok (.i2l, 1) := by decide +kernel
theorem dX11_seek_80 : decode cX11_seek 80 = .ok (.aload_n 0, 1) := by decide +kernel
theorem dX11_seek_81 : decode cX11_seek 81 = .ok (.getfield 80, 3) := by decide +kernel
theorem dX11_seek_84 : decode cX11_seek 84 = .ok (.iload_n 3, 1) := by decide +kernel
theorem dX11_seek_85 : decode cX11_seek 85 = .ok (.invokevirtual 307, 3) := by decide +kernel
theorem dX11_seek_88 : decode cX11_seek 88 = .ok (.i2l, 1) := by decide +kernel
theorem dX11_seek_89 : decode cX11_seek 89 = .ok (.iload_n 2, 1) := by decide +kernel
theorem dX11_seek_90 : decode cX11_seek 90 = .ok (.iconst 2, 1) := by decide +kernel
theorem dX11_seek_91 : decode cX11_seek 91 = .ok (.iadd, 1) := by decide +kernel
theorem dX11_seek_92 : decode cX11_seek 92 = .ok (.invokestatic 250, 3) := by decide +kernel
theorem dX11_seek_95 : decode cX11_seek 95 = .ok (.lreturn, 1) := by decide +kernel
theorem dX11_parted_0 : decode cX11_parted 0 = .ok (.iload_n 1, 1) := by decide +kernel
theorem dX11_parted_1 : decode cX11_parted 1 = .ok (.invokestatic 135, 3) := by decide +kernel
theorem dX11_parted_4 : decode cX11_parted 4 = .ok (.ifCond .eq 24, 3) := by decide +kernel
theorem dX11_parted_7 : decode cX11_parted 7 = .ok (.iload_n 2, 1) := by decide +kernel
theorem dX11_parted_8 : decode cX11_parted 8 = .ok (.invokestatic 135, 3) := by decide +kernel
theorem dX11_parted_11 : decode cX11_parted 11 = .ok (.ifCond .eq 17, 3) := by decide +kernel
theorem dX11_parted_14 : decode cX11_parted 14 = .ok (.iload_n 1, 1) := by decide +kernel
theorem dX11_parted_15 : decode cX11_parted 15 = .ok (.iload_n 2, 1) := by decide +kernel
theorem dX11_parted_16 : decode cX11_parted 16 = .ok (.if_icmp .eq 12, 3) := by decide +kernel
theorem dX11_parted_19 : decode cX11_parted 19 = .ok (.iload_n 3, 1) := by decide +kernel
theorem dX11_parted_20 : decode cX11_parted 20 = .ok (.ifCond .lt 8, 3) := by decide +kernel
theorem dX11_parted_23 : decode cX11_parted 23 = .ok (.iload_n 3, 1) := by decide +kernel
theorem dX11_parted_24 : decode cX11_parted 24 = .ok (.iconst 2, 1) := by decide +kernel
theorem dX11_parted_25 : decode cX11_parted 25 = .ok (.if_icmp .le 9, 3) := by decide +kernel
theorem dX11_parted_28 : decode cX11_parted 28 = .ok (.bipush (-2), 2) := by decide +kernel
theorem dX11_parted_30 : decode cX11_parted 30 = .ok (.invokestatic 241, 3) := by decide +kernel
theorem dX11_parted_33 : decode cX11_parted 33 = .ok (.lreturn, 1) := by decide +kernel
theorem dX11_parted_34 : decode cX11_parted 34 = .ok (.aload_n 0, 1) := by decide +kernel
theorem dX11_parted_35 : decode cX11_parted 35 = .ok (.iload_n 1, 1) := by decide +kernel
theorem dX11_parted_36 : decode cX11_parted 36 = .ok (.iload_n 2, 1) := by decide +kernel
theorem dX11_parted_37 : decode cX11_parted 37 = .ok (.invokevirtual 300, 3) := by decide +kernel
theorem dX11_parted_40 : decode cX11_parted 40 = .ok (.ifCond .ne 9, 3) := by decide +kernel
theorem dX11_parted_43 : decode cX11_parted 43 = .ok (.bipush (-3), 2) := by decide +kernel
theorem dX11_parted_45 : decode cX11_parted 45 = .ok (.invokestatic 241, 3) := by decide +kernel
theorem dX11_parted_48 : decode cX11_parted 48 = .ok (.lreturn, 1) := by decide +kernel
theorem dX11_parted_49 : decode cX11_parted 49 = .ok (.aload_n 0, 1) := by decide +kernel
theorem dX11_parted_50 : decode cX11_parted 50 = .ok (.getfield 80, 3) := by decide +kernel
theorem dX11_parted_53 : decode cX11_parted 53 = .ok (.invokevirtual 304, 3) := by decide +kernel
theorem dX11_parted_56 : decode cX11_parted 56 = .ok (.istore 4, 2) := by decide +kernel
theorem dX11_parted_58 : decode cX11_parted 58 = .ok (.aload_n 0, 1) := by decide +kernel
theorem dX11_parted_59 : decode cX11_parted 59 = .ok (.getfield 87, 3) := by decide +kernel
theorem dX11_parted_62 : decode cX11_parted 62 = .ok (.iload 4, 2) := by decide +kernel
theorem dX11_parted_64 : decode cX11_parted 64 = .ok (.invokevirtual 226, 3) := by decide +kernel
theorem dX11_parted_67 : decode cX11_parted 67 = .ok (.aload_n 0, 1) := by decide +kernel
theorem dX11_parted_68 : decode cX11_parted 68 = .ok (.getfield 87, 3) := by decide +kernel
theorem dX11_parted_71 : decode cX11_parted 71 = .ok (.iload 4, 2) := by decide +kernel
theorem dX11_parted_73 : decode cX11_parted 73 = .ok (.invokevirtual 310, 3) := by decide +kernel
theorem dX11_parted_76 : decode cX11_parted 76 = .ok (.istore 5, 2) := by decide +kernel
theorem dX11_parted_78 : decode cX11_parted 78 = .ok (.iload_n 3, 1) := by decide +kernel
theorem dX11_parted_79 : decode cX11_parted 79 = .ok (.iconst 2, 1) := by decide +kernel
theorem dX11_parted_80 : decode cX11_parted 80 = .ok (.if_icmp .ne 9, 3) := by decide +kernel
theorem dX11_parted_83 : decode cX11_parted 83 = .ok (.iload 5, 2) := by decide +kernel
theorem dX11_parted_85 : decode cX11_parted 85 = .ok (.i2l, 1) := by decide +kernel
theorem dX11_parted_86 : decode cX11_parted 86 = .ok (.goto 29, 3) := by decide +kernel
theorem dX11_parted_89 : decode cX11_parted 89 = .ok (.aload_n 0, 1) := by decide +kernel
theorem dX11_parted_90 : decode cX11_parted 90 = .ok (.getfield 87, 3) := by decide +kernel
theorem dX11_parted_93 : decode cX11_parted 93 = .ok (.iload 5, 2) := by decide +kernel
theorem dX11_parted_95 : decode cX11_parted 95 = .ok (.iload 4, 2) := by decide +kernel
theorem dX11_parted_97 : decode cX11_parted 97 = .ok (.invokevirtual 313, 3) := by decide +kernel
theorem dX11_parted_100 : decode cX11_parted 100 = .ok (.i2l, 1) := by decide +kernel
theorem dX11_parted_101 : decode cX11_parted 101 = .ok (.aload_n 0, 1) := by decide +kernel
theorem dX11_parted_102 : decode cX11_parted 102 = .ok (.getfield 80, 3) := by decide +kernel
theorem dX11_parted_105 : decode cX11_parted 105 = .ok (.iload 4, 2) := by decide +kernel
theorem dX11_parted_107 : decode cX11_parted 107 = .ok (.invokevirtual 307, 3) := by decide +kernel
theorem dX11_parted_110 : decode cX11_parted 110 = .ok (.i2l, 1) := by decide +kernel
theorem dX11_parted_111 : decode cX11_parted 111 = .ok (.iload_n 3, 1) := by decide +kernel
theorem dX11_parted_112 : decode cX11_parted 112 = .ok (.invokestatic 250, 3) := by decide +kernel
theorem dX11_parted_115 : decode cX11_parted 115 = .ok (.lreturn, 1) := by decide +kernel
theorem dX11_meet_0 : decode cX11_meet 0 = .ok (.iload_n 1, 1) := by decide +kernel
theorem dX11_meet_1 : decode cX11_meet 1 = .ok (.iconst 1, 1) := by decide +kernel
theorem dX11_meet_2 : decode cX11_meet 2 = .ok (.if_icmp .lt 16, 3) := by decide +kernel
theorem dX11_meet_5 : decode cX11_meet 5 = .ok (.iload_n 1, 1) := by decide +kernel
theorem dX11_meet_6 : decode cX11_meet 6 = .ok (.bipush 31, 2) := by decide +kernel
theorem dX11_meet_8 : decode cX11_meet 8 = .ok (.if_icmp .gt 10, 3) := by decide +kernel
theorem dX11_meet_11 : decode cX11_meet 11 = .ok (.iload_n 2, 1) := by decide +kernel
theorem dX11_meet_12 : decode cX11_meet 12 = .ok (.invokestatic 238, 3) := by decide +kernel
theorem dX11_meet_15 : decode cX11_meet 15 = .ok (.ifCond .ne 6, 3) := by decide +kernel
theorem dX11_meet_18 : decode cX11_meet 18 = .ok (.bipush (-2), 2) := by decide +kernel
theorem dX11_meet_20 : decode cX11_meet 20 = .ok (.ireturn, 1) := by decide +kernel
theorem dX11_meet_21 : decode cX11_meet 21 = .ok (.aload_n 0, 1) := by decide +kernel
theorem dX11_meet_22 : decode cX11_meet 22 = .ok (.getfield 98, 3) := by decide +kernel
theorem dX11_meet_25 : decode cX11_meet 25 = .ok (.iconst 0, 1) := by decide +kernel
theorem dX11_meet_26 : decode cX11_meet 26 = .ok (.invokestatic 316, 3) := by decide +kernel
theorem dX11_meet_29 : decode cX11_meet 29 = .ok (.iconst 0, 1) := by decide +kernel
theorem dX11_meet_30 : decode cX11_meet 30 = .ok (.istore_n 3, 1) := by decide +kernel
theorem dX11_meet_31 : decode cX11_meet 31 = .ok (.iload_n 3, 1) := by decide +kernel
theorem dX11_meet_32 : decode cX11_meet 32 = .ok (.iconst 5, 1) := by decide +kernel
theorem dX11_meet_33 : decode cX11_meet 33 = .ok (.if_icmp .ge 29, 3) := by decide +kernel
theorem dX11_meet_36 : decode cX11_meet 36 = .ok (.iload_n 1, 1) := by decide +kernel
theorem dX11_meet_37 : decode cX11_meet 37 = .ok (.iload_n 3, 1) := by decide +kernel
theorem dX11_meet_38 : decode cX11_meet 38 = .ok (.ishr, 1) := by decide +kernel
theorem dX11_meet_39 : decode cX11_meet 39 = .ok (.iconst 1, 1) := by decide +kernel
theorem dX11_meet_40 : decode cX11_meet 40 = .ok (.iand, 1) := by decide +kernel
theorem dX11_meet_41 : decode cX11_meet 41 = .ok (.ifCond .eq 15, 3) := by decide +kernel
theorem dX11_meet_44 : decode cX11_meet 44 = .ok (.aload_n 0, 1) := by decide +kernel
theorem dX11_meet_45 : decode cX11_meet 45 = .ok (.aload_n 0, 1) := by decide +kernel
theorem dX11_meet_46 : decode cX11_meet 46 = .ok (.getfield 50, 3) := by decide +kernel
theorem dX11_meet_49 : decode cX11_meet 49 = .ok (.iload_n 3, 1) := by decide +kernel
theorem dX11_meet_50 : decode cX11_meet 50 = .ok (.invokevirtual 322, 3) := by decide +kernel
theorem dX11_meet_53 : decode cX11_meet 53 = .ok (.invokevirtual 325, 3) := by decide +kernel
theorem dX11_meet_56 : decode cX11_meet 56 = .ok (.iinc 3 1, 3) := by decide +kernel
theorem dX11_meet_59 : decode cX11_meet 59 = .ok (.goto (-28), 3) := by decide +kernel
theorem dX11_meet_62 : decode cX11_meet 62 = .ok (.aload_n 0, 1) := by decide +kernel
theorem dX11_meet_63 : decode cX11_meet 63 = .ok (.invokevirtual 328, 3) := by decide +kernel
theorem dX11_meet_66 : decode cX11_meet 66 = .ok (.istore_n 3, 1) := by decide +kernel
theorem dX11_meet_67 : decode cX11_meet 67 = .ok (.iload_n 2, 1) := by decide +kernel
theorem dX11_meet_68 : decode cX11_meet 68 = .ok (.ifCond .eq 10, 3) := by decide +kernel
theorem dX11_meet_71 : decode cX11_meet 71 = .ok (.iload_n 3, 1) := by decide +kernel
theorem dX11_meet_72 : decode cX11_meet 72 = .ok (.invokestatic 153, 3) := by decide +kernel
theorem dX11_meet_75 : decode cX11_meet 75 = .ok (.ifCond .ne 7, 3) := by decide +kernel
theorem dX11_meet_78 : decode cX11_meet 78 = .ok (.iload_n 3, 1) := by decide +kernel
theorem dX11_meet_79 : decode cX11_meet 79 = .ok (.goto 9, 3) := by decide +kernel
theorem dX11_meet_82 : decode cX11_meet 82 = .ok (.aload_n 0, 1) := by decide +kernel
theorem dX11_meet_83 : decode cX11_meet 83 = .ok (.getfield 98, 3) := by decide +kernel
theorem dX11_meet_86 : decode cX11_meet 86 = .ok (.iload_n 3, 1) := by decide +kernel
theorem dX11_meet_87 : decode cX11_meet 87 = .ok (.iaload, 1) := by decide +kernel
theorem dX11_meet_88 : decode cX11_meet 88 = .ok (.ireturn, 1) := by decide +kernel
theorem dX11_counts_0 : decode cX11_counts 0 = .ok (.iload_n 1, 1) := by decide +kernel
theorem dX11_counts_1 : decode cX11_counts 1 = .ok (.iconst 1, 1) := by decide +kernel
theorem dX11_counts_2 : decode cX11_counts 2 = .ok (.if_icmp .lt 29, 3) := by decide +kernel
theorem dX11_counts_5 : decode cX11_counts 5 = .ok (.iload_n 1, 1) := by decide +kernel
theorem dX11_counts_6 : decode cX11_counts 6 = .ok (.bipush 99, 2) := by decide +kernel
theorem dX11_counts_8 : decode cX11_counts 8 = .ok (.if_icmp .gt 23, 3) := by decide +kernel
theorem dX11_counts_11 : decode cX11_counts 11 = .ok (.iload_n 2, 1) := by decide +kernel
theorem dX11_counts_12 : decode cX11_counts 12 = .ok (.ifCond .lt 19, 3) := by decide +kernel
theorem dX11_counts_15 : decode cX11_counts 15 = .ok (.iload_n 2, 1) := by decide +kernel
theorem dX11_counts_16 : decode cX11_counts 16 = .ok (.bipush 99, 2) := by decide +kernel
theorem dX11_counts_18 : decode cX11_counts 18 = .ok (.if_icmp .gt 13, 3) := by decide +kernel
theorem dX11_counts_21 : decode cX11_counts 21 = .ok (.iload_n 3, 1) := by decide +kernel
theorem dX11_counts_22 : decode cX11_counts 22 = .ok (.ifCond .lt 9, 3) := by decide +kernel
theorem dX11_counts_25 : decode cX11_counts 25 = .ok (.iload_n 3, 1) := by decide +kernel
theorem dX11_counts_26 : decode cX11_counts 26 = .ok (.bipush 99, 2) := by decide +kernel
theorem dX11_counts_28 : decode cX11_counts 28 = .ok (.if_icmp .le 6, 3) := by decide +kernel
theorem dX11_counts_31 : decode cX11_counts 31 = .ok (.bipush (-2), 2) := by decide +kernel
theorem dX11_counts_33 : decode cX11_counts 33 = .ok (.ireturn, 1) := by decide +kernel
theorem dX11_counts_34 : decode cX11_counts 34 = .ok (.iconst 1, 1) := by decide +kernel
theorem dX11_counts_35 : decode cX11_counts 35 = .ok (.istore 4, 2) := by decide +kernel
theorem dX11_counts_37 : decode cX11_counts 37 = .ok (.iload_n 2, 1) := by decide +kernel
theorem dX11_counts_38 : decode cX11_counts 38 = .ok (.iload_n 1, 1) := by decide +kernel
theorem dX11_counts_39 : decode cX11_counts 39 = .ok (.imul, 1) := by decide +kernel
theorem dX11_counts_40 : decode cX11_counts 40 = .ok (.istore 5, 2) := by decide +kernel
theorem dX11_counts_42 : decode cX11_counts 42 = .ok (.iconst 2, 1) := by decide +kernel
theorem dX11_counts_43 : decode cX11_counts 43 = .ok (.istore 6, 2) := by decide +kernel
theorem dX11_counts_45 : decode cX11_counts 45 = .ok (.iload 6, 2) := by decide +kernel
theorem dX11_counts_47 : decode cX11_counts 47 = .ok (.bipush 60, 2) := by decide +kernel
theorem dX11_counts_49 : decode cX11_counts 49 = .ok (.if_icmp .gt 44, 3) := by decide +kernel
theorem dX11_counts_52 : decode cX11_counts 52 = .ok (.iload_n 2, 1) := by decide +kernel
theorem dX11_counts_53 : decode cX11_counts 53 = .ok (.iload_n 1, 1) := by decide +kernel
theorem dX11_counts_54 : decode cX11_counts 54 = .ok (.iload 6, 2) := by decide +kernel
theorem dX11_counts_56 : decode cX11_counts 56 = .ok (.iadd, 1) := by decide +kernel
theorem dX11_counts_57 : decode cX11_counts 57 = .ok (.iconst 1, 1) := by decide +kernel
theorem dX11_counts_58 : decode cX11_counts 58 = .ok (.isub, 1) := by decide +kernel
theorem dX11_counts_59 : decode cX11_counts 59 = .ok (.iload 6, 2) := by decide +kernel
theorem dX11_counts_61 : decode cX11_counts 61 = .ok (.idiv, 1) := by decide +kernel
theorem dX11_counts_62 : decode cX11_counts 62 = .ok (.imul, 1) := by decide +kernel
theorem dX11_counts_63 : decode cX11_counts 63 = .ok (.iload_n 3, 1) := by decide +kernel
theorem dX11_counts_64 : decode cX11_counts 64 = .ok (.iload 6, 2) := by decide +kernel
theorem dX11_counts_66 : decode cX11_counts 66 = .ok (.iconst 1, 1) := by decide +kernel
theorem dX11_counts_67 : decode cX11_counts 67 = .ok (.isub, 1) := by decide +kernel
theorem dX11_counts_68 : decode cX11_counts 68 = .ok (.imul, 1) := by decide +kernel
theorem dX11_counts_69 : decode cX11_counts 69 = .ok (.iadd, 1) := by decide +kernel
theorem dX11_counts_70 : decode cX11_counts 70 = .ok (.istore 7, 2) := by decide +kernel
theorem dX11_counts_72 : decode cX11_counts 72 = .ok (.iload 7, 2) := by decide +kernel
theorem dX11_counts_74 : decode cX11_counts 74 = .ok (.iload 5, 2) := by decide +kernel
theorem dX11_counts_76 : decode cX11_counts 76 = .ok (.if_icmp .ge 11, 3) := by decide +kernel
theorem dX11_counts_79 : decode cX11_counts 79 = .ok (.iload 6, 2) := by decide +kernel
theorem dX11_counts_81 : decode cX11_counts 81 = .ok (.istore 4, 2) := by decide +kernel
theorem dX11_counts_83 : decode cX11_counts 83 = .ok (.iload 7, 2) := by decide +kernel
theorem dX11_counts_85 : decode cX11_counts 85 = .ok (.istore 5, 2) := by decide +kernel
theorem dX11_counts_87 : decode cX11_counts 87 = .ok (.iinc 6 1, 3) := by decide +kernel
theorem dX11_counts_90 : decode cX11_counts 90 = .ok (.goto (-45), 3) := by decide +kernel
theorem dX11_counts_93 : decode cX11_counts 93 = .ok (.iload 4, 2) := by decide +kernel
theorem dX11_counts_95 : decode cX11_counts 95 = .ok (.ireturn, 1) := by decide +kernel
theorem dX11_sheet_0 : decode cX11_sheet 0 = .ok (.aload_n 0, 1) := by decide +kernel
theorem dX11_sheet_1 : decode cX11_sheet 1 = .ok (.iload_n 1, 1) := by decide +kernel
theorem dX11_sheet_2 : decode cX11_sheet 2 = .ok (.invokevirtual 159, 3) := by decide +kernel
theorem dX11_sheet_5 : decode cX11_sheet 5 = .ok (.astore 4, 2) := by decide +kernel
theorem dX11_sheet_7 : decode cX11_sheet 7 = .ok (.aload 4, 2) := by decide +kernel
theorem dX11_sheet_9 : decode cX11_sheet 9 = .ok (.ifnull 16, 3) := by decide +kernel
theorem dX11_sheet_12 : decode cX11_sheet 12 = .ok (.iload_n 2, 1) := by decide +kernel
theorem dX11_sheet_13 : decode cX11_sheet 13 = .ok (.invokestatic 331, 3) := by decide +kernel
theorem dX11_sheet_16 : decode cX11_sheet 16 = .ok (.ifCond .eq 9, 3) := by decide +kernel
theorem dX11_sheet_19 : decode cX11_sheet 19 = .ok (.iload_n 3, 1) := by decide +kernel
theorem dX11_sheet_20 : decode cX11_sheet 20 = .ok (.bipush 64, 2) := by decide +kernel
theorem dX11_sheet_22 : decode cX11_sheet 22 = .ok (.if_icmp .le 6, 3) := by decide +kernel
theorem dX11_sheet_25 : decode cX11_sheet 25 = .ok (.bipush (-2), 2) := by decide +kernel
theorem dX11_sheet_27 : decode cX11_sheet 27 = .ok (.ireturn, 1) := by decide +kernel
theorem dX11_sheet_28 : decode cX11_sheet 28 = .ok (.iload_n 3, 1) := by decide +kernel
theorem dX11_sheet_29 : decode cX11_sheet 29 = .ok (.ifCond .ge 9, 3) := by decide +kernel
theorem dX11_sheet_32 : decode cX11_sheet 32 = .ok (.aload_n 0, 1) := by decide +kernel
theorem dX11_sheet_33 : decode cX11_sheet 33 = .ok (.iconst 5, 1) := by decide +kernel
theorem dX11_sheet_34 : decode cX11_sheet 34 = .ok (.invokevirtual 166, 3) := by decide +kernel
theorem dX11_sheet_37 : decode cX11_sheet 37 = .ok (.ireturn, 1) := by decide +kernel
theorem dX11_sheet_38 : decode cX11_sheet 38 = .ok (.aload 4, 2) := by decide +kernel
theorem dX11_sheet_40 : decode cX11_sheet 40 = .ok (.iload_n 2, 1) := by decide +kernel
theorem dX11_sheet_41 : decode cX11_sheet 41 = .ok (.iload_n 3, 1) := by decide +kernel
theorem dX11_sheet_42 : decode cX11_sheet 42 = .ok (.invokevirtual 334, 3) := by decide +kernel
theorem dX11_sheet_45 : decode cX11_sheet 45 = .ok (.iload_n 3, 1) := by decide +kernel
theorem dX11_sheet_46 : decode cX11_sheet 46 = .ok (.ireturn, 1) := by decide +kernel
theorem dX11_lose_0 : decode cX11_lose 0 = .ok (.aload_n 0, 1) := by decide +kernel
theorem dX11_lose_1 : decode cX11_lose 1 = .ok (.iload_n 1, 1) := by decide +kernel
theorem dX11_lose_2 : decode cX11_lose 2 = .ok (.invokevirtual 159, 3) := by decide +kernel
theorem dX11_lose_5 : decode cX11_lose 5 = .ok (.astore_n 2, 1) := by decide +kernel
theorem dX11_lose_6 : decode cX11_lose 6 = .ok (.aload_n 2, 1) := by decide +kernel
theorem dX11_lose_7 : decode cX11_lose 7 = .ok (.ifnonnull 6, 3) := by decide +kernel
theorem dX11_lose_10 : decode cX11_lose 10 = .ok (.bipush (-2), 2) := by decide +kernel
theorem dX11_lose_12 : decode cX11_lose 12 = .ok (.ireturn, 1) := by decide +kernel
theorem dX11_lose_13 : decode cX11_lose 13 = .ok (.aload_n 2, 1) := by decide +kernel
theorem dX11_lose_14 : decode cX11_lose 14 = .ok (.invokevirtual 163, 3) := by decide +kernel
theorem dX11_lose_17 : decode cX11_lose 17 = .ok (.ifCond .eq 9, 3) := by decide +kernel
theorem dX11_lose_20 : decode cX11_lose 20 = .ok (.aload_n 0, 1) := by decide +kernel
theorem dX11_lose_21 : decode cX11_lose 21 = .ok (.iconst 1, 1) := by decide +kernel
theorem dX11_lose_22 : decode cX11_lose 22 = .ok (.invokevirtual 166, 3) := by decide +kernel
theorem dX11_lose_25 : decode cX11_lose 25 = .ok (.ireturn, 1) := by decide +kernel
theorem dX11_lose_26 : decode cX11_lose 26 = .ok (.aload_n 2, 1) := by decide +kernel
theorem dX11_lose_27 : decode cX11_lose 27 = .ok (.getfield 337, 3) := by decide +kernel
theorem dX11_lose_30 : decode cX11_lose 30 = .ok (.istore_n 3, 1) := by decide +kernel
theorem dX11_lose_31 : decode cX11_lose 31 = .ok (.aload_n 2, 1) := by decide +kernel
theorem dX11_lose_32 : decode cX11_lose 32 = .ok (.invokevirtual 338, 3) := by decide +kernel
theorem dX11_lose_35 : decode cX11_lose 35 = .ok (.iload_n 3, 1) := by decide +kernel
theorem dX11_lose_36 : decode cX11_lose 36 = .ok (.ireturn, 1) := by decide +kernel
theorem dX11_lay_0 : decode cX11_lay 0 = .ok (.aload_n 0, 1) := by decide +kernel
theorem dX11_lay_1 : decode cX11_lay 1 = .ok (.iload_n 1, 1) := by decide +kernel
theorem dX11_lay_2 : decode cX11_lay 2 = .ok (.invokevirtual 159, 3) := by decide +kernel
theorem dX11_lay_5 : decode cX11_lay 5 = .ok (.astore 5, 2) := by decide +kernel
theorem dX11_lay_7 : decode cX11_lay 7 = .ok (.aload 5, 2) := by decide +kernel
theorem dX11_lay_9 : decode cX11_lay 9 = .ok (.ifnull 10, 3) := by decide +kernel
theorem dX11_lay_12 : decode cX11_lay 12 = .ok (.iload_n 2, 1) := by decide +kernel
theorem dX11_lay_13 : decode cX11_lay 13 = .ok (.invokestatic 331, 3) := by decide +kernel
theorem dX11_lay_16 : decode cX11_lay 16 = .ok (.ifCond .ne 6, 3) := by decide +kernel
theorem dX11_lay_19 : decode cX11_lay 19 = .ok (.bipush (-2), 2) := by decide +kernel
theorem dX11_lay_21 : decode cX11_lay 21 = .ok (.ireturn, 1) := by decide +kernel
theorem dX11_lay_22 : decode cX11_lay 22 = .ok (.aload 5, 2) := by decide +kernel
theorem dX11_lay_24 : decode cX11_lay 24 = .ok (.iload_n 2, 1) := by decide +kernel
