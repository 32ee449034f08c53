theorem dX12_fairsOf_7 : decode cX12_fairsOf 7 = .ok (.iconst 0, 1) := by decide +kernel
theorem dX12_fairsOf_8 : decode cX12_fairsOf 8 = .ok (.istore 4, 2) := by decide +kernel
theorem dX12_fairsOf_10 : decode cX12_fairsOf 10 = .ok (.iload 4, 2) := by decide +kernel
theorem dX12_fairsOf_12 : decode cX12_fairsOf 12 = .ok (.iload_n 2, 1) := by decide +kernel
theorem dX12_fairsOf_13 : decode cX12_fairsOf 13 = .ok (.if_icmp .ge 20, 3) := by decide +kernel
theorem dX12_fairsOf_16 : decode cX12_fairsOf 16 = .ok (.aload_n 0, 1) := by decide +kernel
theorem dX12_fairsOf_17 : decode cX12_fairsOf 17 = .ok (.invokevirtual 255, 3) := by decide +kernel
theorem dX12_fairsOf_20 : decode cX12_fairsOf 20 = .ok (.iload_n 3, 1) := by decide +kernel
theorem dX12_fairsOf_21 : decode cX12_fairsOf 21 = .ok (.aload_n 0, 1) := by decide +kernel
theorem dX12_fairsOf_22 : decode cX12_fairsOf 22 = .ok (.getfield 252, 3) := by decide +kernel
theorem dX12_fairsOf_25 : decode cX12_fairsOf 25 = .ok (.iadd, 1) := by decide +kernel
theorem dX12_fairsOf_26 : decode cX12_fairsOf 26 = .ok (.istore_n 3, 1) := by decide +kernel
theorem dX12_fairsOf_27 : decode cX12_fairsOf 27 = .ok (.iinc 4 1, 3) := by decide +kernel
theorem dX12_fairsOf_30 : decode cX12_fairsOf 30 = .ok (.goto (-20), 3) := by decide +kernel
theorem dX12_fairsOf_33 : decode cX12_fairsOf 33 = .ok (.iload_n 3, 1) := by decide +kernel
theorem dX12_fairsOf_34 : decode cX12_fairsOf 34 = .ok (.ireturn, 1) := by decide +kernel
theorem dX12_fairs_0 : decode cX12_fairs 0 = .ok (.aload_n 0, 1) := by decide +kernel
theorem dX12_fairs_1 : decode cX12_fairs 1 = .ok (.invokevirtual 175, 3) := by decide +kernel
theorem dX12_fairs_4 : decode cX12_fairs 4 = .ok (.iload_n 2, 1) := by decide +kernel
theorem dX12_fairs_5 : decode cX12_fairs 5 = .ok (.i2l, 1) := by decide +kernel
theorem dX12_fairs_6 : decode cX12_fairs 6 = .ok (.lconst 1, 1) := by decide +kernel
theorem dX12_fairs_7 : decode cX12_fairs 7 = .ok (.ldc2_w 261, 3) := by decide +kernel
theorem dX12_fairs_10 : decode cX12_fairs 10 = .ok (.invokestatic 82, 3) := by decide +kernel
theorem dX12_fairs_13 : decode cX12_fairs 13 = .ok (.ifCond .eq 12, 3) := by decide +kernel
theorem dX12_fairs_16 : decode cX12_fairs 16 = .ok (.aload_n 0, 1) := by decide +kernel
theorem dX12_fairs_17 : decode cX12_fairs 17 = .ok (.iload_n 1, 1) := by decide +kernel
theorem dX12_fairs_18 : decode cX12_fairs 18 = .ok (.iload_n 2, 1) := by decide +kernel
theorem dX12_fairs_19 : decode cX12_fairs 19 = .ok (.invokevirtual 263, 3) := by decide +kernel
theorem dX12_fairs_22 : decode cX12_fairs 22 = .ok (.goto 5, 3) := by decide +kernel
theorem dX12_fairs_25 : decode cX12_fairs 25 = .ok (.bipush (-2), 2) := by decide +kernel
theorem dX12_fairs_27 : decode cX12_fairs 27 = .ok (.ireturn, 1) := by decide +kernel
theorem dX12_roams_0 : decode cX12_roams 0 = .ok (.iconst 1, 1) := by decide +kernel
theorem dX12_roams_1 : decode cX12_roams 1 = .ok (.istore_n 2, 1) := by decide +kernel
theorem dX12_roams_2 : decode cX12_roams 2 = .ok (.iconst 0, 1) := by decide +kernel
theorem dX12_roams_3 : decode cX12_roams 3 = .ok (.istore_n 3, 1) := by decide +kernel
theorem dX12_roams_4 : decode cX12_roams 4 = .ok (.iload_n 3, 1) := by decide +kernel
theorem dX12_roams_5 : decode cX12_roams 5 = .ok (.iconst 4, 1) := by decide +kernel
theorem dX12_roams_6 : decode cX12_roams 6 = .ok (.if_icmp .ge 27, 3) := by decide +kernel
theorem dX12_roams_9 : decode cX12_roams 9 = .ok (.iload_n 2, 1) := by decide +kernel
theorem dX12_roams_10 : decode cX12_roams 10 = .ok (.aload_n 0, 1) := by decide +kernel
theorem dX12_roams_11 : decode cX12_roams 11 = .ok (.iload_n 1, 1) := by decide +kernel
theorem dX12_roams_12 : decode cX12_roams 12 = .ok (.iload_n 3, 1) := by decide +kernel
theorem dX12_roams_13 : decode cX12_roams 13 = .ok (.invokevirtual 184, 3) := by decide +kernel
theorem dX12_roams_16 : decode cX12_roams 16 = .ok (.iconst (-1), 1) := by decide +kernel
theorem dX12_roams_17 : decode cX12_roams 17 = .ok (.if_icmp .ne 7, 3) := by decide +kernel
theorem dX12_roams_20 : decode cX12_roams 20 = .ok (.iconst 0, 1) := by decide +kernel
theorem dX12_roams_21 : decode cX12_roams 21 = .ok (.goto 4, 3) := by decide +kernel
theorem dX12_roams_24 : decode cX12_roams 24 = .ok (.iconst 1, 1) := by decide +kernel
theorem dX12_roams_25 : decode cX12_roams 25 = .ok (.iadd, 1) := by decide +kernel
theorem dX12_roams_26 : decode cX12_roams 26 = .ok (.istore_n 2, 1) := by decide +kernel
theorem dX12_roams_27 : decode cX12_roams 27 = .ok (.iinc 3 1, 3) := by decide +kernel
theorem dX12_roams_30 : decode cX12_roams 30 = .ok (.goto (-26), 3) := by decide +kernel
theorem dX12_roams_33 : decode cX12_roams 33 = .ok (.aload_n 0, 1) := by decide +kernel
theorem dX12_roams_34 : decode cX12_roams 34 = .ok (.getfield 61, 3) := by decide +kernel
theorem dX12_roams_37 : decode cX12_roams 37 = .ok (.iload_n 1, 1) := by decide +kernel
theorem dX12_roams_38 : decode cX12_roams 38 = .ok (.laload, 1) := by decide +kernel
theorem dX12_roams_39 : decode cX12_roams 39 = .ok (.ldc2_w 261, 3) := by decide +kernel
theorem dX12_roams_42 : decode cX12_roams 42 = .ok (.lmul, 1) := by decide +kernel
theorem dX12_roams_43 : decode cX12_roams 43 = .ok (.iload_n 2, 1) := by decide +kernel
theorem dX12_roams_44 : decode cX12_roams 44 = .ok (.i2l, 1) := by decide +kernel
theorem dX12_roams_45 : decode cX12_roams 45 = .ok (.ldiv, 1) := by decide +kernel
theorem dX12_roams_46 : decode cX12_roams 46 = .ok (.lstore_n 3, 1) := by decide +kernel
theorem dX12_roams_47 : decode cX12_roams 47 = .ok (.aload_n 0, 1) := by decide +kernel
theorem dX12_roams_48 : decode cX12_roams 48 = .ok (.getfield 65, 3) := by decide +kernel
theorem dX12_roams_51 : decode cX12_roams 51 = .ok (.iload_n 1, 1) := by decide +kernel
theorem dX12_roams_52 : decode cX12_roams 52 = .ok (.dup2, 1) := by decide +kernel
theorem dX12_roams_53 : decode cX12_roams 53 = .ok (.laload, 1) := by decide +kernel
theorem dX12_roams_54 : decode cX12_roams 54 = .ok (.lload_n 3, 1) := by decide +kernel
theorem dX12_roams_55 : decode cX12_roams 55 = .ok (.ladd, 1) := by decide +kernel
theorem dX12_roams_56 : decode cX12_roams 56 = .ok (.lastore, 1) := by decide +kernel
theorem dX12_roams_57 : decode cX12_roams 57 = .ok (.iconst 0, 1) := by decide +kernel
theorem dX12_roams_58 : decode cX12_roams 58 = .ok (.istore 5, 2) := by decide +kernel
theorem dX12_roams_60 : decode cX12_roams 60 = .ok (.iload 5, 2) := by decide +kernel
theorem dX12_roams_62 : decode cX12_roams 62 = .ok (.iconst 4, 1) := by decide +kernel
theorem dX12_roams_63 : decode cX12_roams 63 = .ok (.if_icmp .ge 35, 3) := by decide +kernel
theorem dX12_roams_66 : decode cX12_roams 66 = .ok (.aload_n 0, 1) := by decide +kernel
theorem dX12_roams_67 : decode cX12_roams 67 = .ok (.iload_n 1, 1) := by decide +kernel
theorem dX12_roams_68 : decode cX12_roams 68 = .ok (.iload 5, 2) := by decide +kernel
theorem dX12_roams_70 : decode cX12_roams 70 = .ok (.invokevirtual 184, 3) := by decide +kernel
theorem dX12_roams_73 : decode cX12_roams 73 = .ok (.istore 6, 2) := by decide +kernel
theorem dX12_roams_75 : decode cX12_roams 75 = .ok (.iload 6, 2) := by decide +kernel
theorem dX12_roams_77 : decode cX12_roams 77 = .ok (.iconst (-1), 1) := by decide +kernel
theorem dX12_roams_78 : decode cX12_roams 78 = .ok (.if_icmp .eq 14, 3) := by decide +kernel
theorem dX12_roams_81 : decode cX12_roams 81 = .ok (.aload_n 0, 1) := by decide +kernel
theorem dX12_roams_82 : decode cX12_roams 82 = .ok (.getfield 65, 3) := by decide +kernel
theorem dX12_roams_85 : decode cX12_roams 85 = .ok (.iload 6, 2) := by decide +kernel
theorem dX12_roams_87 : decode cX12_roams 87 = .ok (.dup2, 1) := by decide +kernel
theorem dX12_roams_88 : decode cX12_roams 88 = .ok (.laload, 1) := by decide +kernel
theorem dX12_roams_89 : decode cX12_roams 89 = .ok (.lload_n 3, 1) := by decide +kernel
theorem dX12_roams_90 : decode cX12_roams 90 = .ok (.ladd, 1) := by decide +kernel
theorem dX12_roams_91 : decode cX12_roams 91 = .ok (.lastore, 1) := by decide +kernel
theorem dX12_roams_92 : decode cX12_roams 92 = .ok (.iinc 5 1, 3) := by decide +kernel
theorem dX12_roams_95 : decode cX12_roams 95 = .ok (.goto (-35), 3) := by decide +kernel
theorem dX12_roams_98 : decode cX12_roams 98 = .ok (.return_, 1) := by decide +kernel
theorem dX12_goesNearer_0 : decode cX12_goesNearer 0 = .ok (.iload_n 1, 1) := by decide +kernel
theorem dX12_goesNearer_1 : decode cX12_goesNearer 1 = .ok (.istore_n 2, 1) := by decide +kernel
theorem dX12_goesNearer_2 : decode cX12_goesNearer 2 = .ok (.iconst 3, 1) := by decide +kernel
theorem dX12_goesNearer_3 : decode cX12_goesNearer 3 = .ok (.istore_n 3, 1) := by decide +kernel
theorem dX12_goesNearer_4 : decode cX12_goesNearer 4 = .ok (.iload_n 3, 1) := by decide +kernel
theorem dX12_goesNearer_5 : decode cX12_goesNearer 5 = .ok (.ifCond .lt 46, 3) := by decide +kernel
theorem dX12_goesNearer_8 : decode cX12_goesNearer 8 = .ok (.aload_n 0, 1) := by decide +kernel
theorem dX12_goesNearer_9 : decode cX12_goesNearer 9 = .ok (.iload_n 1, 1) := by decide +kernel
theorem dX12_goesNearer_10 : decode cX12_goesNearer 10 = .ok (.iload_n 3, 1) := by decide +kernel
theorem dX12_goesNearer_11 : decode cX12_goesNearer 11 = .ok (.invokevirtual 184, 3) := by decide +kernel
theorem dX12_goesNearer_14 : decode cX12_goesNearer 14 = .ok (.istore 4, 2) := by decide +kernel
theorem dX12_goesNearer_16 : decode cX12_goesNearer 16 = .ok (.iload 4, 2) := by decide +kernel
theorem dX12_goesNearer_18 : decode cX12_goesNearer 18 = .ok (.iconst (-1), 1) := by decide +kernel
theorem dX12_goesNearer_19 : decode cX12_goesNearer 19 = .ok (.if_icmp .eq 24, 3) := by decide +kernel
theorem dX12_goesNearer_22 : decode cX12_goesNearer 22 = .ok (.aload_n 0, 1) := by decide +kernel
theorem dX12_goesNearer_23 : decode cX12_goesNearer 23 = .ok (.getfield 52, 3) := by decide +kernel
theorem dX12_goesNearer_26 : decode cX12_goesNearer 26 = .ok (.iload 4, 2) := by decide +kernel
theorem dX12_goesNearer_28 : decode cX12_goesNearer 28 = .ok (.iaload, 1) := by decide +kernel
theorem dX12_goesNearer_29 : decode cX12_goesNearer 29 = .ok (.aload_n 0, 1) := by decide +kernel
theorem dX12_goesNearer_30 : decode cX12_goesNearer 30 = .ok (.getfield 52, 3) := by decide +kernel
theorem dX12_goesNearer_33 : decode cX12_goesNearer 33 = .ok (.iload_n 1, 1) := by decide +kernel
theorem dX12_goesNearer_34 : decode cX12_goesNearer 34 = .ok (.iaload, 1) := by decide +kernel
theorem dX12_goesNearer_35 : decode cX12_goesNearer 35 = .ok (.if_icmp .ge 8, 3) := by decide +kernel
theorem dX12_goesNearer_38 : decode cX12_goesNearer 38 = .ok (.iload 4, 2) := by decide +kernel
theorem dX12_goesNearer_40 : decode cX12_goesNearer 40 = .ok (.goto 4, 3) := by decide +kernel
theorem dX12_goesNearer_43 : decode cX12_goesNearer 43 = .ok (.iload_n 2, 1) := by decide +kernel
theorem dX12_goesNearer_44 : decode cX12_goesNearer 44 = .ok (.istore_n 2, 1) := by decide +kernel
theorem dX12_goesNearer_45 : decode cX12_goesNearer 45 = .ok (.iinc 3 (-1), 3) := by decide +kernel
theorem dX12_goesNearer_48 : decode cX12_goesNearer 48 = .ok (.goto (-44), 3) := by decide +kernel
theorem dX12_goesNearer_51 : decode cX12_goesNearer 51 = .ok (.aload_n 0, 1) := by decide +kernel
theorem dX12_goesNearer_52 : decode cX12_goesNearer 52 = .ok (.getfield 65, 3) := by decide +kernel
theorem dX12_goesNearer_55 : decode cX12_goesNearer 55 = .ok (.iload_n 2, 1) := by decide +kernel
theorem dX12_goesNearer_56 : decode cX12_goesNearer 56 = .ok (.dup2, 1) := by decide +kernel
theorem dX12_goesNearer_57 : decode cX12_goesNearer 57 = .ok (.laload, 1) := by decide +kernel
theorem dX12_goesNearer_58 : decode cX12_goesNearer 58 = .ok (.aload_n 0, 1) := by decide +kernel
theorem dX12_goesNearer_59 : decode cX12_goesNearer 59 = .ok (.getfield 61, 3) := by decide +kernel
theorem dX12_goesNearer_62 : decode cX12_goesNearer 62 = .ok (.iload_n 1, 1) := by decide +kernel
theorem dX12_goesNearer_63 : decode cX12_goesNearer 63 = .ok (.laload, 1) := by decide +kernel
theorem dX12_goesNearer_64 : decode cX12_goesNearer 64 = .ok (.ldc2_w 261, 3) := by decide +kernel
theorem dX12_goesNearer_67 : decode cX12_goesNearer 67 = .ok (.lmul, 1) := by decide +kernel
theorem dX12_goesNearer_68 : decode cX12_goesNearer 68 = .ok (.ladd, 1) := by decide +kernel
theorem dX12_goesNearer_69 : decode cX12_goesNearer 69 = .ok (.lastore, 1) := by decide +kernel
theorem dX12_goesNearer_70 : decode cX12_goesNearer 70 = .ok (.return_, 1) := by decide +kernel
theorem dX12_findChances_0 : decode cX12_findChances 0 = .ok (.aload_n 0, 1) := by decide +kernel
theorem dX12_findChances_1 : decode cX12_findChances 1 = .ok (.getfield 37, 3) := by decide +kernel
theorem dX12_findChances_4 : decode cX12_findChances 4 = .ok (.iconst 2, 1) := by decide +kernel
theorem dX12_findChances_5 : decode cX12_findChances 5 = .ok (.iaload, 1) := by decide +kernel
theorem dX12_findChances_6 : decode cX12_findChances 6 = .ok (.istore_n 3, 1) := by decide +kernel
theorem dX12_findChances_7 : decode cX12_findChances 7 = .ok (.aload_n 0, 1) := by decide +kernel
theorem dX12_findChances_8 : decode cX12_findChances 8 = .ok (.aload_n 0, 1) := by decide +kernel
theorem dX12_findChances_9 : decode cX12_findChances 9 = .ok (.getfield 37, 3) := by decide +kernel
theorem dX12_findChances_12 : decode cX12_findChances 12 = .ok (.iconst 1, 1) := by decide +kernel
theorem dX12_findChances_13 : decode cX12_findChances 13 = .ok (.iaload, 1) := by decide +kernel
theorem dX12_findChances_14 : decode cX12_findChances 14 = .ok (.invokevirtual 178, 3) := by decide +kernel
theorem dX12_findChances_17 : decode cX12_findChances 17 = .ok (.ifCond .eq 17, 3) := by decide +kernel
theorem dX12_findChances_20 : decode cX12_findChances 20 = .ok (.aload_n 0, 1) := by decide +kernel
theorem dX12_findChances_21 : decode cX12_findChances 21 = .ok (.aload_n 0, 1) := by decide +kernel
theorem dX12_findChances_22 : decode cX12_findChances 22 = .ok (.getfield 37, 3) := by decide +kernel
theorem dX12_findChances_25 : decode cX12_findChances 25 = .ok (.iconst 1, 1) := by decide +kernel
theorem dX12_findChances_26 : decode cX12_findChances 26 = .ok (.iaload, 1) := by decide +kernel
theorem dX12_findChances_27 : decode cX12_findChances 27 = .ok (.iconst 0, 1) := by decide +kernel
theorem dX12_findChances_28 : decode cX12_findChances 28 = .ok (.invokevirtual 188, 3) := by decide +kernel
theorem dX12_findChances_31 : decode cX12_findChances 31 = .ok (.goto 28, 3) := by decide +kernel
theorem dX12_findChances_34 : decode cX12_findChances 34 = .ok (.iconst 0, 1) := by decide +kernel
theorem dX12_findChances_35 : decode cX12_findChances 35 = .ok (.istore 4, 2) := by decide +kernel
theorem dX12_findChances_37 : decode cX12_findChances 37 = .ok (.iload 4, 2) := by decide +kernel
theorem dX12_findChances_39 : decode cX12_findChances 39 = .ok (.bipush 64, 2) := by decide +kernel
theorem dX12_findChances_41 : decode cX12_findChances 41 = .ok (.if_icmp .ge 18, 3) := by decide +kernel
theorem dX12_findChances_44 : decode cX12_findChances 44 = .ok (.aload_n 0, 1) := by decide +kernel
theorem dX12_findChances_45 : decode cX12_findChances 45 = .ok (.getfield 52, 3) := by decide +kernel
theorem dX12_findChances_48 : decode cX12_findChances 48 = .ok (.iload 4, 2) := by decide +kernel
theorem dX12_findChances_50 : decode cX12_findChances 50 = .ok (.ldc 187, 2) := by decide +kernel
theorem dX12_findChances_52 : decode cX12_findChances 52 = .ok (.iastore, 1) := by decide +kernel
theorem dX12_findChances_53 : decode cX12_findChances 53 = .ok (.iinc 4 1, 3) := by decide +kernel
theorem dX12_findChances_56 : decode cX12_findChances 56 = .ok (.goto (-19), 3) := by decide +kernel
theorem dX12_findChances_59 : decode cX12_findChances 59 = .ok (.iconst 0, 1) := by decide +kernel
theorem dX12_findChances_60 : decode cX12_findChances 60 = .ok (.istore 4, 2) := by decide +kernel
theorem dX12_findChances_62 : decode cX12_findChances 62 = .ok (.iload 4, 2) := by decide +kernel
theorem dX12_findChances_64 : decode cX12_findChances 64 = .ok (.bipush 64, 2) := by decide +kernel
theorem dX12_findChances_66 : decode cX12_findChances 66 = .ok (.if_icmp .ge 27, 3) := by decide +kernel
theorem dX12_findChances_69 : decode cX12_findChances 69 = .ok (.aload_n 0, 1) := by decide +kernel
theorem dX12_findChances_70 : decode cX12_findChances 70 = .ok (.getfield 61, 3) := by decide +kernel
theorem dX12_findChances_73 : decode cX12_findChances 73 = .ok (.iload 4, 2) := by decide +kernel
theorem dX12_findChances_75 : decode cX12_findChances 75 = .ok (.iload 4, 2) := by decide +kernel
theorem dX12_findChances_77 : decode cX12_findChances 77 = .ok (.iload_n 1, 1) := by decide +kernel
theorem dX12_findChances_78 : decode cX12_findChances 78 = .ok (.if_icmp .ne 7, 3) := by decide +kernel
theorem dX12_findChances_81 : decode cX12_findChances 81 = .ok (.lconst 1, 1) := by decide +kernel
theorem dX12_findChances_82 : decode cX12_findChances 82 = .ok (.goto 4, 3) := by decide +kernel
theorem dX12_findChances_85 : decode cX12_findChances 85 = .ok (.lconst 0, 1) := by decide +kernel
theorem dX12_findChances_86 : decode cX12_findChances 86 = .ok (.lastore, 1) := by decide +kernel
theorem dX12_findChances_87 : decode cX12_findChances 87 = .ok (.iinc 4 1, 3) := by decide +kernel
theorem dX12_findChances_90 : decode cX12_findChances 90 = .ok (.goto (-28), 3) := by decide +kernel
theorem dX12_findChances_93 : decode cX12_findChances 93 = .ok (.lconst 1, 1) := by decide +kernel
theorem dX12_findChances_94 : decode cX12_findChances 94 = .ok (.lstore 4, 2) := by decide +kernel
theorem dX12_findChances_96 : decode cX12_findChances 96 = .ok (.iconst 0, 1) := by decide +kernel
theorem dX12_findChances_97 : decode cX12_findChances 97 = .ok (.istore 6, 2) := by decide +kernel
theorem dX12_findChances_99 : decode cX12_findChances 99 = .ok (.iload 6, 2) := by decide +kernel
theorem dX12_findChances_101 : decode cX12_findChances 101 = .ok (.iload_n 2, 1) := by decide +kernel
theorem dX12_findChances_102 : decode cX12_findChances 102 = .ok (.if_icmp .ge 171, 3) := by decide +kernel
theorem dX12_findChances_105 : decode cX12_findChances 105 = .ok (.iconst 0, 1) := by decide +kernel
theorem dX12_findChances_106 : decode cX12_findChances 106 = .ok (.istore 7, 2) := by decide +kernel
theorem dX12_findChances_108 : decode cX12_findChances 108 = .ok (.iload 7, 2) := by decide +kernel
theorem dX12_findChances_110 : decode cX12_findChances 110 = .ok (.bipush 64, 2) := by decide +kernel
theorem dX12_findChances_112 : decode cX12_findChances 112 = .ok (.if_icmp .ge 17, 3) := by decide +kernel
theorem dX12_findChances_115 : decode cX12_findChances 115 = .ok (.aload_n 0, 1) := by decide +kernel
theorem dX12_findChances_116 : decode cX12_findChances 116 = .ok (.getfield 65, 3) := by decide +kernel
theorem dX12_findChances_119 : decode cX12_findChances 119 = .ok (.iload 7, 2) := by decide +kernel
theorem dX12_findChances_121 : decode cX12_findChances 121 = .ok (.lconst 0, 1) := by decide +kernel
theorem dX12_findChances_122 : decode cX12_findChances 122 = .ok (.lastore, 1) := by decide +kernel
theorem dX12_findChances_123 : decode cX12_findChances 123 = .ok (.iinc 7 1, 3) := by decide +kernel
theorem dX12_findChances_126 : decode cX12_findChances 126 = .ok (.goto (-18), 3) := by decide +kernel
theorem dX12_findChances_129 : decode cX12_findChances 129 = .ok (.iconst 0, 1) := by decide +kernel
theorem dX12_findChances_130 : decode cX12_findChances 130 = .ok (.istore 7, 2) := by decide +kernel
theorem dX12_findChances_132 : decode cX12_findChances 132 = .ok (.iload 7, 2) := by decide +kernel
theorem dX12_findChances_134 : decode cX12_findChances 134 = .ok (.bipush 64, 2) := by decide +kernel
theorem dX12_findChances_136 : decode cX12_findChances 136 = .ok (.if_icmp .ge 93, 3) := by decide +kernel
theorem dX12_findChances_139 : decode cX12_findChances 139 = .ok (.aload_n 0, 1) := by decide +kernel
theorem dX12_findChances_140 : decode cX12_findChances 140 = .ok (.getfield 61, 3) := by decide +kernel
theorem dX12_findChances_143 : decode cX12_findChances 143 = .ok (.iload 7, 2) := by decide +kernel
theorem dX12_findChances_145 : decode cX12_findChances 145 = .ok (.laload, 1) := by decide +kernel
theorem dX12_findChances_146 : decode cX12_findChances 146 = .ok (.lconst 0, 1) := by decide +kernel
theorem dX12_findChances_147 : decode cX12_findChances 147 = .ok (.lcmp, 1) := by decide +kernel
theorem dX12_findChances_148 : decode cX12_findChances 148 = .ok (.ifCond .le 31, 3) := by decide +kernel
theorem dX12_findChances_151 : decode cX12_findChances 151 = .ok (.iload_n 3, 1) := by decide +kernel
theorem dX12_findChances_152 : decode cX12_findChances 152 = .ok (.ifCond .ne 27, 3) := by decide +kernel
theorem dX12_findChances_155 : decode cX12_findChances 155 = .ok (.aload_n 0, 1) := by decide +kernel
theorem dX12_findChances_156 : decode cX12_findChances 156 = .ok (.getfield 65, 3) := by decide +kernel
theorem dX12_findChances_159 : decode cX12_findChances 159 = .ok (.iload 7, 2) := by decide +kernel
theorem dX12_findChances_161 : decode cX12_findChances 161 = .ok (.dup2, 1) := by decide +kernel
theorem dX12_findChances_162 : decode cX12_findChances 162 = .ok (.laload, 1) := by decide +kernel
theorem dX12_findChances_163 : decode cX12_findChances 163 = .ok (.aload_n 0, 1) := by decide +kernel
theorem dX12_findChances_164 : decode cX12_findChances 164 = .ok (.getfield 61, 3) := by decide +kernel
theorem dX12_findChances_167 : decode cX12_findChances 167 = .ok (.iload 7, 2) := by decide +kernel
theorem dX12_findChances_169 : decode cX12_findChances 169 = .ok (.laload, 1) := by decide +kernel
theorem dX12_findChances_170 : decode cX12_findChances 170 = .ok (.ldc2_w 261, 3) := by decide +kernel
theorem dX12_findChances_173 : decode cX12_findChances 173 = .ok (.lmul, 1) := by decide +kernel
theorem dX12_findChances_174 : decode cX12_findChances 174 = .ok (.ladd, 1) := by decide +kernel
theorem dX12_findChances_175 : decode cX12_findChances 175 = .ok (.lastore, 1) := by decide +kernel
theorem dX12_findChances_176 : decode cX12_findChances 176 = .ok (.goto 47, 3) := by decide +kernel
theorem dX12_findChances_179 : decode cX12_findChances 179 = .ok (.aload_n 0, 1) := by decide +kernel
theorem dX12_findChances_180 : decode cX12_findChances 180 = .ok (.getfield 61, 3) := by decide +kernel
theorem dX12_findChances_183 : decode cX12_findChances 183 = .ok (.iload 7, 2) := by decide +kernel
theorem dX12_findChances_185 : decode cX12_findChances 185 = .ok (.laload, 1) := by decide +kernel
theorem dX12_findChances_186 : decode cX12_findChances 186 = .ok (.lconst 0, 1) := by decide +kernel
theorem dX12_findChances_187 : decode cX12_findChances 187 = .ok (.lcmp, 1) := by decide +kernel
theorem dX12_findChances_188 : decode cX12_findChances 188 = .ok (.ifCond .le 17, 3) := by decide +kernel
theorem dX12_findChances_191 : decode cX12_findChances 191 = .ok (.iload_n 3, 1) := by decide +kernel
theorem dX12_findChances_192 : decode cX12_findChances 192 = .ok (.iconst 1, 1) := by decide +kernel
theorem dX12_findChances_193 : decode cX12_findChances 193 = .ok (.if_icmp .ne 12, 3) := by decide +kernel
theorem dX12_findChances_196 : decode cX12_findChances 196 = .ok (.aload_n 0, 1) := by decide +kernel
theorem dX12_findChances_197 : decode cX12_findChances 197 = .ok (.iload 7, 2) := by decide +kernel
theorem dX12_findChances_199 : decode cX12_findChances 199 = .ok (.invokevirtual 266, 3) := by decide +kernel
theorem dX12_findChances_202 : decode cX12_findChances 202 = .ok (.goto 21, 3) := by decide +kernel
theorem dX12_findChances_205 : decode cX12_findChances 205 = .ok (.aload_n 0, 1) := by decide +kernel
theorem dX12_findChances_206 : decode cX12_findChances 206 = .ok (.getfield 61, 3) := by decide +kernel
theorem dX12_findChances_209 : decode cX12_findChances 209 = .ok (.iload 7, 2) := by decide +kernel
theorem dX12_findChances_211 : decode cX12_findChances 211 = .ok (.laload, 1) := by decide +kernel
theorem dX12_findChances_212 : decode cX12_findChances 212 = .ok (.lconst 0, 1) := by decide +kernel
theorem dX12_findChances_213 : decode cX12_findChances 213 = .ok (.lcmp, 1) := by decide +kernel
theorem dX12_findChances_214 : decode cX12_findChances 214 = .ok (.ifCond .le 9, 3) := by decide +kernel
theorem dX12_findChances_217 : decode cX12_findChances 217 = .ok (.aload_n 0, 1) := by decide +kernel
theorem dX12_findChances_218 : decode cX12_findChances 218 = .ok (.iload 7, 2) := by decide +kernel
theorem dX12_findChances_220 : decode cX12_findChances 220 = .ok (.invokevirtual 270, 3) := by decide +kernel
theorem dX12_findChances_223 : decode cX12_findChances 223 = .ok (.iinc 7 1, 3) := by decide +kernel
theorem dX12_findChances_226 : decode cX12_findChances 226 = .ok (.goto (-94), 3) := by decide +kernel
theorem dX12_findChances_229 : decode cX12_findChances 229 = .ok (.iconst 0, 1) := by decide +kernel
theorem dX12_findChances_230 : decode cX12_findChances 230 = .ok (.istore 7, 2) := by decide +kernel
theorem dX12_findChances_232 : decode cX12_findChances 232 = .ok (.iload 7, 2) := by decide +kernel
theorem dX12_findChances_234 : decode cX12_findChances 234 = .ok (.bipush 64, 2) := by decide +kernel
theorem dX12_findChances_236 : decode cX12_findChances 236 = .ok (.if_icmp .ge 23, 3) := by decide +kernel
theorem dX12_findChances_239 : decode cX12_findChances 239 = .ok (.aload_n 0, 1) := by decide +kernel
theorem dX12_findChances_240 : decode cX12_findChances 240 = .ok (.getfield 61, 3) := by decide +kernel
theorem dX12_findChances_243 : decode cX12_findChances 243 = .ok (.iload 7, 2) := by decide +kernel
theorem dX12_findChances_245 : decode cX12_findChances 245 = .ok (.aload_n 0, 1) := by decide +kernel
theorem dX12_findChances_246 : decode cX12_findChances 246 = .ok (.getfield 65, 3) := by decide +kernel
theorem dX12_findChances_249 : decode cX12_findChances 249 = .ok (.iload 7, 2) := by decide +kernel
theorem dX12_findChances_251 : decode cX12_findChances 251 = .ok (.laload, 1) := by decide +kernel
theorem dX12_findChances_252 : decode cX12_findChances 252 = .ok (.lastore, 1) := by decide +kernel
theorem dX12_findChances_253 : decode cX12_findChances 253 = .ok (.iinc 7 1, 3) := by decide +kernel
theorem dX12_findChances_256 : decode cX12_findChances 256 = .ok (.goto (-24), 3) := by decide +kernel
theorem dX12_findChances_259 : decode cX12_findChances 259 = .ok (.lload 4, 2) := by decide +kernel
theorem dX12_findChances_261 : decode cX12_findChances 261 = .ok (.ldc2_w 261, 3) := by decide +kernel
theorem dX12_findChances_264 : decode cX12_findChances 264 = .ok (.lmul, 1) := by decide +kernel
theorem dX12_findChances_265 : decode cX12_findChances 265 = .ok (.lstore 4, 2) := by decide +kernel
theorem dX12_findChances_267 : decode cX12_findChances 267 = .ok (.iinc 6 1, 3) := by decide +kernel
theorem dX12_findChances_270 : decode cX12_findChances 270 = .ok (.goto (-171), 3) := by decide +kernel
theorem dX12_findChances_273 : decode cX12_findChances 273 = .ok (.lload 4, 2) := by decide +kernel
theorem dX12_findChances_275 : decode cX12_findChances 275 = .ok (.lreturn, 1) := by decide +kernel
theorem dX12_isOf_0 : decode cX12_isOf 0 = .ok (.aload_n 0, 1) := by decide +kernel
theorem dX12_isOf_1 : decode cX12_isOf 1 = .ok (.iload_n 1, 1) := by decide +kernel
theorem dX12_isOf_2 : decode cX12_isOf 2 = .ok (.iload_n 2, 1) := by decide +kernel
theorem dX12_isOf_3 : decode cX12_isOf 3 = .ok (.invokevirtual 273, 3) := by decide +kernel
theorem dX12_isOf_6 : decode cX12_isOf 6 = .ok (.lstore 5, 2) := by decide +kernel
theorem dX12_isOf_8 : decode cX12_isOf 8 = .ok (.aload_n 0, 1) := by decide +kernel
theorem dX12_isOf_9 : decode cX12_isOf 9 = .ok (.getfield 61, 3) := by decide +kernel
theorem dX12_isOf_12 : decode cX12_isOf 12 = .ok (.iload_n 3, 1) := by decide +kernel
theorem dX12_isOf_13 : decode cX12_isOf 13 = .ok (.laload, 1) := by decide +kernel
theorem dX12_isOf_14 : decode cX12_isOf 14 = .ok (.lload 5, 2) := by decide +kernel
theorem dX12_isOf_16 : decode cX12_isOf 16 = .ok (.iload 4, 2) := by decide +kernel
theorem dX12_isOf_18 : decode cX12_isOf 18 = .ok (.invokestatic 222, 3) := by decide +kernel
theorem dX12_isOf_21 : decode cX12_isOf 21 = .ok (.lreturn, 1) := by decide +kernel
theorem dX12_is_0 : decode cX12_is 0 = .ok (.aload_n 0, 1) := by decide +kernel
theorem dX12_is_1 : decode cX12_is 1 = .ok (.invokevirtual 175, 3) := by decide +kernel
theorem dX12_is_4 : decode cX12_is 4 = .ok (.aload_n 0, 1) := by decide +kernel
theorem dX12_is_5 : decode cX12_is 5 = .ok (.iload_n 1, 1) := by decide +kernel
theorem dX12_is_6 : decode cX12_is 6 = .ok (.invokevirtual 178, 3) := by decide +kernel
theorem dX12_is_9 : decode cX12_is 9 = .ok (.ifCond .eq 43, 3) := by decide +kernel
theorem dX12_is_12 : decode cX12_is 12 = .ok (.iload_n 2, 1) := by decide +kernel
theorem dX12_is_13 : decode cX12_is 13 = .ok (.i2l, 1) := by decide +kernel
theorem dX12_is_14 : decode cX12_is 14 = .ok (.lconst 0, 1) := by decide +kernel
theorem dX12_is_15 : decode cX12_is 15 = .ok (.ldc2_w 277, 3) := by decide +kernel
theorem dX12_is_18 : decode cX12_is 18 = .ok (.invokestatic 82, 3) := by decide +kernel
theorem dX12_is_21 : decode cX12_is 21 = .ok (.ifCond .eq 31, 3) := by decide +kernel
theorem dX12_is_24 : decode cX12_is 24 = .ok (.aload_n 0, 1) := by decide +kernel
theorem dX12_is_25 : decode cX12_is 25 = .ok (.iload_n 3, 1) := by decide +kernel
theorem dX12_is_26 : decode cX12_is 26 = .ok (.invokevirtual 178, 3) := by decide +kernel
theorem dX12_is_29 : decode cX12_is 29 = .ok (.ifCond .eq 23, 3) := by decide +kernel
theorem dX12_is_32 : decode cX12_is 32 = .ok (.iload 4, 2) := by decide +kernel
theorem dX12_is_34 : decode cX12_is 34 = .ok (.invokestatic 167, 3) := by decide +kernel
theorem dX12_is_37 : decode cX12_is 37 = .ok (.ifCond .eq 15, 3) := by decide +kernel
theorem dX12_is_40 : decode cX12_is 40 = .ok (.aload_n 0, 1) := by decide +kernel
theorem dX12_is_41 : decode cX12_is 41 = .ok (.iload_n 1, 1) := by decide +kernel
theorem dX12_is_42 : decode cX12_is 42 = .ok (.iload_n 2, 1) := by decide +kernel
theorem dX12_is_43 : decode cX12_is 43 = .ok (.iload_n 3, 1) := by decide +kernel
theorem dX12_is_44 : decode cX12_is 44 = .ok (.iload 4, 2) := by decide +kernel
theorem dX12_is_46 : decode cX12_is 46 = .ok (.invokevirtual 279, 3) := by decide +kernel
theorem dX12_is_49 : decode cX12_is 49 = .ok (.goto 8, 3) := by decide +kernel
theorem dX12_is_52 : decode cX12_is 52 = .ok (.bipush (-2), 2) := by decide +kernel
theorem dX12_is_54 : decode cX12_is 54 = .ok (.invokestatic 232, 3) := by decide +kernel
theorem dX12_is_57 : decode cX12_is 57 = .ok (.lreturn, 1) := by decide +kernel
theorem dX12_likeliestOf_0 : decode cX12_likeliestOf 0 = .ok (.aload_n 0, 1) := by decide +kernel
theorem dX12_likeliestOf_1 : decode cX12_likeliestOf 1 = .ok (.iload_n 1, 1) := by decide +kernel
theorem dX12_likeliestOf_2 : decode cX12_likeliestOf 2 = .ok (.iload_n 2, 1) := by decide +kernel
theorem dX12_likeliestOf_3 : decode cX12_likeliestOf 3 = .ok (.invokevirtual 273, 3) := by decide +kernel
theorem dX12_likeliestOf_6 : decode cX12_likeliestOf 6 = .ok (.pop2, 1) := by decide +kernel
theorem dX12_likeliestOf_7 : decode cX12_likeliestOf 7 = .ok (.iconst 0, 1) := by decide +kernel
theorem dX12_likeliestOf_8 : decode cX12_likeliestOf 8 = .ok (.istore_n 3, 1) := by decide +kernel
theorem dX12_likeliestOf_9 : decode cX12_likeliestOf 9 = .ok (.iconst 1, 1) := by decide +kernel
theorem dX12_likeliestOf_10 : decode cX12_likeliestOf 10 = .ok (.istore 4, 2) := by decide +kernel
theorem dX12_likeliestOf_12 : decode cX12_likeliestOf 12 = .ok (.iload 4, 2) := by decide +kernel
theorem dX12_likeliestOf_14 : decode cX12_likeliestOf 14 = .ok (.bipush 64, 2) := by decide +kernel
theorem dX12_likeliestOf_16 : decode cX12_likeliestOf 16 = .ok (.if_icmp .ge 33, 3) := by decide +kernel
theorem dX12_likeliestOf_19 : decode cX12_likeliestOf 19 = .ok (.aload_n 0, 1) := by decide +kernel
theorem dX12_likeliestOf_20 : decode cX12_likeliestOf 20 = .ok (.getfield 61, 3) := by decide +kernel
theorem dX12_likeliestOf_23 : decode cX12_likeliestOf 23 = .ok (.iload 4, 2) := by decide +kernel
theorem dX12_likeliestOf_25 : decode cX12_likeliestOf 25 = .ok (.laload, 1) := by decide +kernel
theorem dX12_likeliestOf_26 : decode cX12_likeliestOf 26 = .ok (.aload_n 0, 1) := by decide +kernel
theorem dX12_likeliestOf_27 : decode cX12_likeliestOf 27 = .ok (.getfield 61, 3) := by decide +kernel
theorem dX12_likeliestOf_30 : decode cX12_likeliestOf 30 = .ok (.iload_n 3, 1) := by decide +kernel
theorem dX12_likeliestOf_31 : decode cX12_likeliestOf 31 = .ok (.laload, 1) := by decide +kernel
theorem dX12_likeliestOf_32 : decode cX12_likeliestOf 32 = .ok (.lcmp, 1) := by decide +kernel
theorem dX12_likeliestOf_33 : decode cX12_likeliestOf 33 = .ok (.ifCond .le 8, 3) := by decide +kernel
theorem dX12_likeliestOf_36 : decode cX12_likeliestOf 36 = .ok (.iload 4, 2) := by decide +kernel
theorem dX12_likeliestOf_38 : decode cX12_likeliestOf 38 = .ok (.goto 4, 3) := by decide +kernel
theorem dX12_likeliestOf_41 : decode cX12_likeliestOf 41 = .ok (.iload_n 3, 1) := by decide +kernel
theorem dX12_likeliestOf_42 : decode cX12_likeliestOf 42 = .ok (.istore_n 3, 1) := by decide +kernel
theorem dX12_likeliestOf_43 : decode cX12_likeliestOf 43 = .ok (.iinc 4 1, 3) := by decide +kernel
theorem dX12_likeliestOf_46 : decode cX12_likeliestOf 46 = .ok (.goto (-34), 3) := by decide +kernel
theorem dX12_likeliestOf_49 : decode cX12_likeliestOf 49 = .ok (.iload_n 3, 1) := by decide +kernel
theorem dX12_likeliestOf_50 : decode cX12_likeliestOf 50 = .ok (.ireturn, 1) := by decide +kernel
theorem dX12_likeliest_0 : decode cX12_likeliest 0 = .ok (.aload_n 0, 1) := by decide +kernel
theorem dX12_likeliest_1 : decode cX12_likeliest 1 = .ok (.invokevirtual 175, 3) := by decide +kernel
theorem dX12_likeliest_4 : decode cX12_likeliest 4 = .ok (.aload_n 0, 1) := by decide +kernel
theorem dX12_likeliest_5 : decode cX12_likeliest 5 = .ok (.iload_n 1, 1) := by decide +kernel
theorem dX12_likeliest_6 : decode cX12_likeliest 6 = .ok (.invokevirtual 178, 3) := by decide +kernel
theorem dX12_likeliest_9 : decode cX12_likeliest 9 = .ok (.ifCond .eq 24, 3) := by decide +kernel
theorem dX12_likeliest_12 : decode cX12_likeliest 12 = .ok (.iload_n 2, 1) := by decide +kernel
theorem dX12_likeliest_13 : decode cX12_likeliest 13 = .ok (.i2l, 1) := by decide +kernel
theorem dX12_likeliest_14 : decode cX12_likeliest 14 = .ok (.lconst 0, 1) := by decide +kernel
theorem dX12_likeliest_15 : decode cX12_likeliest 15 = .ok (.ldc2_w 277, 3) := by decide +kernel
theorem dX12_likeliest_18 : decode cX12_likeliest 18 = .ok (.invokestatic 82, 3) := by decide +kernel
theorem dX12_likeliest_21 : decode cX12_likeliest 21 = .ok (.ifCond .eq 12, 3) := by decide +kernel
theorem dX12_likeliest_24 : decode cX12_likeliest 24 = .ok (.aload_n 0, 1) := by decide +kernel
theorem dX12_likeliest_25 : decode cX12_likeliest 25 = .ok (.iload_n 1, 1) := by decide +kernel
theorem dX12_likeliest_26 : decode cX12_likeliest 26 = .ok (.iload_n 2, 1) := by decide +kernel
theorem dX12_likeliest_27 : decode cX12_likeliest 27 = .ok (.invokevirtual 282, 3) := by decide +kernel
theorem dX12_likeliest_30 : decode cX12_likeliest 30 = .ok (.goto 5, 3) := by decide +kernel
theorem dX12_likeliest_33 : decode cX12_likeliest 33 = .ok (.bipush (-2), 2) := by decide +kernel
theorem dX12_likeliest_35 : decode cX12_likeliest 35 = .ok (.ireturn, 1) := by decide +kernel
theorem dX12_look_0 : decode cX12_look 0 = .ok (.iload_n 1, 1) := by decide +kernel
theorem dX12_look_1 : decode cX12_look 1 = .ok (.i2l, 1) := by decide +kernel
theorem dX12_look_2 : decode cX12_look 2 = .ok (.lconst 0, 1) := by decide +kernel
theorem dX12_look_3 : decode cX12_look 3 = .ok (.ldc2_w 160, 3) := by decide +kernel
theorem dX12_look_6 : decode cX12_look 6 = .ok (.invokestatic 82, 3) := by decide +kernel
theorem dX12_look_9 : decode cX12_look 9 = .ok (.ifCond .eq 15, 3) := by decide +kernel
theorem dX12_look_12 : decode cX12_look 12 = .ok (.iload_n 2, 1) := by decide +kernel
theorem dX12_look_13 : decode cX12_look 13 = .ok (.i2l, 1) := by decide +kernel
theorem dX12_look_14 : decode cX12_look 14 = .ok (.lconst 1, 1) := by decide +kernel
theorem dX12_look_15 : decode cX12_look 15 = .ok (.ldc2_w 285, 3) := by decide +kernel
theorem dX12_look_18 : decode cX12_look 18 = .ok (.invokestatic 82, 3) := by decide +kernel
theorem dX12_look_21 : decode cX12_look 21 = .ok (.ifCond .ne 6, 3) := by decide +kernel
theorem dX12_look_24 : decode cX12_look 24 = .ok (.bipush (-2), 2) := by decide +kernel
theorem dX12_look_26 : decode cX12_look 26 = .ok (.ireturn, 1) := by decide +kernel
theorem dX12_look_27 : decode cX12_look 27 = .ok (.aload_n 0, 1) := by decide +kernel
theorem dX12_look_28 : decode cX12_look 28 = .ok (.getfield 287, 3) := by decide +kernel
theorem dX12_look_31 : decode cX12_look 31 = .ok (.iconst 5, 1) := by decide +kernel
theorem dX12_look_32 : decode cX12_look 32 = .ok (.if_icmp .ne 6, 3) := by decide +kernel
theorem dX12_look_35 : decode cX12_look 35 = .ok (.bipush (-4), 2) := by decide +kernel
theorem dX12_look_37 : decode cX12_look 37 = .ok (.ireturn, 1) := by decide +kernel
theorem dX12_look_38 : decode cX12_look 38 = .ok (.aload_n 0, 1) := by decide +kernel
theorem dX12_look_39 : decode cX12_look 39 = .ok (.getfield 68, 3) := by decide +kernel
theorem dX12_look_42 : decode cX12_look 42 = .ok (.iconst 2, 1) := by decide +kernel
theorem dX12_look_43 : decode cX12_look 43 = .ok (.aload_n 0, 1) := by decide +kernel
theorem dX12_look_44 : decode cX12_look 44 = .ok (.getfield 287, 3) := by decide +kernel
theorem dX12_look_47 : decode cX12_look 47 = .ok (.imul, 1) := by decide +kernel
theorem dX12_look_48 : decode cX12_look 48 = .ok (.iload_n 1, 1) := by decide +kernel
theorem dX12_look_49 : decode cX12_look 49 = .ok (.iastore, 1) := by decide +kernel
theorem dX12_look_50 : decode cX12_look 50 = .ok (.aload_n 0, 1) := by decide +kernel
theorem dX12_look_51 : decode cX12_look 51 = .ok (.getfield 68, 3) := by decide +kernel
theorem dX12_look_54 : decode cX12_look 54 = .ok (.iconst 2, 1) := by decide +kernel
theorem dX12_look_55 : decode cX12_look 55 = .ok (.aload_n 0, 1) := by decide +kernel
theorem dX12_look_56 : decode cX12_look 56 = .ok (.getfield 287, 3) := by decide +kernel
theorem dX12_look_59 : decode cX12_look 59 = .ok (.imul, 1) := by decide +kernel
theorem dX12_look_60 : decode cX12_look 60 = .ok (.iconst 1, 1) := by decide +kernel
theorem dX12_look_61 : decode cX12_look 61 = .ok (.iadd, 1) := by decide +kernel
theorem dX12_look_62 : decode cX12_look 62 = .ok (.iload_n 2, 1) := by decide +kernel
theorem dX12_look_63 : decode cX12_look 63 = .ok (.iastore, 1) := by decide +kernel
theorem dX12_look_64 : decode cX12_look 64 = .ok (.aload_n 0, 1) := by decide +kernel
theorem dX12_look_65 : decode cX12_look 65 = .ok (.dup, 1) := by decide +kernel
theorem dX12_look_66 : decode cX12_look 66 = .ok (.getfield 287, 3) := by decide +kernel
theorem dX12_look_69 : decode cX12_look 69 = .ok (.iconst 1, 1) := by decide +kernel
theorem dX12_look_70 : decode cX12_look 70 = .ok (.iadd, 1) := by decide +kernel
theorem dX12_look_71 : decode cX12_look 71 = .ok (.putfield 287, 3) := by decide +kernel
theorem dX12_look_74 : decode cX12_look 74 = .ok (.aload_n 0, 1) := by decide +kernel
theorem dX12_look_75 : decode cX12_look 75 = .ok (.getfield 287, 3) := by decide +kernel
theorem dX12_look_78 : decode cX12_look 78 = .ok (.ireturn, 1) := by decide +kernel
theorem dX12_forget_0 : decode cX12_forget 0 = .ok (.aload_n 0, 1) := by decide +kernel
theorem dX12_forget_1 : decode cX12_forget 1 = .ok (.getfield 287, 3) := by decide +kernel
theorem dX12_forget_4 : decode cX12_forget 4 = .ok (.istore_n 1, 1) := by decide +kernel
theorem dX12_forget_5 : decode cX12_forget 5 = .ok (.aload_n 0, 1) := by decide +kernel
theorem dX12_forget_6 : decode cX12_forget 6 = .ok (.iconst 0, 1) := by decide +kernel
theorem dX12_forget_7 : decode cX12_forget 7 = .ok (.putfield 287, 3) := by decide +kernel
theorem dX12_forget_10 : decode cX12_forget 10 = .ok (.iload_n 1, 1) := by decide +kernel
theorem dX12_forget_11 : decode cX12_forget 11 = .ok (.ireturn, 1) := by decide +kernel
theorem dX12_findWays_0 : decode cX12_findWays 0 = .ok (.aload_n 0, 1) := by decide +kernel
theorem dX12_findWays_1 : decode cX12_findWays 1 = .ok (.getfield 287, 3) := by decide +kernel
theorem dX12_findWays_4 : decode cX12_findWays 4 = .ok (.ifCond .le 20, 3) := by decide +kernel
theorem dX12_findWays_7 : decode cX12_findWays 7 = .ok (.aload_n 0, 1) := by decide +kernel
theorem dX12_findWays_8 : decode cX12_findWays 8 = .ok (.aload_n 0, 1) := by decide +kernel
theorem dX12_findWays_9 : decode cX12_findWays 9 = .ok (.getfield 46, 3) := by decide +kernel
theorem dX12_findWays_12 : decode cX12_findWays 12 = .ok (.iload_n 1, 1) := by decide +kernel
theorem dX12_findWays_13 : decode cX12_findWays 13 = .ok (.iaload, 1) := by decide +kernel
theorem dX12_findWays_14 : decode cX12_findWays 14 = .ok (.invokevirtual 178, 3) := by decide +kernel
theorem dX12_findWays_17 : decode cX12_findWays 17 = .ok (.ifCond .eq 7, 3) := by decide +kernel
theorem dX12_findWays_20 : decode cX12_findWays 20 = .ok (.iconst 1, 1) := by decide +kernel
theorem dX12_findWays_21 : decode cX12_findWays 21 = .ok (.goto 4, 3) := by decide +kernel
theorem dX12_findWays_24 : decode cX12_findWays 24 = .ok (.iconst 0, 1) := by decide +kernel
theorem dX12_findWays_25 : decode cX12_findWays 25 = .ok (.istore_n 2, 1) := by decide +kernel
theorem dX12_findWays_26 : decode cX12_findWays 26 = .ok (.iconst 0, 1) := by decide +kernel
theorem dX12_findWays_27 : decode cX12_findWays 27 = .ok (.istore_n 3, 1) := by decide +kernel
theorem dX12_findWays_28 : decode cX12_findWays 28 = .ok (.iload_n 3, 1) := by decide +kernel
theorem dX12_findWays_29 : decode cX12_findWays 29 = .ok (.aload_n 0, 1) := by decide +kernel
theorem dX12_findWays_30 : decode cX12_findWays 30 = .ok (.getfield 287, 3) := by decide +kernel
theorem dX12_findWays_33 : decode cX12_findWays 33 = .ok (.if_icmp .ge 155, 3) := by decide +kernel
theorem dX12_findWays_36 : decode cX12_findWays 36 = .ok (.iload_n 2, 1) := by decide +kernel
theorem dX12_findWays_37 : decode cX12_findWays 37 = .ok (.ifCond .eq 151, 3) := by decide +kernel
theorem dX12_findWays_40 : decode cX12_findWays 40 = .ok (.aload_n 0, 1) := by decide +kernel
theorem dX12_findWays_41 : decode cX12_findWays 41 = .ok (.aload_n 0, 1) := by decide +kernel
theorem dX12_findWays_42 : decode cX12_findWays 42 = .ok (.getfield 68, 3) := by decide +kernel
theorem dX12_findWays_45 : decode cX12_findWays 45 = .ok (.iconst 2, 1) := by decide +kernel
theorem dX12_findWays_46 : decode cX12_findWays 46 = .ok (.iload_n 3, 1) := by decide +kernel
theorem dX12_findWays_47 : decode cX12_findWays 47 = .ok (.imul, 1) := by decide +kernel
theorem dX12_findWays_48 : decode cX12_findWays 48 = .ok (.iaload, 1) := by decide +kernel
theorem dX12_findWays_49 : decode cX12_findWays 49 = .ok (.invokevirtual 178, 3) := by decide +kernel
theorem dX12_findWays_52 : decode cX12_findWays 52 = .ok (.istore_n 2, 1) := by decide +kernel
theorem dX12_findWays_53 : decode cX12_findWays 53 = .ok (.iload_n 2, 1) := by decide +kernel
theorem dX12_findWays_54 : decode cX12_findWays 54 = .ok (.ifCond .eq 128, 3) := by decide +kernel
theorem dX12_findWays_57 : decode cX12_findWays 57 = .ok (.aload_n 0, 1) := by decide +kernel
theorem dX12_findWays_58 : decode cX12_findWays 58 = .ok (.aload_n 0, 1) := by decide +kernel
theorem dX12_findWays_59 : decode cX12_findWays 59 = .ok (.getfield 68, 3) := by decide +kernel
theorem dX12_findWays_62 : decode cX12_findWays 62 = .ok (.iconst 2, 1) := by decide +kernel
theorem dX12_findWays_63 : decode cX12_findWays 63 = .ok (.iload_n 3, 1) := by decide +kernel
theorem dX12_findWays_64 : decode cX12_findWays 64 = .ok (.imul, 1) := by decide +kernel
theorem dX12_findWays_65 : decode cX12_findWays 65 = .ok (.iaload, 1) := by decide +kernel
theorem dX12_findWays_66 : decode cX12_findWays 66 = .ok (.iconst 0, 1) := by decide +kernel
theorem dX12_findWays_67 : decode cX12_findWays 67 = .ok (.invokevirtual 188, 3) := by decide +kernel
theorem dX12_findWays_70 : decode cX12_findWays 70 = .ok (.aload_n 0, 1) := by decide +kernel
theorem dX12_findWays_71 : decode cX12_findWays 71 = .ok (.getfield 71, 3) := by decide +kernel
theorem dX12_findWays_74 : decode cX12_findWays 74 = .ok (.bipush 25, 2) := by decide +kernel
theorem dX12_findWays_76 : decode cX12_findWays 76 = .ok (.iload_n 3, 1) := by decide +kernel
theorem dX12_findWays_77 : decode cX12_findWays 77 = .ok (.iadd, 1) := by decide +kernel
theorem dX12_findWays_78 : decode cX12_findWays 78 = .ok (.aload_n 0, 1) := by decide +kernel
theorem dX12_findWays_79 : decode cX12_findWays 79 = .ok (.getfield 52, 3) := by decide +kernel
theorem dX12_findWays_82 : decode cX12_findWays 82 = .ok (.aload_n 0, 1) := by decide +kernel
theorem dX12_findWays_83 : decode cX12_findWays 83 = .ok (.getfield 46, 3) := by decide +kernel
theorem dX12_findWays_86 : decode cX12_findWays 86 = .ok (.iload_n 1, 1) := by decide +kernel
theorem dX12_findWays_87 : decode cX12_findWays 87 = .ok (.iaload, 1) := by decide +kernel
theorem dX12_findWays_88 : decode cX12_findWays 88 = .ok (.iaload, 1) := by decide +kernel
theorem dX12_findWays_89 : decode cX12_findWays 89 = .ok (.iastore, 1) := by decide +kernel
theorem dX12_findWays_90 : decode cX12_findWays 90 = .ok (.aload_n 0, 1) := by decide +kernel
theorem dX12_findWays_91 : decode cX12_findWays 91 = .ok (.getfield 71, 3) := by decide +kernel
theorem dX12_findWays_94 : decode cX12_findWays 94 = .ok (.bipush 25, 2) := by decide +kernel
theorem dX12_findWays_96 : decode cX12_findWays 96 = .ok (.iload_n 3, 1) := by decide +kernel
theorem dX12_findWays_97 : decode cX12_findWays 97 = .ok (.iadd, 1) := by decide +kernel
theorem dX12_findWays_98 : decode cX12_findWays 98 = .ok (.iaload, 1) := by decide +kernel
theorem dX12_findWays_99 : decode cX12_findWays 99 = .ok (.ldc 187, 2) := by decide +kernel
theorem dX12_findWays_101 : decode cX12_findWays 101 = .ok (.if_icmp .ge 7, 3) := by decide +kernel
theorem dX12_findWays_104 : decode cX12_findWays 104 = .ok (.iconst 1, 1) := by decide +kernel
theorem dX12_findWays_105 : decode cX12_findWays 105 = .ok (.goto 4, 3) := by decide +kernel
theorem dX12_findWays_108 : decode cX12_findWays 108 = .ok (.iconst 0, 1) := by decide +kernel
theorem dX12_findWays_109 : decode cX12_findWays 109 = .ok (.istore_n 2, 1) := by decide +kernel
theorem dX12_findWays_110 : decode cX12_findWays 110 = .ok (.iconst 0, 1) := by decide +kernel
theorem dX12_findWays_111 : decode cX12_findWays 111 = .ok (.istore 4, 2) := by decide +kernel
theorem dX12_findWays_113 : decode cX12_findWays 113 = .ok (.iload 4, 2) := by decide +kernel
theorem dX12_findWays_115 : decode cX12_findWays 115 = .ok (.aload_n 0, 1) := by decide +kernel
theorem dX12_findWays_116 : decode cX12_findWays 116 = .ok (.getfield 287, 3) := by decide +kernel
theorem dX12_findWays_119 : decode cX12_findWays 119 = .ok (.if_icmp .ge 63, 3) := by decide +kernel
theorem dX12_findWays_122 : decode cX12_findWays 122 = .ok (.iload_n 2, 1) := by decide +kernel
theorem dX12_findWays_123 : decode cX12_findWays 123 = .ok (.ifCond .eq 59, 3) := by decide +kernel
theorem dX12_findWays_126 : decode cX12_findWays 126 = .ok (.aload_n 0, 1) := by decide +kernel
theorem dX12_findWays_127 : decode cX12_findWays 127 = .ok (.getfield 71, 3) := by decide +kernel
theorem dX12_findWays_130 : decode cX12_findWays 130 = .ok (.iconst 5, 1) := by decide +kernel
theorem dX12_findWays_131 : decode cX12_findWays 131 = .ok (.iload 4, 2) := by decide +kernel
theorem dX12_findWays_133 : decode cX12_findWays 133 = .ok (.imul, 1) := by decide +kernel
theorem dX12_findWays_134 : decode cX12_findWays 134 = .ok (.iload_n 3, 1) := by decide +kernel
theorem dX12_findWays_135 : decode cX12_findWays 135 = .ok (.iadd, 1) := by decide +kernel
theorem dX12_findWays_136 : decode cX12_findWays 136 = .ok (.aload_n 0, 1) := by decide +kernel
theorem dX12_findWays_137 : decode cX12_findWays 137 = .ok (.getfield 68, 3) := by decide +kernel
theorem dX12_findWays_140 : decode cX12_findWays 140 = .ok (.iconst 2, 1) := by decide +kernel
theorem dX12_findWays_141 : decode cX12_findWays 141 = .ok (.iload 4, 2) := by decide +kernel
theorem dX12_findWays_143 : decode cX12_findWays 143 = .ok (.imul, 1) := by decide +kernel
theorem dX12_findWays_144 : decode cX12_findWays 144 = .ok (.iaload, 1) := by decide +kernel
theorem dX12_findWays_145 : decode cX12_findWays 145 = .ok (.i2l, 1) := by decide +kernel
theorem dX12_findWays_146 : decode cX12_findWays 146 = .ok (.lconst 0, 1) := by decide +kernel
theorem dX12_findWays_147 : decode cX12_findWays 147 = .ok (.ldc2_w 160, 3) := by decide +kernel
theorem dX12_findWays_150 : decode cX12_findWays 150 = .ok (.invokestatic 82, 3) := by decide +kernel
theorem dX12_findWays_153 : decode cX12_findWays 153 = .ok (.ifCond .eq 20, 3) := by decide +kernel
theorem dX12_findWays_156 : decode cX12_findWays 156 = .ok (.aload_n 0, 1) := by decide +kernel
theorem dX12_findWays_157 : decode cX12_findWays 157 = .ok (.getfield 52, 3) := by decide +kernel
theorem dX12_findWays_160 : decode cX12_findWays 160 = .ok (.aload_n 0, 1) := by decide +kernel
theorem dX12_findWays_161 : decode cX12_findWays 161 = .ok (.getfield 68, 3) := by decide +kernel
theorem dX12_findWays_164 : decode cX12_findWays 164 = .ok (.iconst 2, 1) := by decide +kernel
theorem dX12_findWays_165 : decode cX12_findWays 165 = .ok (.iload 4, 2) := by decide +kernel
theorem dX12_findWays_167 : decode cX12_findWays 167 = .ok (.imul, 1) := by decide +kernel
theorem dX12_findWays_168 : decode cX12_findWays 168 = .ok (.iaload, 1) := by decide +kernel
theorem dX12_findWays_169 : decode cX12_findWays 169 = .ok (.iaload, 1) := by decide +kernel
theorem dX12_findWays_170 : decode cX12_findWays 170 = .ok (.goto 5, 3) := by decide +kernel
theorem dX12_findWays_173 : decode cX12_findWays 173 = .ok (.ldc 187, 2) := by decide +kernel
theorem dX12_findWays_175 : decode cX12_findWays 175 = .ok (.iastore, 1) := by decide +kernel
theorem dX12_findWays_176 : decode cX12_findWays 176 = .ok (.iinc 4 1, 3) := by decide +kernel
theorem dX12_findWays_179 : decode cX12_findWays 179 = .ok (.goto (-66), 3) := by decide +kernel
theorem dX12_findWays_182 : decode cX12_findWays 182 = .ok (.iinc 3 1, 3) := by decide +kernel
theorem dX12_findWays_185 : decode cX12_findWays 185 = .ok (.goto (-157), 3) := by decide +kernel
theorem dX12_findWays_188 : decode cX12_findWays 188 = .ok (.iload_n 2, 1) := by decide +kernel
theorem dX12_findWays_189 : decode cX12_findWays 189 = .ok (.ireturn, 1) := by decide +kernel
theorem dX12_weights_0 : decode cX12_weights 0 = .ok (.iconst 0, 1) := by decide +kernel
theorem dX12_weights_1 : decode cX12_weights 1 = .ok (.istore_n 1, 1) := by decide +kernel
theorem dX12_weights_2 : decode cX12_weights 2 = .ok (.iconst 0, 1) := by decide +kernel
theorem dX12_weights_3 : decode cX12_weights 3 = .ok (.istore_n 2, 1) := by decide +kernel
theorem dX12_weights_4 : decode cX12_weights 4 = .ok (.iload_n 2, 1) := by decide +kernel
theorem dX12_weights_5 : decode cX12_weights 5 = .ok (.aload_n 0, 1) := by decide +kernel
theorem dX12_weights_6 : decode cX12_weights 6 = .ok (.getfield 287, 3) := by decide +kernel
theorem dX12_weights_9 : decode cX12_weights 9 = .ok (.if_icmp .ge 22, 3) := by decide +kernel
theorem dX12_weights_12 : decode cX12_weights 12 = .ok (.iload_n 1, 1) := by decide +kernel
theorem dX12_weights_13 : decode cX12_weights 13 = .ok (.aload_n 0, 1) := by decide +kernel
theorem dX12_weights_14 : decode cX12_weights 14 = .ok (.getfield 68, 3) := by decide +kernel
theorem dX12_weights_17 : decode cX12_weights 17 = .ok (.iconst 2, 1) := by decide +kernel
theorem dX12_weights_18 : decode cX12_weights 18 = .ok (.iload_n 2, 1) := by decide +kernel
theorem dX12_weights_19 : decode cX12_weights 19 = .ok (.imul, 1) := by decide +kernel
theorem dX12_weights_20 : decode cX12_weights 20 = .ok (.iconst 1, 1) := by decide +kernel
theorem dX12_weights_21 : decode cX12_weights 21 = .ok (.iadd, 1) := by decide +kernel
theorem dX12_weights_22 : decode cX12_weights 22 = .ok (.iaload, 1) := by decide +kernel
theorem dX12_weights_23 : decode cX12_weights 23 = .ok (.iadd, 1) := by decide +kernel
theorem dX12_weights_24 : decode cX12_weights 24 = .ok (.istore_n 1, 1) := by decide +kernel
theorem dX12_weights_25 : decode cX12_weights 25 = .ok (.iinc 2 1, 3) := by decide +kernel
theorem dX12_weights_28 : decode cX12_weights 28 = .ok (.goto (-24), 3) := by decide +kernel
theorem dX12_weights_31 : decode cX12_weights 31 = .ok (.iload_n 1, 1) := by decide +kernel
theorem dX12_weights_32 : decode cX12_weights 32 = .ok (.ireturn, 1) := by decide +kernel
theorem dX12_findBest_0 : decode cX12_findBest 0 = .ok (.iload_n 1, 1) := by decide +kernel
theorem dX12_findBest_1 : decode cX12_findBest 1 = .ok (.invokestatic 210, 3) := by decide +kernel
theorem dX12_findBest_4 : decode cX12_findBest 4 = .ok (.istore_n 2, 1) := by decide +kernel
theorem dX12_findBest_5 : decode cX12_findBest 5 = .ok (.iconst 1, 1) := by decide +kernel
theorem dX12_findBest_6 : decode cX12_findBest 6 = .ok (.istore_n 3, 1) := by decide +kernel
theorem dX12_findBest_7 : decode cX12_findBest 7 = .ok (.iconst 0, 1) := by decide +kernel
theorem dX12_findBest_8 : decode cX12_findBest 8 = .ok (.istore 4, 2) := by decide +kernel
theorem dX12_findBest_10 : decode cX12_findBest 10 = .ok (.iload 4, 2) := by decide +kernel
theorem dX12_findBest_12 : decode cX12_findBest 12 = .ok (.iload_n 2, 1) := by decide +kernel
theorem dX12_findBest_13 : decode cX12_findBest 13 = .ok (.if_icmp .ge 13, 3) := by decide +kernel
theorem dX12_findBest_16 : decode cX12_findBest 16 = .ok (.iload_n 3, 1) := by decide +kernel
theorem dX12_findBest_17 : decode cX12_findBest 17 = .ok (.iconst 5, 1) := by decide +kernel
theorem dX12_findBest_18 : decode cX12_findBest 18 = .ok (.imul, 1) := by decide +kernel
theorem dX12_findBest_19 : decode cX12_findBest 19 = .ok (.istore_n 3, 1) := by decide +kernel
theorem dX12_findBest_20 : decode cX12_findBest 20 = .ok (.iinc 4 1, 3) := by decide +kernel
theorem dX12_findBest_23 : decode cX12_findBest 23 = .ok (.goto (-13), 3) := by decide +kernel
theorem dX12_findBest_26 : decode cX12_findBest 26 = .ok (.iconst (-1), 1) := by decide +kernel
theorem dX12_findBest_27 : decode cX12_findBest 27 = .ok (.istore 4, 2) := by decide +kernel
theorem dX12_findBest_29 : decode cX12_findBest 29 = .ok (.iconst 0, 1) := by decide +kernel
theorem dX12_findBest_30 : decode cX12_findBest 30 = .ok (.istore 5, 2) := by decide +kernel
theorem dX12_findBest_32 : decode cX12_findBest 32 = .ok (.iload 5, 2) := by decide +kernel
theorem dX12_findBest_34 : decode cX12_findBest 34 = .ok (.iload_n 3, 1) := by decide +kernel
theorem dX12_findBest_35 : decode cX12_findBest 35 = .ok (.if_icmp .ge 175, 3) := by decide +kernel
theorem dX12_findBest_38 : decode cX12_findBest 38 = .ok (.iload 5, 2) := by decide +kernel
theorem dX12_findBest_40 : decode cX12_findBest 40 = .ok (.istore 6, 2) := by decide +kernel
theorem dX12_findBest_42 : decode cX12_findBest 42 = .ok (.iconst 0, 1) := by decide +kernel
theorem dX12_findBest_43 : decode cX12_findBest 43 = .ok (.istore 7, 2) := by decide +kernel
theorem dX12_findBest_45 : decode cX12_findBest 45 = .ok (.iload_n 2, 1) := by decide +kernel
theorem dX12_findBest_46 : decode cX12_findBest 46 = .ok (.iconst 1, 1) := by decide +kernel
theorem dX12_findBest_47 : decode cX12_findBest 47 = .ok (.isub, 1) := by decide +kernel
theorem dX12_findBest_48 : decode cX12_findBest 48 = .ok (.istore 8, 2) := by decide +kernel
theorem dX12_findBest_50 : decode cX12_findBest 50 = .ok (.iload 8, 2) := by decide +kernel
theorem dX12_findBest_52 : decode cX12_findBest 52 = .ok (.ifCond .lt 40, 3) := by decide +kernel
theorem dX12_findBest_55 : decode cX12_findBest 55 = .ok (.aload_n 0, 1) := by decide +kernel
theorem dX12_findBest_56 : decode cX12_findBest 56 = .ok (.getfield 58, 3) := by decide +kernel
theorem dX12_findBest_59 : decode cX12_findBest 59 = .ok (.iload 8, 2) := by decide +kernel
theorem dX12_findBest_61 : decode cX12_findBest 61 = .ok (.iload 6, 2) := by decide +kernel
theorem dX12_findBest_63 : decode cX12_findBest 63 = .ok (.iconst 5, 1) := by decide +kernel
theorem dX12_findBest_64 : decode cX12_findBest 64 = .ok (.irem, 1) := by decide +kernel
theorem dX12_findBest_65 : decode cX12_findBest 65 = .ok (.iastore, 1) := by decide +kernel
theorem dX12_findBest_66 : decode cX12_findBest 66 = .ok (.iload 6, 2) := by decide +kernel
theorem dX12_findBest_68 : decode cX12_findBest 68 = .ok (.iconst 5, 1) := by decide +kernel
theorem dX12_findBest_69 : decode cX12_findBest 69 = .ok (.idiv, 1) := by decide +kernel
theorem dX12_findBest_70 : decode cX12_findBest 70 = .ok (.istore 6, 2) := by decide +kernel
theorem dX12_findBest_72 : decode cX12_findBest 72 = .ok (.iload 7, 2) := by decide +kernel
theorem dX12_findBest_74 : decode cX12_findBest 74 = .ok (.iconst 1, 1) := by decide +kernel
theorem dX12_findBest_75 : decode cX12_findBest 75 = .ok (.aload_n 0, 1) := by decide +kernel
theorem dX12_findBest_76 : decode cX12_findBest 76 = .ok (.getfield 58, 3) := by decide +kernel
theorem dX12_findBest_79 : decode cX12_findBest 79 = .ok (.iload 8, 2) := by decide +kernel
theorem dX12_findBest_81 : decode cX12_findBest 81 = .ok (.iaload, 1) := by decide +kernel
theorem dX12_findBest_82 : decode cX12_findBest 82 = .ok (.ishl, 1) := by decide +kernel
theorem dX12_findBest_83 : decode cX12_findBest 83 = .ok (.ior, 1) := by decide +kernel
theorem dX12_findBest_84 : decode cX12_findBest 84 = .ok (.istore 7, 2) := by decide +kernel
theorem dX12_findBest_86 : decode cX12_findBest 86 = .ok (.iinc 8 (-1), 3) := by decide +kernel
theorem dX12_findBest_89 : decode cX12_findBest 89 = .ok (.goto (-39), 3) := by decide +kernel
theorem dX12_findBest_92 : decode cX12_findBest 92 = .ok (.iload 7, 2) := by decide +kernel
theorem dX12_findBest_94 : decode cX12_findBest 94 = .ok (.iload_n 1, 1) := by decide +kernel
theorem dX12_findBest_95 : decode cX12_findBest 95 = .ok (.if_icmp .ne 109, 3) := by decide +kernel
theorem dX12_findBest_98 : decode cX12_findBest 98 = .ok (.iconst 0, 1) := by decide +kernel
theorem dX12_findBest_99 : decode cX12_findBest 99 = .ok (.istore 8, 2) := by decide +kernel
theorem dX12_findBest_101 : decode cX12_findBest 101 = .ok (.iconst 0, 1) := by decide +kernel
theorem dX12_findBest_102 : decode cX12_findBest 102 = .ok (.istore 9, 2) := by decide +kernel
theorem dX12_findBest_104 : decode cX12_findBest 104 = .ok (.iconst 0, 1) := by decide +kernel
theorem dX12_findBest_105 : decode cX12_findBest 105 = .ok (.istore 10, 2) := by decide +kernel
theorem dX12_findBest_107 : decode cX12_findBest 107 = .ok (.iload 10, 2) := by decide +kernel
theorem dX12_findBest_109 : decode cX12_findBest 109 = .ok (.iload_n 2, 1) := by decide +kernel
theorem dX12_findBest_110 : decode cX12_findBest 110 = .ok (.if_icmp .ge 71, 3) := by decide +kernel
theorem dX12_findBest_113 : decode cX12_findBest 113 = .ok (.iload 9, 2) := by decide +kernel
theorem dX12_findBest_115 : decode cX12_findBest 115 = .ok (.aload_n 0, 1) := by decide +kernel
theorem dX12_findBest_116 : decode cX12_findBest 116 = .ok (.getfield 71, 3) := by decide +kernel
theorem dX12_findBest_119 : decode cX12_findBest 119 = .ok (.iconst 5, 1) := by decide +kernel
theorem dX12_findBest_120 : decode cX12_findBest 120 = .ok (.iload 10, 2) := by decide +kernel
theorem dX12_findBest_122 : decode cX12_findBest 122 = .ok (.ifCond .ne 7, 3) := by decide +kernel
theorem dX12_findBest_125 : decode cX12_findBest 125 = .ok (.iconst 5, 1) := by decide +kernel
theorem dX12_findBest_126 : decode cX12_findBest 126 = .ok (.goto 12, 3) := by decide +kernel
theorem dX12_findBest_129 : decode cX12_findBest 129 = .ok (.aload_n 0, 1) := by decide +kernel
theorem dX12_findBest_130 : decode cX12_findBest 130 = .ok (.getfield 58, 3) := by decide +kernel
theorem dX12_findBest_133 : decode cX12_findBest 133 = .ok (.iload 10, 2) := by decide +kernel
theorem dX12_findBest_135 : decode cX12_findBest 135 = .ok (.iconst 1, 1) := by decide +kernel
theorem dX12_findBest_136 : decode cX12_findBest 136 = .ok (.isub, 1) := by decide +kernel
theorem dX12_findBest_137 : decode cX12_findBest 137 = .ok (.iaload, 1) := by decide +kernel
theorem dX12_findBest_138 : decode cX12_findBest 138 = .ok (.imul, 1) := by decide +kernel
theorem dX12_findBest_139 : decode cX12_findBest 139 = .ok (.aload_n 0, 1) := by decide +kernel
theorem dX12_findBest_140 : decode cX12_findBest 140 = .ok (.getfield 58, 3) := by decide +kernel
theorem dX12_findBest_143 : decode cX12_findBest 143 = .ok (.iload 10, 2) := by decide +kernel
theorem dX12_findBest_145 : decode cX12_findBest 145 = .ok (.iaload, 1) := by decide +kernel
theorem dX12_findBest_146 : decode cX12_findBest 146 = .ok (.iadd, 1) := by decide +kernel
theorem dX12_findBest_147 : decode cX12_findBest 147 = .ok (.iaload, 1) := by decide +kernel
theorem dX12_findBest_148 : decode cX12_findBest 148 = .ok (.iadd, 1) := by decide +kernel
theorem dX12_findBest_149 : decode cX12_findBest 149 = .ok (.istore 9, 2) := by decide +kernel
theorem dX12_findBest_151 : decode cX12_findBest 151 = .ok (.iload 8, 2) := by decide +kernel
theorem dX12_findBest_153 : decode cX12_findBest 153 = .ok (.iload 9, 2) := by decide +kernel
theorem dX12_findBest_155 : decode cX12_findBest 155 = .ok (.aload_n 0, 1) := by decide +kernel
theorem dX12_findBest_156 : decode cX12_findBest 156 = .ok (.getfield 68, 3) := by decide +kernel
theorem dX12_findBest_159 : decode cX12_findBest 159 = .ok (.iconst 2, 1) := by decide +kernel
theorem dX12_findBest_160 : decode cX12_findBest 160 = .ok (.aload_n 0, 1) := by decide +kernel
theorem dX12_findBest_161 : decode cX12_findBest 161 = .ok (.getfield 58, 3) := by decide +kernel
theorem dX12_findBest_164 : decode cX12_findBest 164 = .ok (.iload 10, 2) := by decide +kernel
theorem dX12_findBest_166 : decode cX12_findBest 166 = .ok (.iaload, 1) := by decide +kernel
theorem dX12_findBest_167 : decode cX12_findBest 167 = .ok (.imul, 1) := by decide +kernel
theorem dX12_findBest_168 : decode cX12_findBest 168 = .ok (.iconst 1, 1) := by decide +kernel
theorem dX12_findBest_169 : decode cX12_findBest 169 = .ok (.iadd, 1) := by decide +kernel
theorem dX12_findBest_170 : decode cX12_findBest 170 = .ok (.iaload, 1) := by decide +kernel
theorem dX12_findBest_171 : decode cX12_findBest 171 = .ok (.imul, 1) := by decide +kernel
theorem dX12_findBest_172 : decode cX12_findBest 172 = .ok (.iadd, 1) := by decide +kernel
theorem dX12_findBest_173 : decode cX12_findBest 173 = .ok (.istore 8, 2) := by decide +kernel
theorem dX12_findBest_175 : decode cX12_findBest 175 = .ok (.iinc 10 1, 3) := by decide +kernel
theorem dX12_findBest_178 : decode cX12_findBest 178 = .ok (.goto (-71), 3) := by decide +kernel
theorem dX12_findBest_181 : decode cX12_findBest 181 = .ok (.iload 4, 2) := by decide +kernel
theorem dX12_findBest_183 : decode cX12_findBest 183 = .ok (.iconst (-1), 1) := by decide +kernel
theorem dX12_findBest_184 : decode cX12_findBest 184 = .ok (.if_icmp .eq 10, 3) := by decide +kernel
theorem dX12_findBest_187 : decode cX12_findBest 187 = .ok (.iload 8, 2) := by decide +kernel
theorem dX12_findBest_189 : decode cX12_findBest 189 = .ok (.iload 4, 2) := by decide +kernel
theorem dX12_findBest_191 : decode cX12_findBest 191 = .ok (.if_icmp .ge 13, 3) := by decide +kernel
theorem dX12_findBest_194 : decode cX12_findBest 194 = .ok (.iload 8, 2) := by decide +kernel
theorem dX12_findBest_196 : decode cX12_findBest 196 = .ok (.istore 4, 2) := by decide +kernel
theorem dX12_findBest_198 : decode cX12_findBest 198 = .ok (.aload_n 0, 1) := by decide +kernel
theorem dX12_findBest_199 : decode cX12_findBest 199 = .ok (.iload 5, 2) := by decide +kernel
theorem dX12_findBest_201 : decode cX12_findBest 201 = .ok (.putfield 290, 3) := by decide +kernel
theorem dX12_findBest_204 : decode cX12_findBest 204 = .ok (.iinc 5 1, 3) := by decide +kernel
theorem dX12_findBest_207 : decode cX12_findBest 207 = .ok (.goto (-175), 3) := by decide +kernel
theorem dX12_findBest_210 : decode cX12_findBest 210 = .ok (.iload 4, 2) := by decide +kernel
theorem dX12_findBest_212 : decode cX12_findBest 212 = .ok (.ireturn, 1) := by decide +kernel
theorem dX12_seekOf_0 : decode cX12_seekOf 0 = .ok (.aload_n 0, 1) := by decide +kernel
theorem dX12_seekOf_1 : decode cX12_seekOf 1 = .ok (.iload_n 1, 1) := by decide +kernel
theorem dX12_seekOf_2 : decode cX12_seekOf 2 = .ok (.invokevirtual 293, 3) := by decide +kernel
theorem dX12_seekOf_5 : decode cX12_seekOf 5 = .ok (.ifCond .ne 9, 3) := by decide +kernel
theorem dX12_seekOf_8 : decode cX12_seekOf 8 = .ok (.bipush (-3), 2) := by decide +kernel
theorem dX12_seekOf_10 : decode cX12_seekOf 10 = .ok (.invokestatic 232, 3) := by decide +kernel
theorem dX12_seekOf_13 : decode cX12_seekOf 13 = .ok (.lreturn, 1) := by decide +kernel
theorem dX12_seekOf_14 : decode cX12_seekOf 14 = .ok (.aload_n 0, 1) := by decide +kernel
theorem dX12_seekOf_15 : decode cX12_seekOf 15 = .ok (.iconst 1, 1) := by decide +kernel
theorem dX12_seekOf_16 : decode cX12_seekOf 16 = .ok (.aload_n 0, 1) := by decide +kernel
theorem dX12_seekOf_17 : decode cX12_seekOf 17 = .ok (.getfield 287, 3) := by decide +kernel
theorem dX12_seekOf_20 : decode cX12_seekOf 20 = .ok (.ishl, 1) := by decide +kernel
theorem dX12_seekOf_21 : decode cX12_seekOf 21 = .ok (.iconst 1, 1) := by decide +kernel
theorem dX12_seekOf_22 : decode cX12_seekOf 22 = .ok (.isub, 1) := by decide +kernel
theorem dX12_seekOf_23 : decode cX12_seekOf 23 = .ok (.invokevirtual 296, 3) := by decide +kernel
theorem dX12_seekOf_26 : decode cX12_seekOf 26 = .ok (.istore_n 3, 1) := by decide +kernel
theorem dX12_seekOf_27 : decode cX12_seekOf 27 = .ok (.iload_n 2, 1) := by decide +kernel
theorem dX12_seekOf_28 : decode cX12_seekOf 28 = .ok (.ifCond .ge 17, 3) := by decide +kernel
theorem dX12_seekOf_31 : decode cX12_seekOf 31 = .ok (.iload_n 3, 1) := by decide +kernel
theorem dX12_seekOf_32 : decode cX12_seekOf 32 = .ok (.i2l, 1) := by decide +kernel
theorem dX12_seekOf_33 : decode cX12_seekOf 33 = .ok (.aload_n 0, 1) := by decide +kernel
theorem dX12_seekOf_34 : decode cX12_seekOf 34 = .ok (.invokevirtual 299, 3) := by decide +kernel
theorem dX12_seekOf_37 : decode cX12_seekOf 37 = .ok (.i2l, 1) := by decide +kernel
theorem dX12_seekOf_38 : decode cX12_seekOf 38 = .ok (.iload_n 2, 1) := by decide +kernel
theorem dX12_seekOf_39 : decode cX12_seekOf 39 = .ok (.iconst 2, 1) := by decide +kernel
theorem dX12_seekOf_40 : decode cX12_seekOf 40 = .ok (.iadd, 1) := by decide +kernel
theorem dX12_seekOf_41 : decode cX12_seekOf 41 = .ok (.invokestatic 222, 3) := by decide +kernel
theorem dX12_seekOf_44 : decode cX12_seekOf 44 = .ok (.lreturn, 1) := by decide +kernel
theorem dX12_seekOf_45 : decode cX12_seekOf 45 = .ok (.aload_n 0, 1) := by decide +kernel
theorem dX12_seekOf_46 : decode cX12_seekOf 46 = .ok (.getfield 290, 3) := by decide +kernel
theorem dX12_seekOf_49 : decode cX12_seekOf 49 = .ok (.istore 4, 2) := by decide +kernel
theorem dX12_seekOf_51 : decode cX12_seekOf 51 = .ok (.aload_n 0, 1) := by decide +kernel
theorem dX12_seekOf_52 : decode cX12_seekOf 52 = .ok (.getfield 287, 3) := by decide +kernel
theorem dX12_seekOf_55 : decode cX12_seekOf 55 = .ok (.iconst 1, 1) := by decide +kernel
theorem dX12_seekOf_56 : decode cX12_seekOf 56 = .ok (.isub, 1) := by decide +kernel
theorem dX12_seekOf_57 : decode cX12_seekOf 57 = .ok (.istore 5, 2) := by decide +kernel
theorem dX12_seekOf_59 : decode cX12_seekOf 59 = .ok (.iload 5, 2) := by decide +kernel
theorem dX12_seekOf_61 : decode cX12_seekOf 61 = .ok (.iload_n 2, 1) := by decide +kernel
theorem dX12_seekOf_62 : decode cX12_seekOf 62 = .ok (.if_icmp .le 15, 3) := by decide +kernel
theorem dX12_seekOf_65 : decode cX12_seekOf 65 = .ok (.iload 4, 2) := by decide +kernel
theorem dX12_seekOf_67 : decode cX12_seekOf 67 = .ok (.iconst 5, 1) := by decide +kernel
theorem dX12_seekOf_68 : decode cX12_seekOf 68 = .ok (.idiv, 1) := by decide +kernel
theorem dX12_seekOf_69 : decode cX12_seekOf 69 = .ok (.istore 4, 2) := by decide +kernel
theorem dX12_seekOf_71 : decode cX12_seekOf 71 = .ok (.iinc 5 (-1), 3) := by decide +kernel
theorem dX12_seekOf_74 : decode cX12_seekOf 74 = .ok (.goto (-15), 3) := by decide +kernel
theorem dX12_seekOf_77 : decode cX12_seekOf 77 = .ok (.iload_n 2, 1) := by decide +kernel
theorem dX12_seekOf_78 : decode cX12_seekOf 78 = .ok (.aload_n 0, 1) := by decide +kernel
theorem dX12_seekOf_79 : decode cX12_seekOf 79 = .ok (.getfield 287, 3) := by decide +kernel
theorem dX12_seekOf_82 : decode cX12_seekOf 82 = .ok (.if_icmp .ge 11, 3) := by decide +kernel
theorem dX12_seekOf_85 : decode cX12_seekOf 85 = .ok (.iload 4, 2) := by decide +kernel
theorem dX12_seekOf_87 : decode cX12_seekOf 87 = .ok (.iconst 5, 1) := by decide +kernel
theorem dX12_seekOf_88 : decode cX12_seekOf 88 = .ok (.irem, 1) := by decide +kernel
theorem dX12_seekOf_89 : decode cX12_seekOf 89 = .ok (.i2l, 1) := by decide +kernel
theorem dX12_seekOf_90 : decode cX12_seekOf 90 = .ok (.goto 6, 3) := by decide +kernel
theorem dX12_seekOf_93 : decode cX12_seekOf 93 = .ok (.ldc2_w 215, 3) := by decide +kernel
theorem dX12_seekOf_96 : decode cX12_seekOf 96 = .ok (.lreturn, 1) := by decide +kernel
theorem dX12_seek_0 : decode cX12_seek 0 = .ok (.aload_n 0, 1) := by decide +kernel
theorem dX12_seek_1 : decode cX12_seek 1 = .ok (.invokevirtual 175, 3) := by decide +kernel
theorem dX12_seek_4 : decode cX12_seek 4 = .ok (.iload_n 1, 1) := by decide +kernel
theorem dX12_seek_5 : decode cX12_seek 5 = .ok (.invokestatic 162, 3) := by decide +kernel
theorem dX12_seek_8 : decode cX12_seek 8 = .ok (.ifCond .eq 26, 3) := by decide +kernel
theorem dX12_seek_11 : decode cX12_seek 11 = .ok (.iload_n 2, 1) := by decide +kernel
theorem dX12_seek_12 : decode cX12_seek 12 = .ok (.i2l, 1) := by decide +kernel
theorem dX12_seek_13 : decode cX12_seek 13 = .ok (.ldc2_w 302, 3) := by decide +kernel
theorem dX12_seek_16 : decode cX12_seek 16 = .ok (.ldc2_w 135, 3) := by decide +kernel
theorem dX12_seek_19 : decode cX12_seek 19 = .ok (.invokestatic 82, 3) := by decide +kernel
theorem dX12_seek_22 : decode cX12_seek 22 = .ok (.ifCond .eq 12, 3) := by decide +kernel
theorem dX12_seek_25 : decode cX12_seek 25 = .ok (.aload_n 0, 1) := by decide +kernel
theorem dX12_seek_26 : decode cX12_seek 26 = .ok (.iload_n 1, 1) := by decide +kernel
theorem dX12_seek_27 : decode cX12_seek 27 = .ok (.iload_n 2, 1) := by decide +kernel
theorem dX12_seek_28 : decode cX12_seek 28 = .ok (.invokevirtual 304, 3) := by decide +kernel
theorem dX12_seek_31 : decode cX12_seek 31 = .ok (.goto 8, 3) := by decide +kernel
theorem dX12_seek_34 : decode cX12_seek 34 = .ok (.bipush (-2), 2) := by decide +kernel
theorem dX12_seek_36 : decode cX12_seek 36 = .ok (.invokestatic 232, 3) := by decide +kernel
theorem dX12_seek_39 : decode cX12_seek 39 = .ok (.lreturn, 1) := by decide +kernel
theorem dX12_partedOf_0 : decode cX12_partedOf 0 = .ok (.aload_n 0, 1) := by decide +kernel
theorem dX12_partedOf_1 : decode cX12_partedOf 1 = .ok (.iload_n 2, 1) := by decide +kernel
theorem dX12_partedOf_2 : decode cX12_partedOf 2 = .ok (.invokevirtual 293, 3) := by decide +kernel
theorem dX12_partedOf_5 : decode cX12_partedOf 5 = .ok (.ifCond .eq 11, 3) := by decide +kernel
theorem dX12_partedOf_8 : decode cX12_partedOf 8 = .ok (.aload_n 0, 1) := by decide +kernel
theorem dX12_partedOf_9 : decode cX12_partedOf 9 = .ok (.iload_n 1, 1) := by decide +kernel
theorem dX12_partedOf_10 : decode cX12_partedOf 10 = .ok (.invokevirtual 293, 3) := by decide +kernel
theorem dX12_partedOf_13 : decode cX12_partedOf 13 = .ok (.ifCond .ne 9, 3) := by decide +kernel
theorem dX12_partedOf_16 : decode cX12_partedOf 16 = .ok (.bipush (-3), 2) := by decide +kernel
theorem dX12_partedOf_18 : decode cX12_partedOf 18 = .ok (.invokestatic 232, 3) := by decide +kernel
theorem dX12_partedOf_21 : decode cX12_partedOf 21 = .ok (.lreturn, 1) := by decide +kernel
theorem dX12_partedOf_22 : decode cX12_partedOf 22 = .ok (.iconst 1, 1) := by decide +kernel
theorem dX12_partedOf_23 : decode cX12_partedOf 23 = .ok (.aload_n 0, 1) := by decide +kernel
theorem dX12_partedOf_24 : decode cX12_partedOf 24 = .ok (.getfield 287, 3) := by decide +kernel
theorem dX12_partedOf_27 : decode cX12_partedOf 27 = .ok (.ishl, 1) := by decide +kernel
theorem dX12_partedOf_28 : decode cX12_partedOf 28 = .ok (.iconst 1, 1) := by decide +kernel
theorem dX12_partedOf_29 : decode cX12_partedOf 29 = .ok (.isub, 1) := by decide +kernel
theorem dX12_partedOf_30 : decode cX12_partedOf 30 = .ok (.istore 4, 2) := by decide +kernel
theorem dX12_partedOf_32 : decode cX12_partedOf 32 = .ok (.iconst 0, 1) := by decide +kernel
theorem dX12_partedOf_33 : decode cX12_partedOf 33 = .ok (.istore 5, 2) := by decide +kernel
theorem dX12_partedOf_35 : decode cX12_partedOf 35 = .ok (.iload 5, 2) := by decide +kernel
theorem dX12_partedOf_37 : decode cX12_partedOf 37 = .ok (.iload 4, 2) := by decide +kernel
theorem dX12_partedOf_39 : decode cX12_partedOf 39 = .ok (.if_icmp .gt 22, 3) := by decide +kernel
theorem dX12_partedOf_42 : decode cX12_partedOf 42 = .ok (.aload_n 0, 1) := by decide +kernel
theorem dX12_partedOf_43 : decode cX12_partedOf 43 = .ok (.getfield 77, 3) := by decide +kernel
theorem dX12_partedOf_46 : decode cX12_partedOf 46 = .ok (.iload 5, 2) := by decide +kernel
theorem dX12_partedOf_48 : decode cX12_partedOf 48 = .ok (.aload_n 0, 1) := by decide +kernel
theorem dX12_partedOf_49 : decode cX12_partedOf 49 = .ok (.iload 5, 2) := by decide +kernel
theorem dX12_partedOf_51 : decode cX12_partedOf 51 = .ok (.invokevirtual 296, 3) := by decide +kernel
theorem dX12_partedOf_54 : decode cX12_partedOf 54 = .ok (.iastore, 1) := by decide +kernel
theorem dX12_partedOf_55 : decode cX12_partedOf 55 = .ok (.iinc 5 1, 3) := by decide +kernel
theorem dX12_partedOf_58 : decode cX12_partedOf 58 = .ok (.goto (-23), 3) := by decide +kernel
theorem dX12_partedOf_61 : decode cX12_partedOf 61 = .ok (.aload_n 0, 1) := by decide +kernel
theorem dX12_partedOf_62 : decode cX12_partedOf 62 = .ok (.iload_n 2, 1) := by decide +kernel
theorem dX12_partedOf_63 : decode cX12_partedOf 63 = .ok (.invokevirtual 293, 3) := by decide +kernel
theorem dX12_partedOf_66 : decode cX12_partedOf 66 = .ok (.pop, 1) := by decide +kernel
theorem dX12_partedOf_67 : decode cX12_partedOf 67 = .ok (.iconst (-1), 1) := by decide +kernel
theorem dX12_partedOf_68 : decode cX12_partedOf 68 = .ok (.istore 5, 2) := by decide +kernel
theorem dX12_partedOf_70 : decode cX12_partedOf 70 = .ok (.iconst 0, 1) := by decide +kernel
theorem dX12_partedOf_71 : decode cX12_partedOf 71 = .ok (.istore 6, 2) := by decide +kernel
theorem dX12_partedOf_73 : decode cX12_partedOf 73 = .ok (.iconst 0, 1) := by decide +kernel
theorem dX12_partedOf_74 : decode cX12_partedOf 74 = .ok (.istore 7, 2) := by decide +kernel
theorem dX12_partedOf_76 : decode cX12_partedOf 76 = .ok (.iload 7, 2) := by decide +kernel
theorem dX12_partedOf_78 : decode cX12_partedOf 78 = .ok (.iload 4, 2) := by decide +kernel
theorem dX12_partedOf_80 : decode cX12_partedOf 80 = .ok (.if_icmp .gt 51, 3) := by decide +kernel
theorem dX12_partedOf_83 : decode cX12_partedOf 83 = .ok (.aload_n 0, 1) := by decide +kernel
theorem dX12_partedOf_84 : decode cX12_partedOf 84 = .ok (.getfield 77, 3) := by decide +kernel
theorem dX12_partedOf_87 : decode cX12_partedOf 87 = .ok (.iload 7, 2) := by decide +kernel
theorem dX12_partedOf_89 : decode cX12_partedOf 89 = .ok (.iaload, 1) := by decide +kernel
theorem dX12_partedOf_90 : decode cX12_partedOf 90 = .ok (.aload_n 0, 1) := by decide +kernel
theorem dX12_partedOf_91 : decode cX12_partedOf 91 = .ok (.iload 4, 2) := by decide +kernel
theorem dX12_partedOf_93 : decode cX12_partedOf 93 = .ok (.iload 7, 2) := by decide +kernel
theorem dX12_partedOf_95 : decode cX12_partedOf 95 = .ok (.iconst (-1), 1) := by decide +kernel
theorem dX12_partedOf_96 : decode cX12_partedOf 96 = .ok (.ixor, 1) := by decide +kernel
theorem dX12_partedOf_97 : decode cX12_partedOf 97 = .ok (.iand, 1) := by decide +kernel
theorem dX12_partedOf_98 : decode cX12_partedOf 98 = .ok (.invokevirtual 296, 3) := by decide +kernel
theorem dX12_partedOf_101 : decode cX12_partedOf 101 = .ok (.iadd, 1) := by decide +kernel
theorem dX12_partedOf_102 : decode cX12_partedOf 102 = .ok (.istore 8, 2) := by decide +kernel
theorem dX12_partedOf_104 : decode cX12_partedOf 104 = .ok (.iload 5, 2) := by decide +kernel
theorem dX12_partedOf_106 : decode cX12_partedOf 106 = .ok (.iconst (-1), 1) := by decide +kernel
theorem dX12_partedOf_107 : decode cX12_partedOf 107 = .ok (.if_icmp .eq 10, 3) := by decide +kernel
theorem dX12_partedOf_110 : decode cX12_partedOf 110 = .ok (.iload 8, 2) := by decide +kernel
theorem dX12_partedOf_112 : decode cX12_partedOf 112 = .ok (.iload 6, 2) := by decide +kernel
theorem dX12_partedOf_114 : decode cX12_partedOf 114 = .ok (.if_icmp .ge 11, 3) := by decide +kernel
theorem dX12_partedOf_117 : decode cX12_partedOf 117 = .ok (.iload 7, 2) := by decide +kernel
theorem dX12_partedOf_119 : decode cX12_partedOf 119 = .ok (.istore 5, 2) := by decide +kernel
theorem dX12_partedOf_121 : decode cX12_partedOf 121 = .ok (.iload 8, 2) := by decide +kernel
theorem dX12_partedOf_123 : decode cX12_partedOf 123 = .ok (.istore 6, 2) := by decide +kernel
theorem dX12_partedOf_125 : decode cX12_partedOf 125 = .ok (.iinc 7 1, 3) := by decide +kernel
theorem dX12_partedOf_128 : decode cX12_partedOf 128 = .ok (.goto (-52), 3) := by decide +kernel
theorem dX12_partedOf_131 : decode cX12_partedOf 131 = .ok (.iload_n 3, 1) := by decide +kernel
theorem dX12_partedOf_132 : decode cX12_partedOf 132 = .ok (.iconst 2, 1) := by decide +kernel
theorem dX12_partedOf_133 : decode cX12_partedOf 133 = .ok (.if_icmp .ne 9, 3) := by decide +kernel
theorem dX12_partedOf_136 : decode cX12_partedOf 136 = .ok (.iload 5, 2) := by decide +kernel
theorem dX12_partedOf_138 : decode cX12_partedOf 138 = .ok (.i2l, 1) := by decide +kernel
theorem dX12_partedOf_139 : decode cX12_partedOf 139 = .ok (.goto 15, 3) := by decide +kernel
theorem dX12_partedOf_142 : decode cX12_partedOf 142 = .ok (.iload 6, 2) := by decide +kernel
theorem dX12_partedOf_144 : decode cX12_partedOf 144 = .ok (.i2l, 1) := by decide +kernel
theorem dX12_partedOf_145 : decode cX12_partedOf 145 = .ok (.aload_n 0, 1) := by decide +kernel
theorem dX12_partedOf_146 : decode cX12_partedOf 146 = .ok (.invokevirtual 299, 3) := by decide +kernel
theorem dX12_partedOf_149 : decode cX12_partedOf 149 = .ok (.i2l, 1) := by decide +kernel
theorem dX12_partedOf_150 : decode cX12_partedOf 150 = .ok (.iload_n 3, 1) := by decide +kernel
theorem dX12_partedOf_151 : decode cX12_partedOf 151 = .ok (.invokestatic 222, 3) := by decide +kernel
theorem dX12_partedOf_154 : decode cX12_partedOf 154 = .ok (.lreturn, 1) := by decide +kernel
theorem dX12_parted_0 : decode cX12_parted 0 = .ok (.aload_n 0, 1) := by decide +kernel
theorem dX12_parted_1 : decode cX12_parted 1 = .ok (.invokevirtual 175, 3) := by decide +kernel
theorem dX12_parted_4 : decode cX12_parted 4 = .ok (.iload_n 1, 1) := by decide +kernel
theorem dX12_parted_5 : decode cX12_parted 5 = .ok (.invokestatic 162, 3) := by decide +kernel
theorem dX12_parted_8 : decode cX12_parted 8 = .ok (.ifCond .eq 37, 3) := by decide +kernel
theorem dX12_parted_11 : decode cX12_parted 11 = .ok (.iload_n 2, 1) := by decide +kernel
theorem dX12_parted_12 : decode cX12_parted 12 = .ok (.invokestatic 162, 3) := by decide +kernel
theorem dX12_parted_15 : decode cX12_parted 15 = .ok (.ifCond .eq 30, 3) := by decide +kernel
theorem dX12_parted_18 : decode cX12_parted 18 = .ok (.iload_n 1, 1) := by decide +kernel
theorem dX12_parted_19 : decode cX12_parted 19 = .ok (.iload_n 2, 1) := by decide +kernel
theorem dX12_parted_20 : decode cX12_parted 20 = .ok (.if_icmp .eq 25, 3) := by decide +kernel
theorem dX12_parted_23 : decode cX12_parted 23 = .ok (.iload_n 3, 1) := by decide +kernel
theorem dX12_parted_24 : decode cX12_parted 24 = .ok (.i2l, 1) := by decide +kernel
theorem dX12_parted_25 : decode cX12_parted 25 = .ok (.lconst 0, 1) := by decide +kernel
theorem dX12_parted_26 : decode cX12_parted 26 = .ok (.ldc2_w 96, 3) := by decide +kernel
theorem dX12_parted_29 : decode cX12_parted 29 = .ok (.invokestatic 82, 3) := by decide +kernel
theorem dX12_parted_32 : decode cX12_parted 32 = .ok (.ifCond .eq 13, 3) := by decide +kernel
theorem dX12_parted_35 : decode cX12_parted 35 = .ok (.aload_n 0, 1) := by decide +kernel
theorem dX12_parted_36 : decode cX12_parted 36 = .ok (.iload_n 1, 1) := by decide +kernel
theorem dX12_parted_37 : decode cX12_parted 37 = .ok (.iload_n 2, 1) := by decide +kernel
theorem dX12_parted_38 : decode cX12_parted 38 = .ok (.iload_n 3, 1) := by decide +kernel
theorem dX12_parted_39 : decode cX12_parted 39 = .ok (.invokevirtual 307, 3) := by decide +kernel
theorem dX12_parted_42 : decode cX12_parted 42 = .ok (.goto 8, 3) := by decide +kernel
theorem dX12_parted_45 : decode cX12_parted 45 = .ok (.bipush (-2), 2) := by decide +kernel
theorem dX12_parted_47 : decode cX12_parted 47 = .ok (.invokestatic 232, 3) := by decide +kernel
theorem dX12_parted_50 : decode cX12_parted 50 = .ok (.lreturn, 1) := by decide +kernel
theorem dX12_meetOf_0 : decode cX12_meetOf 0 = .ok (.iconst (-1), 1) := by decide +kernel
theorem dX12_meetOf_1 : decode cX12_meetOf 1 = .ok (.istore_n 3, 1) := by decide +kernel
theorem dX12_meetOf_2 : decode cX12_meetOf 2 = .ok (.ldc 187, 2) := by decide +kernel
theorem dX12_meetOf_4 : decode cX12_meetOf 4 = .ok (.istore 4, 2) := by decide +kernel
theorem dX12_meetOf_6 : decode cX12_meetOf 6 = .ok (.iconst 0, 1) := by decide +kernel
theorem dX12_meetOf_7 : decode cX12_meetOf 7 = .ok (.istore 5, 2) := by decide +kernel
theorem dX12_meetOf_9 : decode cX12_meetOf 9 = .ok (.iload 5, 2) := by decide +kernel
theorem dX12_meetOf_11 : decode cX12_meetOf 11 = .ok (.bipush 64, 2) := by decide +kernel
theorem dX12_meetOf_13 : decode cX12_meetOf 13 = .ok (.if_icmp .ge 138, 3) := by decide +kernel
theorem dX12_meetOf_16 : decode cX12_meetOf 16 = .ok (.aload_n 0, 1) := by decide +kernel
theorem dX12_meetOf_17 : decode cX12_meetOf 17 = .ok (.getfield 28, 3) := by decide +kernel
theorem dX12_meetOf_20 : decode cX12_meetOf 20 = .ok (.iload 5, 2) := by decide +kernel
theorem dX12_meetOf_22 : decode cX12_meetOf 22 = .ok (.iaload, 1) := by decide +kernel
theorem dX12_meetOf_23 : decode cX12_meetOf 23 = .ok (.bipush 99, 2) := by decide +kernel
theorem dX12_meetOf_25 : decode cX12_meetOf 25 = .ok (.if_icmp .eq 120, 3) := by decide +kernel
theorem dX12_meetOf_28 : decode cX12_meetOf 28 = .ok (.aload_n 0, 1) := by decide +kernel
theorem dX12_meetOf_29 : decode cX12_meetOf 29 = .ok (.iload 5, 2) := by decide +kernel
theorem dX12_meetOf_31 : decode cX12_meetOf 31 = .ok (.iconst 0, 1) := by decide +kernel
theorem dX12_meetOf_32 : decode cX12_meetOf 32 = .ok (.invokevirtual 188, 3) := by decide +kernel
theorem dX12_meetOf_35 : decode cX12_meetOf 35 = .ok (.iconst 0, 1) := by decide +kernel
theorem dX12_meetOf_36 : decode cX12_meetOf 36 = .ok (.istore 6, 2) := by decide +kernel
theorem dX12_meetOf_38 : decode cX12_meetOf 38 = .ok (.iconst 0, 1) := by decide +kernel
theorem dX12_meetOf_39 : decode cX12_meetOf 39 = .ok (.istore 7, 2) := by decide +kernel
theorem dX12_meetOf_41 : decode cX12_meetOf 41 = .ok (.iload 7, 2) := by decide +kernel
theorem dX12_meetOf_43 : decode cX12_meetOf 43 = .ok (.iconst 5, 1) := by decide +kernel
theorem dX12_meetOf_44 : decode cX12_meetOf 44 = .ok (.if_icmp .ge 71, 3) := by decide +kernel
theorem dX12_meetOf_47 : decode cX12_meetOf 47 = .ok (.iload_n 1, 1) := by decide +kernel
theorem dX12_meetOf_48 : decode cX12_meetOf 48 = .ok (.iload 7, 2) := by decide +kernel
theorem dX12_meetOf_50 : decode cX12_meetOf 50 = .ok (.invokestatic 137, 3) := by decide +kernel
theorem dX12_meetOf_53 : decode cX12_meetOf 53 = .ok (.ifCond .ne 7, 3) := by decide +kernel
theorem dX12_meetOf_56 : decode cX12_meetOf 56 = .ok (.iconst 0, 1) := by decide +kernel
theorem dX12_meetOf_57 : decode cX12_meetOf 57 = .ok (.goto 34, 3) := by decide +kernel
theorem dX12_meetOf_60 : decode cX12_meetOf 60 = .ok (.aload_n 0, 1) := by decide +kernel
theorem dX12_meetOf_61 : decode cX12_meetOf 61 = .ok (.aload_n 0, 1) := by decide +kernel
theorem dX12_meetOf_62 : decode cX12_meetOf 62 = .ok (.getfield 46, 3) := by decide +kernel
theorem dX12_meetOf_65 : decode cX12_meetOf 65 = .ok (.iload 7, 2) := by decide +kernel
theorem dX12_meetOf_67 : decode cX12_meetOf 67 = .ok (.iaload, 1) := by decide +kernel
theorem dX12_meetOf_68 : decode cX12_meetOf 68 = .ok (.invokevirtual 178, 3) := by decide +kernel
theorem dX12_meetOf_71 : decode cX12_meetOf 71 = .ok (.ifCond .eq 18, 3) := by decide +kernel
theorem dX12_meetOf_74 : decode cX12_meetOf 74 = .ok (.aload_n 0, 1) := by decide +kernel
theorem dX12_meetOf_75 : decode cX12_meetOf 75 = .ok (.getfield 52, 3) := by decide +kernel
theorem dX12_meetOf_78 : decode cX12_meetOf 78 = .ok (.aload_n 0, 1) := by decide +kernel
theorem dX12_meetOf_79 : decode cX12_meetOf 79 = .ok (.getfield 46, 3) := by decide +kernel
theorem dX12_meetOf_82 : decode cX12_meetOf 82 = .ok (.iload 7, 2) := by decide +kernel
theorem dX12_meetOf_84 : decode cX12_meetOf 84 = .ok (.iaload, 1) := by decide +kernel
theorem dX12_meetOf_85 : decode cX12_meetOf 85 = .ok (.iaload, 1) := by decide +kernel
theorem dX12_meetOf_86 : decode cX12_meetOf 86 = .ok (.goto 5, 3) := by decide +kernel
theorem dX12_meetOf_89 : decode cX12_meetOf 89 = .ok (.ldc 187, 2) := by decide +kernel
theorem dX12_meetOf_91 : decode cX12_meetOf 91 = .ok (.istore 8, 2) := by decide +kernel
theorem dX12_meetOf_93 : decode cX12_meetOf 93 = .ok (.iload 8, 2) := by decide +kernel
theorem dX12_meetOf_95 : decode cX12_meetOf 95 = .ok (.iload 6, 2) := by decide +kernel
theorem dX12_meetOf_97 : decode cX12_meetOf 97 = .ok (.if_icmp .le 8, 3) := by decide +kernel
theorem dX12_meetOf_100 : decode cX12_meetOf 100 = .ok (.iload 8, 2) := by decide +kernel
theorem dX12_meetOf_102 : decode cX12_meetOf 102 = .ok (.goto 5, 3) := by decide +kernel
theorem dX12_meetOf_105 : decode cX12_meetOf 105 = .ok (.iload 6, 2) := by decide +kernel
theorem dX12_meetOf_107 : decode cX12_meetOf 107 = .ok (.istore 6, 2) := by decide +kernel
theorem dX12_meetOf_109 : decode cX12_meetOf 109 = .ok (.iinc 7 1, 3) := by decide +kernel
theorem dX12_meetOf_112 : decode cX12_meetOf 112 = .ok (.goto (-71), 3) := by decide +kernel
theorem dX12_meetOf_115 : decode cX12_meetOf 115 = .ok (.iload 6, 2) := by decide +kernel
theorem dX12_meetOf_117 : decode cX12_meetOf 117 = .ok (.iload 4, 2) := by decide +kernel
theorem dX12_meetOf_119 : decode cX12_meetOf 119 = .ok (.if_icmp .ge 8, 3) := by decide +kernel
theorem dX12_meetOf_122 : decode cX12_meetOf 122 = .ok (.iload 5, 2) := by decide +kernel
theorem dX12_meetOf_124 : decode cX12_meetOf 124 = .ok (.goto 4, 3) := by decide +kernel
theorem dX12_meetOf_127 : decode cX12_meetOf 127 = .ok (.iload_n 3, 1) := by decide +kernel
theorem dX12_meetOf_128 : decode cX12_meetOf 128 = .ok (.istore_n 3, 1) := by decide +kernel
theorem dX12_meetOf_129 : decode cX12_meetOf 129 = .ok (.iload 6, 2) := by decide +kernel
theorem dX12_meetOf_131 : decode cX12_meetOf 131 = .ok (.iload 4, 2) := by decide +kernel
theorem dX12_meetOf_133 : decode cX12_meetOf 133 = .ok (.if_icmp .ge 8, 3) := by decide +kernel
theorem dX12_meetOf_136 : decode cX12_meetOf 136 = .ok (.iload 6, 2) := by decide +kernel
theorem dX12_meetOf_138 : decode cX12_meetOf 138 = .ok (.goto 5, 3) := by decide +kernel
theorem dX12_meetOf_141 : decode cX12_meetOf 141 = .ok (.iload 4, 2) := by decide +kernel
theorem dX12_meetOf_143 : decode cX12_meetOf 143 = .ok (.istore 4, 2) := by decide +kernel
theorem dX12_meetOf_145 : decode cX12_meetOf 145 = .ok (.iinc 5 1, 3) := by decide +kernel
theorem dX12_meetOf_148 : decode cX12_meetOf 148 = .ok (.goto (-139), 3) := by decide +kernel
theorem dX12_meetOf_151 : decode cX12_meetOf 151 = .ok (.iload_n 2, 1) := by decide +kernel
theorem dX12_meetOf_152 : decode cX12_meetOf 152 = .ok (.ifCond .eq 8, 3) := by decide +kernel
theorem dX12_meetOf_155 : decode cX12_meetOf 155 = .ok (.iload_n 3, 1) := by decide +kernel
theorem dX12_meetOf_156 : decode cX12_meetOf 156 = .ok (.iconst (-1), 1) := by decide +kernel
theorem dX12_meetOf_157 : decode cX12_meetOf 157 = .ok (.if_icmp .ne 7, 3) := by decide +kernel
theorem dX12_meetOf_160 : decode cX12_meetOf 160 = .ok (.iload_n 3, 1) := by decide +kernel
theorem dX12_meetOf_161 : decode cX12_meetOf 161 = .ok (.goto 5, 3) := by decide +kernel
theorem dX12_meetOf_164 : decode cX12_meetOf 164 = .ok (.iload 4, 2) := by decide +kernel
theorem dX12_meetOf_166 : decode cX12_meetOf 166 = .ok (.ireturn, 1) := by decide +kernel
theorem dX12_meet_0 : decode cX12_meet 0 = .ok (.aload_n 0, 1) := by decide +kernel
theorem dX12_meet_1 : decode cX12_meet 1 = .ok (.invokevirtual 175, 3) := by decide +kernel
theorem dX12_meet_4 : decode cX12_meet 4 = .ok (.iload_n 1, 1) := by decide +kernel
theorem dX12_meet_5 : decode cX12_meet 5 = .ok (.i2l, 1) := by decide +kernel
theorem dX12_meet_6 : decode cX12_meet 6 = .ok (.lconst 1, 1) := by decide +kernel
theorem dX12_meet_7 : decode cX12_meet 7 = .ok (.ldc2_w 213, 3) := by decide +kernel
theorem dX12_meet_10 : decode cX12_meet 10 = .ok (.invokestatic 82, 3) := by decide +kernel
theorem dX12_meet_13 : decode cX12_meet 13 = .ok (.ifCond .eq 19, 3) := by decide +kernel
theorem dX12_meet_16 : decode cX12_meet 16 = .ok (.iload_n 2, 1) := by decide +kernel
theorem dX12_meet_17 : decode cX12_meet 17 = .ok (.invokestatic 167, 3) := by decide +kernel
theorem dX12_meet_20 : decode cX12_meet 20 = .ok (.ifCond .eq 12, 3) := by decide +kernel
theorem dX12_meet_23 : decode cX12_meet 23 = .ok (.aload_n 0, 1) := by decide +kernel
theorem dX12_meet_24 : decode cX12_meet 24 = .ok (.iload_n 1, 1) := by decide +kernel
theorem dX12_meet_25 : decode cX12_meet 25 = .ok (.iload_n 2, 1) := by decide +kernel
theorem dX12_meet_26 : decode cX12_meet 26 = .ok (.invokevirtual 311, 3) := by decide +kernel
theorem dX12_meet_29 : decode cX12_meet 29 = .ok (.goto 5, 3) := by decide +kernel
theorem dX12_meet_32 : decode cX12_meet 32 = .ok (.bipush (-2), 2) := by decide +kernel
theorem dX12_meet_34 : decode cX12_meet 34 = .ok (.ireturn, 1) := by decide +kernel
theorem dX12_countsOf_0 : decode cX12_countsOf 0 = .ok (.iconst 1, 1) := by decide +kernel
theorem dX12_countsOf_1 : decode cX12_countsOf 1 = .ok (.istore_n 3, 1) := by decide +kernel
theorem dX12_countsOf_2 : decode cX12_countsOf 2 = .ok (.iconst 0, 1) := by decide +kernel
theorem dX12_countsOf_3 : decode cX12_countsOf 3 = .ok (.istore 4, 2) := by decide +kernel
theorem dX12_countsOf_5 : decode cX12_countsOf 5 = .ok (.iconst 1, 1) := by decide +kernel
theorem dX12_countsOf_6 : decode cX12_countsOf 6 = .ok (.istore 5, 2) := by decide +kernel
theorem dX12_countsOf_8 : decode cX12_countsOf 8 = .ok (.iload 5, 2) := by decide +kernel
theorem dX12_countsOf_10 : decode cX12_countsOf 10 = .ok (.bipush 61, 2) := by decide +kernel
theorem dX12_countsOf_12 : decode cX12_countsOf 12 = .ok (.if_icmp .ge 64, 3) := by decide +kernel
theorem dX12_countsOf_15 : decode cX12_countsOf 15 = .ok (.iload_n 1, 1) := by decide +kernel
theorem dX12_countsOf_16 : decode cX12_countsOf 16 = .ok (.iload_n 0, 1) := by decide +kernel
theorem dX12_countsOf_17 : decode cX12_countsOf 17 = .ok (.iload 5, 2) := by decide +kernel
theorem dX12_countsOf_19 : decode cX12_countsOf 19 = .ok (.iadd, 1) := by decide +kernel
theorem dX12_countsOf_20 : decode cX12_countsOf 20 = .ok (.iconst 1, 1) := by decide +kernel
theorem dX12_countsOf_21 : decode cX12_countsOf 21 = .ok (.isub, 1) := by decide +kernel
theorem dX12_countsOf_22 : decode cX12_countsOf 22 = .ok (.iload 5, 2) := by decide +kernel
theorem dX12_countsOf_24 : decode cX12_countsOf 24 = .ok (.idiv, 1) := by decide +kernel
theorem dX12_countsOf_25 : decode cX12_countsOf 25 = .ok (.imul, 1) := by decide +kernel
theorem dX12_countsOf_26 : decode cX12_countsOf 26 = .ok (.iload_n 2, 1) := by decide +kernel
theorem dX12_countsOf_27 : decode cX12_countsOf 27 = .ok (.iload 5, 2) := by decide +kernel
theorem dX12_countsOf_29 : decode cX12_countsOf 29 = .ok (.iconst 1, 1) := by decide +kernel
theorem dX12_countsOf_30 : decode cX12_countsOf 30 = .ok (.isub, 1) := by decide +kernel
theorem dX12_countsOf_31 : decode cX12_countsOf 31 = .ok (.imul, 1) := by decide +kernel
theorem dX12_countsOf_32 : decode cX12_countsOf 32 = .ok (.iadd, 1) := by decide +kernel
theorem dX12_countsOf_33 : decode cX12_countsOf 33 = .ok (.istore 6, 2) := by decide +kernel
theorem dX12_countsOf_35 : decode cX12_countsOf 35 = .ok (.iload 5, 2) := by decide +kernel
theorem dX12_countsOf_37 : decode cX12_countsOf 37 = .ok (.iconst 1, 1) := by decide +kernel
theorem dX12_countsOf_38 : decode cX12_countsOf 38 = .ok (.if_icmp .eq 10, 3) := by decide +kernel
theorem dX12_countsOf_41 : decode cX12_countsOf 41 = .ok (.iload 6, 2) := by decide +kernel
theorem dX12_countsOf_43 : decode cX12_countsOf 43 = .ok (.iload 4, 2) := by decide +kernel
theorem dX12_countsOf_45 : decode cX12_countsOf 45 = .ok (.if_icmp .ge 8, 3) := by decide +kernel
theorem dX12_countsOf_48 : decode cX12_countsOf 48 = .ok (.iload 5, 2) := by decide +kernel
theorem dX12_countsOf_50 : decode cX12_countsOf 50 = .ok (.goto 4, 3) := by decide +kernel
theorem dX12_countsOf_53 : decode cX12_countsOf 53 = .ok (.iload_n 3, 1) := by decide +kernel
theorem dX12_countsOf_54 : decode cX12_countsOf 54 = .ok (.istore_n 3, 1) := by decide +kernel
theorem dX12_countsOf_55 : decode cX12_countsOf 55 = .ok (.iload_n 3, 1) := by decide +kernel
theorem dX12_countsOf_56 : decode cX12_countsOf 56 = .ok (.iload 5, 2) := by decide +kernel
theorem dX12_countsOf_58 : decode cX12_countsOf 58 = .ok (.if_icmp .ne 8, 3) := by decide +kernel
theorem dX12_countsOf_61 : decode cX12_countsOf 61 = .ok (.iload 6, 2) := by decide +kernel
theorem dX12_countsOf_63 : decode cX12_countsOf 63 = .ok (.goto 5, 3) := by decide +kernel
theorem dX12_countsOf_66 : decode cX12_countsOf 66 = .ok (.iload 4, 2) := by decide +kernel
theorem dX12_countsOf_68 : decode cX12_countsOf 68 = .ok (.istore 4, 2) := by decide +kernel
theorem dX12_countsOf_70 : decode cX12_countsOf 70 = .ok (.iinc 5 1, 3) := by decide +kernel
theorem dX12_countsOf_73 : decode cX12_countsOf 73 = .ok (.goto (-65), 3) := by decide +kernel
theorem dX12_countsOf_76 : decode cX12_countsOf 76 = .ok (.iload_n 3, 1) := by decide +kernel
theorem dX12_countsOf_77 : decode cX12_countsOf 77 = .ok (.ireturn, 1) := by decide +kernel
theorem dX12_counts_0 : decode cX12_counts 0 = .ok (.iload_n 1, 1) := by decide +kernel
theorem dX12_counts_1 : decode cX12_counts 1 = .ok (.i2l, 1) := by decide +kernel
theorem dX12_counts_2 : decode cX12_counts 2 = .ok (.lconst 1, 1) := by decide +kernel
theorem dX12_counts_3 : decode cX12_counts 3 = .ok (.ldc2_w 314, 3) := by decide +kernel
theorem dX12_counts_6 : decode cX12_counts 6 = .ok (.invokestatic 82, 3) := by decide +kernel
theorem dX12_counts_9 : decode cX12_counts 9 = .ok (.ifCond .eq 36, 3) := by decide +kernel
theorem dX12_counts_12 : decode cX12_counts 12 = .ok (.iload_n 2, 1) := by decide +kernel
theorem dX12_counts_13 : decode cX12_counts 13 = .ok (.i2l, 1) := by decide +kernel
theorem dX12_counts_14 : decode cX12_counts 14 = .ok (.lconst 0, 1) := by decide +kernel
theorem dX12_counts_15 : decode cX12_counts 15 = .ok (.ldc2_w 314, 3) := by decide +kernel
theorem dX12_counts_18 : decode cX12_counts 18 = .ok (.invokestatic 82, 3) := by decide +kernel
theorem dX12_counts_21 : decode cX12_counts 21 = .ok (.ifCond .eq 24, 3) := by decide +kernel
theorem dX12_counts_24 : decode cX12_counts 24 = .ok (.iload_n 3, 1) := by decide +kernel
theorem dX12_counts_25 : decode cX12_counts 25 = .ok (.i2l, 1) := by decide +kernel
theorem dX12_counts_26 : decode cX12_counts 26 = .ok (.lconst 0, 1) := by decide +kernel
theorem dX12_counts_27 : decode cX12_counts 27 = .ok (.ldc2_w 314, 3) := by decide +kernel
theorem dX12_counts_30 : decode cX12_counts 30 = .ok (.invokestatic 82, 3) := by decide +kernel
theorem dX12_counts_33 : decode cX12_counts 33 = .ok (.ifCond .eq 12, 3) := by decide +kernel
theorem dX12_counts_36 : decode cX12_counts 36 = .ok (.iload_n 1, 1) := by decide +kernel
theorem dX12_counts_37 : decode cX12_counts 37 = .ok (.iload_n 2, 1) := by decide +kernel
theorem dX12_counts_38 : decode cX12_counts 38 = .ok (.iload_n 3, 1) := by decide +kernel
theorem dX12_counts_39 : decode cX12_counts 39 = .ok (.invokestatic 316, 3) := by decide +kernel
theorem dX12_counts_42 : decode cX12_counts 42 = .ok (.goto 5, 3) := by decide +kernel
theorem dX12_counts_45 : decode cX12_counts 45 = .ok (.bipush (-2), 2) := by decide +kernel
theorem dX12_counts_47 : decode cX12_counts 47 = .ok (.ireturn, 1) := by decide +kernel
theorem dX12_write_0 : decode cX12_write 0 = .ok (.aload_n 0, 1) := by decide +kernel
theorem dX12_write_1 : decode cX12_write 1 = .ok (.invokevirtual 175, 3) := by decide +kernel
theorem dX12_write_4 : decode cX12_write 4 = .ok (.aload_n 0, 1) := by decide +kernel
theorem dX12_write_5 : decode cX12_write 5 = .ok (.iload_n 1, 1) := by decide +kernel
theorem dX12_write_6 : decode cX12_write 6 = .ok (.invokevirtual 178, 3) := by decide +kernel
theorem dX12_write_9 : decode cX12_write 9 = .ok (.ifCond .eq 10, 3) := by decide +kernel
theorem dX12_write_12 : decode cX12_write 12 = .ok (.iload_n 2, 1) := by decide +kernel
theorem dX12_write_13 : decode cX12_write 13 = .ok (.invokestatic 92, 3) := by decide +kernel
theorem dX12_write_16 : decode cX12_write 16 = .ok (.ifCond .ne 6, 3) := by decide +kernel
theorem dX12_write_19 : decode cX12_write 19 = .ok (.bipush (-2), 2) := by decide +kernel
theorem dX12_write_21 : decode cX12_write 21 = .ok (.ireturn, 1) := by decide +kernel
theorem dX12_write_22 : decode cX12_write 22 = .ok (.aload_n 0, 1) := by decide +kernel
theorem dX12_write_23 : decode cX12_write 23 = .ok (.getfield 7, 3) := by decide +kernel
theorem dX12_write_26 : decode cX12_write 26 = .ok (.iload_n 2, 1) := by decide +kernel
theorem dX12_write_27 : decode cX12_write 27 = .ok (.iaload, 1) := by decide +kernel
theorem dX12_write_28 : decode cX12_write 28 = .ok (.ifCond .ge 9, 3) := by decide +kernel
theorem dX12_write_31 : decode cX12_write 31 = .ok (.aload_n 0, 1) := by decide +kernel
theorem dX12_write_32 : decode cX12_write 32 = .ok (.iconst 1, 1) := by decide +kernel
theorem dX12_write_33 : decode cX12_write 33 = .ok (.invokevirtual 98, 3) := by decide +kernel
theorem dX12_write_36 : decode cX12_write 36 = .ok (.ireturn, 1) := by decide +kernel
theorem dX12_write_37 : decode cX12_write 37 = .ok (.aload_n 0, 1) := by decide +kernel
theorem dX12_write_38 : decode cX12_write 38 = .ok (.iload_n 1, 1) := by decide +kernel
theorem dX12_write_39 : decode cX12_write 39 = .ok (.iconst 0, 1) := by decide +kernel
theorem dX12_write_40 : decode cX12_write 40 = .ok (.invokevirtual 188, 3) := by decide +kernel
theorem dX12_write_43 : decode cX12_write 43 = .ok (.iconst 0, 1) := by decide +kernel
theorem dX12_write_44 : decode cX12_write 44 = .ok (.istore_n 3, 1) := by decide +kernel
theorem dX12_write_45 : decode cX12_write 45 = .ok (.iload_n 3, 1) := by decide +kernel
theorem dX12_write_46 : decode cX12_write 46 = .ok (.aload_n 0, 1) := by decide +kernel
theorem dX12_write_47 : decode cX12_write 47 = .ok (.getfield 13, 3) := by decide +kernel
theorem dX12_write_50 : decode cX12_write 50 = .ok (.iload_n 2, 1) := by decide +kernel
theorem dX12_write_51 : decode cX12_write 51 = .ok (.iaload, 1) := by decide +kernel
theorem dX12_write_52 : decode cX12_write 52 = .ok (.if_icmp .ge 61, 3) := by decide +kernel
theorem dX12_write_55 : decode cX12_write 55 = .ok (.aload_n 0, 1) := by decide +kernel
theorem dX12_write_56 : decode cX12_write 56 = .ok (.getfield 16, 3) := by decide +kernel
theorem dX12_write_59 : decode cX12_write 59 = .ok (.bipush 64, 2) := by decide +kernel
theorem dX12_write_61 : decode cX12_write 61 = .ok (.iload_n 2, 1) := by decide +kernel
theorem dX12_write_62 : decode cX12_write 62 = .ok (.imul, 1) := by decide +kernel
theorem dX12_write_63 : decode cX12_write 63 = .ok (.iload_n 3, 1) := by decide +kernel
theorem dX12_write_64 : decode cX12_write 64 = .ok (.iadd, 1) := by decide +kernel
theorem dX12_write_65 : decode cX12_write 65 = .ok (.aload_n 0, 1) := by decide +kernel
theorem dX12_write_66 : decode cX12_write 66 = .ok (.getfield 7, 3) := by decide +kernel
theorem dX12_write_69 : decode cX12_write 69 = .ok (.iload_n 2, 1) := by decide +kernel
theorem dX12_write_70 : decode cX12_write 70 = .ok (.iaload, 1) := by decide +kernel
theorem dX12_write_71 : decode cX12_write 71 = .ok (.aload_n 0, 1) := by decide +kernel
theorem dX12_write_72 : decode cX12_write 72 = .ok (.getfield 28, 3) := by decide +kernel
theorem dX12_write_75 : decode cX12_write 75 = .ok (.iload_n 3, 1) := by decide +kernel
theorem dX12_write_76 : decode cX12_write 76 = .ok (.iaload, 1) := by decide +kernel
theorem dX12_write_77 : decode cX12_write 77 = .ok (.bipush 99, 2) := by decide +kernel
theorem dX12_write_79 : decode cX12_write 79 = .ok (.if_icmp .eq 14, 3) := by decide +kernel
theorem dX12_write_82 : decode cX12_write 82 = .ok (.aload_n 0, 1) := by decide +kernel
theorem dX12_write_83 : decode cX12_write 83 = .ok (.getfield 52, 3) := by decide +kernel
theorem dX12_write_86 : decode cX12_write 86 = .ok (.iload_n 3, 1) := by decide +kernel
theorem dX12_write_87 : decode cX12_write 87 = .ok (.iaload, 1) := by decide +kernel
theorem dX12_write_88 : decode cX12_write 88 = .ok (.ldc 187, 2) := by decide +kernel
theorem dX12_write_90 : decode cX12_write 90 = .ok (.if_icmp .lt 7, 3) := by decide +kernel
theorem dX12_write_93 : decode cX12_write 93 = .ok (.iconst (-1), 1) := by decide +kernel
theorem dX12_write_94 : decode cX12_write 94 = .ok (.goto 9, 3) := by decide +kernel
theorem dX12_write_97 : decode cX12_write 97 = .ok (.aload_n 0, 1) := by decide +kernel
theorem dX12_write_98 : decode cX12_write 98 = .ok (.getfield 52, 3) := by decide +kernel
theorem dX12_write_101 : decode cX12_write 101 = .ok (.iload_n 3, 1) := by decide +kernel
theorem dX12_write_102 : decode cX12_write 102 = .ok (.iaload, 1) := by decide +kernel
theorem dX12_write_103 : decode cX12_write 103 = .ok (.invokestatic 106, 3) := by decide +kernel
theorem dX12_write_106 : decode cX12_write 106 = .ok (.iastore, 1) := by decide +kernel
theorem dX12_write_107 : decode cX12_write 107 = .ok (.iinc 3 1, 3) := by decide +kernel
theorem dX12_write_110 : decode cX12_write 110 = .ok (.goto (-65), 3) := by decide +kernel
theorem dX12_write_113 : decode cX12_write 113 = .ok (.aload_n 0, 1) := by decide +kernel
theorem dX12_write_114 : decode cX12_write 114 = .ok (.getfield 13, 3) := by decide +kernel
theorem dX12_write_117 : decode cX12_write 117 = .ok (.iload_n 2, 1) := by decide +kernel
theorem dX12_write_118 : decode cX12_write 118 = .ok (.iaload, 1) := by decide +kernel
theorem dX12_write_119 : decode cX12_write 119 = .ok (.ireturn, 1) := by decide +kernel
theorem dX12_count_0 : decode cX12_count 0 = .ok (.iconst 0, 1) := by decide +kernel
theorem dX12_count_1 : decode cX12_count 1 = .ok (.istore_n 2, 1) := by decide +kernel
theorem dX12_count_2 : decode cX12_count 2 = .ok (.aload_n 0, 1) := by decide +kernel
theorem dX12_count_3 : decode cX12_count 3 = .ok (.invokevirtual 175, 3) := by decide +kernel
theorem dX12_count_6 : decode cX12_count 6 = .ok (.iload_n 1, 1) := by decide +kernel
theorem dX12_count_7 : decode cX12_count 7 = .ok (.tableswitch 118 0 8 #[49, 84, 89, 94, 99, 99, 99, 108, 113], 49) := by decide +kernel
theorem dX12_count_56 : decode cX12_count 56 = .ok (.iconst 0, 1) := by decide +kernel
theorem dX12_count_57 : decode cX12_count 57 = .ok (.istore_n 3, 1) := by decide +kernel
theorem dX12_count_58 : decode cX12_count 58 = .ok (.iload_n 3, 1) := by decide +kernel
theorem dX12_count_59 : decode cX12_count 59 = .ok (.bipush 64, 2) := by decide +kernel
theorem dX12_count_61 : decode cX12_count 61 = .ok (.if_icmp .ge 28, 3) := by decide +kernel
theorem dX12_count_64 : decode cX12_count 64 = .ok (.iload_n 2, 1) := by decide +kernel
theorem dX12_count_65 : decode cX12_count 65 = .ok (.aload_n 0, 1) := by decide +kernel
theorem dX12_count_66 : decode cX12_count 66 = .ok (.getfield 28, 3) := by decide +kernel
theorem dX12_count_69 : decode cX12_count 69 = .ok (.iload_n 3, 1) := by decide +kernel
theorem dX12_count_70 : decode cX12_count 70 = .ok (.iaload, 1) := by decide +kernel
theorem dX12_count_71 : decode cX12_count 71 = .ok (.bipush 99, 2) := by decide +kernel
theorem dX12_count_73 : decode cX12_count 73 = .ok (.if_icmp .ne 7, 3) := by decide +kernel
theorem dX12_count_76 : decode cX12_count 76 = .ok (.iconst 0, 1) := by decide +kernel
theorem dX12_count_77 : decode cX12_count 77 = .ok (.goto 4, 3) := by decide +kernel
theorem dX12_count_80 : decode cX12_count 80 = .ok (.iconst 1, 1) := by decide +kernel
theorem dX12_count_81 : decode cX12_count 81 = .ok (.iadd, 1) := by decide +kernel
theorem dX12_count_82 : decode cX12_count 82 = .ok (.istore_n 2, 1) := by decide +kernel
theorem dX12_count_83 : decode cX12_count 83 = .ok (.iinc 3 1, 3) := by decide +kernel
theorem dX12_count_86 : decode cX12_count 86 = .ok (.goto (-28), 3) := by decide +kernel
theorem dX12_count_89 : decode cX12_count 89 = .ok (.iload_n 2, 1) := by decide +kernel
theorem dX12_count_90 : decode cX12_count 90 = .ok (.ireturn, 1) := by decide +kernel
theorem dX12_count_91 : decode cX12_count 91 = .ok (.aload_n 0, 1) := by decide +kernel
theorem dX12_count_92 : decode cX12_count 92 = .ok (.getfield 132, 3) := by decide +kernel
theorem dX12_count_95 : decode cX12_count 95 = .ok (.ireturn, 1) := by decide +kernel
theorem dX12_count_96 : decode cX12_count 96 = .ok (.aload_n 0, 1) := by decide +kernel
theorem dX12_count_97 : decode cX12_count 97 = .ok (.getfield 141, 3) := by decide +kernel
theorem dX12_count_100 : decode cX12_count 100 = .ok (.ireturn, 1) := by decide +kernel
theorem dX12_count_101 : decode cX12_count 101 = .ok (.aload_n 0, 1) := by decide +kernel
theorem dX12_count_102 : decode cX12_count 102 = .ok (.getfield 181, 3) := by decide +kernel
theorem dX12_count_105 : decode cX12_count 105 = .ok (.ireturn, 1) := by decide +kernel
theorem dX12_count_106 : decode cX12_count 106 = .ok (.aload_n 0, 1) := by decide +kernel
theorem dX12_count_107 : decode cX12_count 107 = .ok (.getfield 25, 3) := by decide +kernel
theorem dX12_count_110 : decode cX12_count 110 = .ok (.iload_n 1, 1) := by decide +kernel
theorem dX12_count_111 : decode cX12_count 111 = .ok (.iconst 4, 1) := by decide +kernel
theorem dX12_count_112 : decode cX12_count 112 = .ok (.isub, 1) := by decide +kernel
theorem dX12_count_113 : decode cX12_count 113 = .ok (.iaload, 1) := by decide +kernel
theorem dX12_count_114 : decode cX12_count 114 = .ok (.ireturn, 1) := by decide +kernel
theorem dX12_count_115 : decode cX12_count 115 = .ok (.aload_n 0, 1) := by decide +kernel
theorem dX12_count_116 : decode cX12_count 116 = .ok (.getfield 287, 3) := by decide +kernel
theorem dX12_count_119 : decode cX12_count 119 = .ok (.ireturn, 1) := by decide +kernel
theorem dX12_count_120 : decode cX12_count 120 = .ok (.aload_n 0, 1) := by decide +kernel
theorem dX12_count_121 : decode cX12_count 121 = .ok (.getfield 86, 3) := by decide +kernel
theorem dX12_count_124 : decode cX12_count 124 = .ok (.ireturn, 1) := by decide +kernel
theorem dX12_count_125 : decode cX12_count 125 = .ok (.bipush (-2), 2) := by decide +kernel
theorem dX12_count_127 : decode cX12_count 127 = .ok (.ireturn, 1) := by decide +kernel
theorem dX12_digest_0 : decode cX12_digest 0 = .ok (.ldc2_w 319, 3) := by decide +kernel
theorem dX12_digest_3 : decode cX12_digest 3 = .ok (.lstore_n 1, 1) := by decide +kernel
theorem dX12_digest_4 : decode cX12_digest 4 = .ok (.iconst 0, 1) := by decide +kernel
theorem dX12_digest_5 : decode cX12_digest 5 = .ok (.istore_n 3, 1) := by decide +kernel
theorem dX12_digest_6 : decode cX12_digest 6 = .ok (.iload_n 3, 1) := by decide +kernel
theorem dX12_digest_7 : decode cX12_digest 7 = .ok (.bipush 8, 2) := by decide +kernel
theorem dX12_digest_9 : decode cX12_digest 9 = .ok (.if_icmp .ge 22, 3) := by decide +kernel
theorem dX12_digest_12 : decode cX12_digest 12 = .ok (.ldc2_w 213, 3) := by decide +kernel
theorem dX12_digest_15 : decode cX12_digest 15 = .ok (.lload_n 1, 1) := by decide +kernel
theorem dX12_digest_16 : decode cX12_digest 16 = .ok (.lmul, 1) := by decide +kernel
theorem dX12_digest_17 : decode cX12_digest 17 = .ok (.aload_n 0, 1) := by decide +kernel
theorem dX12_digest_18 : decode cX12_digest 18 = .ok (.iload_n 3, 1) := by decide +kernel
theorem dX12_digest_19 : decode cX12_digest 19 = .ok (.invokevirtual 321, 3) := by decide +kernel
theorem dX12_digest_22 : decode cX12_digest 22 = .ok (.i2l, 1) := by decide +kernel
theorem dX12_digest_23 : decode cX12_digest 23 = .ok (.ladd, 1) := by decide +kernel
theorem dX12_digest_24 : decode cX12_digest 24 = .ok (.lstore_n 1, 1) := by decide +kernel
theorem dX12_digest_25 : decode cX12_digest 25 = .ok (.iinc 3 1, 3) := by decide +kernel
theorem dX12_digest_28 : decode cX12_digest 28 = .ok (.goto (-22), 3) := by decide +kernel
theorem dX12_digest_31 : decode cX12_digest 31 = .ok (.iconst 0, 1) := by decide +kernel
theorem dX12_digest_32 : decode cX12_digest 32 = .ok (.istore_n 3, 1) := by decide +kernel
theorem dX12_digest_33 : decode cX12_digest 33 = .ok (.iload_n 3, 1) := by decide +kernel
theorem dX12_digest_34 : decode cX12_digest 34 = .ok (.iconst 3, 1) := by decide +kernel
theorem dX12_digest_35 : decode cX12_digest 35 = .ok (.if_icmp .ge 22, 3) := by decide +kernel
theorem dX12_digest_38 : decode cX12_digest 38 = .ok (.ldc2_w 213, 3) := by decide +kernel
theorem dX12_digest_41 : decode cX12_digest 41 = .ok (.lload_n 1, 1) := by decide +kernel
theorem dX12_digest_42 : decode cX12_digest 42 = .ok (.lmul, 1) := by decide +kernel
theorem dX12_digest_43 : decode cX12_digest 43 = .ok (.aload_n 0, 1) := by decide +kernel
theorem dX12_digest_44 : decode cX12_digest 44 = .ok (.iload_n 3, 1) := by decide +kernel
theorem dX12_digest_45 : decode cX12_digest 45 = .ok (.invokevirtual 324, 3) := by decide +kernel
theorem dX12_digest_48 : decode cX12_digest 48 = .ok (.i2l, 1) := by decide +kernel
theorem dX12_digest_49 : decode cX12_digest 49 = .ok (.ladd, 1) := by decide +kernel
theorem dX12_digest_50 : decode cX12_digest 50 = .ok (.lstore_n 1, 1) := by decide +kernel
theorem dX12_digest_51 : decode cX12_digest 51 = .ok (.iinc 3 1, 3) := by decide +kernel
theorem dX12_digest_54 : decode cX12_digest 54 = .ok (.goto (-21), 3) := by decide +kernel
theorem dX12_digest_57 : decode cX12_digest 57 = .ok (.ldc2_w 213, 3) := by decide +kernel
theorem dX12_digest_60 : decode cX12_digest 60 = .ok (.lload_n 1, 1) := by decide +kernel
theorem dX12_digest_61 : decode cX12_digest 61 = .ok (.lmul, 1) := by decide +kernel
theorem dX12_digest_62 : decode cX12_digest 62 = .ok (.aload_n 0, 1) := by decide +kernel
theorem dX12_digest_63 : decode cX12_digest 63 = .ok (.invokevirtual 327, 3) := by decide +kernel
theorem dX12_digest_66 : decode cX12_digest 66 = .ok (.i2l, 1) := by decide +kernel
theorem dX12_digest_67 : decode cX12_digest 67 = .ok (.ladd, 1) := by decide +kernel
theorem dX12_digest_68 : decode cX12_digest 68 = .ok (.lstore_n 1, 1) := by decide +kernel
theorem dX12_digest_69 : decode cX12_digest 69 = .ok (.ldc2_w 213, 3) := by decide +kernel
theorem dX12_digest_72 : decode cX12_digest 72 = .ok (.lload_n 1, 1) := by decide +kernel
theorem dX12_digest_73 : decode cX12_digest 73 = .ok (.lmul, 1) := by decide +kernel
theorem dX12_digest_74 : decode cX12_digest 74 = .ok (.aload_n 0, 1) := by decide +kernel
theorem dX12_digest_75 : decode cX12_digest 75 = .ok (.aload_n 0, 1) := by decide +kernel
theorem dX12_digest_76 : decode cX12_digest 76 = .ok (.getfield 181, 3) := by decide +kernel
theorem dX12_digest_79 : decode cX12_digest 79 = .ok (.invokevirtual 330, 3) := by decide +kernel
theorem dX12_digest_82 : decode cX12_digest 82 = .ok (.i2l, 1) := by decide +kernel
theorem dX12_digest_83 : decode cX12_digest 83 = .ok (.ladd, 1) := by decide +kernel
theorem dX12_digest_84 : decode cX12_digest 84 = .ok (.lstore_n 1, 1) := by decide +kernel
theorem dX12_digest_85 : decode cX12_digest 85 = .ok (.ldc2_w 213, 3) := by decide +kernel
theorem dX12_digest_88 : decode cX12_digest 88 = .ok (.lload_n 1, 1) := by decide +kernel
theorem dX12_digest_89 : decode cX12_digest 89 = .ok (.lmul, 1) := by decide +kernel
theorem dX12_digest_90 : decode cX12_digest 90 = .ok (.aload_n 0, 1) := by decide +kernel
theorem dX12_digest_91 : decode cX12_digest 91 = .ok (.invokevirtual 204, 3) := by decide +kernel
theorem dX12_digest_94 : decode cX12_digest 94 = .ok (.i2l, 1) := by decide +kernel
theorem dX12_digest_95 : decode cX12_digest 95 = .ok (.ladd, 1) := by decide +kernel
theorem dX12_digest_96 : decode cX12_digest 96 = .ok (.lstore_n 1, 1) := by decide +kernel
theorem dX12_digest_97 : decode cX12_digest 97 = .ok (.ldc2_w 213, 3) := by decide +kernel
theorem dX12_digest_100 : decode cX12_digest 100 = .ok (.lload_n 1, 1) := by decide +kernel
theorem dX12_digest_101 : decode cX12_digest 101 = .ok (.lmul, 1) := by decide +kernel
theorem dX12_digest_102 : decode cX12_digest 102 = .ok (.aload_n 0, 1) := by decide +kernel
theorem dX12_digest_103 : decode cX12_digest 103 = .ok (.invokevirtual 207, 3) := by decide +kernel
theorem dX12_digest_106 : decode cX12_digest 106 = .ok (.i2l, 1) := by decide +kernel
theorem dX12_digest_107 : decode cX12_digest 107 = .ok (.ladd, 1) := by decide +kernel
theorem dX12_digest_108 : decode cX12_digest 108 = .ok (.lstore_n 1, 1) := by decide +kernel
theorem dX12_digest_109 : decode cX12_digest 109 = .ok (.iconst 0, 1) := by decide +kernel
theorem dX12_digest_110 : decode cX12_digest 110 = .ok (.istore_n 3, 1) := by decide +kernel
theorem dX12_digest_111 : decode cX12_digest 111 = .ok (.iload_n 3, 1) := by decide +kernel
theorem dX12_digest_112 : decode cX12_digest 112 = .ok (.iconst 2, 1) := by decide +kernel
theorem dX12_digest_113 : decode cX12_digest 113 = .ok (.if_icmp .ge 21, 3) := by decide +kernel
theorem dX12_digest_116 : decode cX12_digest 116 = .ok (.ldc2_w 213, 3) := by decide +kernel
theorem dX12_digest_119 : decode cX12_digest 119 = .ok (.lload_n 1, 1) := by decide +kernel
theorem dX12_digest_120 : decode cX12_digest 120 = .ok (.lmul, 1) := by decide +kernel
theorem dX12_digest_121 : decode cX12_digest 121 = .ok (.aload_n 0, 1) := by decide +kernel
theorem dX12_digest_122 : decode cX12_digest 122 = .ok (.iload_n 3, 1) := by decide +kernel
theorem dX12_digest_123 : decode cX12_digest 123 = .ok (.invokevirtual 236, 3) := by decide +kernel
theorem dX12_digest_126 : decode cX12_digest 126 = .ok (.ladd, 1) := by decide +kernel
theorem dX12_digest_127 : decode cX12_digest 127 = .ok (.lstore_n 1, 1) := by decide +kernel
theorem dX12_digest_128 : decode cX12_digest 128 = .ok (.iinc 3 1, 3) := by decide +kernel
theorem dX12_digest_131 : decode cX12_digest 131 = .ok (.goto (-20), 3) := by decide +kernel
theorem dX12_digest_134 : decode cX12_digest 134 = .ok (.iconst 0, 1) := by decide +kernel
theorem dX12_digest_135 : decode cX12_digest 135 = .ok (.istore_n 3, 1) := by decide +kernel
theorem dX12_digest_136 : decode cX12_digest 136 = .ok (.iload_n 3, 1) := by decide +kernel
theorem dX12_digest_137 : decode cX12_digest 137 = .ok (.iconst 5, 1) := by decide +kernel
theorem dX12_digest_138 : decode cX12_digest 138 = .ok (.if_icmp .ge 62, 3) := by decide +kernel
theorem dX12_digest_141 : decode cX12_digest 141 = .ok (.ldc2_w 213, 3) := by decide +kernel
theorem dX12_digest_144 : decode cX12_digest 144 = .ok (.lload_n 1, 1) := by decide +kernel
theorem dX12_digest_145 : decode cX12_digest 145 = .ok (.lmul, 1) := by decide +kernel
theorem dX12_digest_146 : decode cX12_digest 146 = .ok (.aload_n 0, 1) := by decide +kernel
theorem dX12_digest_147 : decode cX12_digest 147 = .ok (.iload_n 3, 1) := by decide +kernel
theorem dX12_digest_148 : decode cX12_digest 148 = .ok (.invokevirtual 198, 3) := by decide +kernel
theorem dX12_digest_151 : decode cX12_digest 151 = .ok (.i2l, 1) := by decide +kernel
theorem dX12_digest_152 : decode cX12_digest 152 = .ok (.ladd, 1) := by decide +kernel
theorem dX12_digest_153 : decode cX12_digest 153 = .ok (.lstore_n 1, 1) := by decide +kernel
theorem dX12_digest_154 : decode cX12_digest 154 = .ok (.ldc2_w 213, 3) := by decide +kernel
theorem dX12_digest_157 : decode cX12_digest 157 = .ok (.lload_n 1, 1) := by decide +kernel
theorem dX12_digest_158 : decode cX12_digest 158 = .ok (.lmul, 1) := by decide +kernel
theorem dX12_digest_159 : decode cX12_digest 159 = .ok (.aload_n 0, 1) := by decide +kernel
theorem dX12_digest_160 : decode cX12_digest 160 = .ok (.iload_n 3, 1) := by decide +kernel
theorem dX12_digest_161 : decode cX12_digest 161 = .ok (.bipush (-2), 2) := by decide +kernel
theorem dX12_digest_163 : decode cX12_digest 163 = .ok (.invokevirtual 304, 3) := by decide +kernel
theorem dX12_digest_166 : decode cX12_digest 166 = .ok (.ladd, 1) := by decide +kernel
theorem dX12_digest_167 : decode cX12_digest 167 = .ok (.lstore_n 1, 1) := by decide +kernel
theorem dX12_digest_168 : decode cX12_digest 168 = .ok (.ldc2_w 213, 3) := by decide +kernel
theorem dX12_digest_171 : decode cX12_digest 171 = .ok (.lload_n 1, 1) := by decide +kernel
theorem dX12_digest_172 : decode cX12_digest 172 = .ok (.lmul, 1) := by decide +kernel
theorem dX12_digest_173 : decode cX12_digest 173 = .ok (.aload_n 0, 1) := by decide +kernel
theorem dX12_digest_174 : decode cX12_digest 174 = .ok (.iload_n 3, 1) := by decide +kernel
theorem dX12_digest_175 : decode cX12_digest 175 = .ok (.iconst (-1), 1) := by decide +kernel
theorem dX12_digest_176 : decode cX12_digest 176 = .ok (.invokevirtual 304, 3) := by decide +kernel
theorem dX12_digest_179 : decode cX12_digest 179 = .ok (.ladd, 1) := by decide +kernel
theorem dX12_digest_180 : decode cX12_digest 180 = .ok (.lstore_n 1, 1) := by decide +kernel
theorem dX12_digest_181 : decode cX12_digest 181 = .ok (.ldc2_w 213, 3) := by decide +kernel
theorem dX12_digest_184 : decode cX12_digest 184 = .ok (.lload_n 1, 1) := by decide +kernel
theorem dX12_digest_185 : decode cX12_digest 185 = .ok (.lmul, 1) := by decide +kernel
theorem dX12_digest_186 : decode cX12_digest 186 = .ok (.aload_n 0, 1) := by decide +kernel
theorem dX12_digest_187 : decode cX12_digest 187 = .ok (.iload_n 3, 1) := by decide +kernel
theorem dX12_digest_188 : decode cX12_digest 188 = .ok (.iconst 0, 1) := by decide +kernel
theorem dX12_digest_189 : decode cX12_digest 189 = .ok (.invokevirtual 304, 3) := by decide +kernel
theorem dX12_digest_192 : decode cX12_digest 192 = .ok (.ladd, 1) := by decide +kernel
theorem dX12_digest_193 : decode cX12_digest 193 = .ok (.lstore_n 1, 1) := by decide +kernel
theorem dX12_digest_194 : decode cX12_digest 194 = .ok (.iinc 3 1, 3) := by decide +kernel
theorem dX12_digest_197 : decode cX12_digest 197 = .ok (.goto (-61), 3) := by decide +kernel
theorem dX12_digest_200 : decode cX12_digest 200 = .ok (.ldc2_w 213, 3) := by decide +kernel
theorem dX12_digest_203 : decode cX12_digest 203 = .ok (.lload_n 1, 1) := by decide +kernel
theorem dX12_digest_204 : decode cX12_digest 204 = .ok (.lmul, 1) := by decide +kernel
theorem dX12_digest_205 : decode cX12_digest 205 = .ok (.aload_n 0, 1) := by decide +kernel
theorem dX12_digest_206 : decode cX12_digest 206 = .ok (.iconst 0, 1) := by decide +kernel
theorem dX12_digest_207 : decode cX12_digest 207 = .ok (.bipush 9, 2) := by decide +kernel
theorem dX12_digest_209 : decode cX12_digest 209 = .ok (.invokevirtual 332, 3) := by decide +kernel
theorem dX12_digest_212 : decode cX12_digest 212 = .ok (.i2l, 1) := by decide +kernel
theorem dX12_digest_213 : decode cX12_digest 213 = .ok (.ladd, 1) := by decide +kernel
theorem dX12_digest_214 : decode cX12_digest 214 = .ok (.lstore_n 1, 1) := by decide +kernel
theorem dX12_digest_215 : decode cX12_digest 215 = .ok (.bipush (-2), 2) := by decide +kernel
theorem dX12_digest_217 : decode cX12_digest 217 = .ok (.istore_n 3, 1) := by decide +kernel
theorem dX12_digest_218 : decode cX12_digest 218 = .ok (.iload_n 3, 1) := by decide +kernel
theorem dX12_digest_219 : decode cX12_digest 219 = .ok (.iconst 2, 1) := by decide +kernel
theorem dX12_digest_220 : decode cX12_digest 220 = .ok (.if_icmp .ge 25, 3) := by decide +kernel
theorem dX12_digest_223 : decode cX12_digest 223 = .ok (.ldc2_w 213, 3) := by decide +kernel
theorem dX12_digest_226 : decode cX12_digest 226 = .ok (.lload_n 1, 1) := by decide +kernel
theorem dX12_digest_227 : decode cX12_digest 227 = .ok (.lmul, 1) := by decide +kernel
theorem dX12_digest_228 : decode cX12_digest 228 = .ok (.aload_n 0, 1) := by decide +kernel
theorem dX12_digest_229 : decode cX12_digest 229 = .ok (.iconst 0, 1) := by decide +kernel
theorem dX12_digest_230 : decode cX12_digest 230 = .ok (.bipush 9, 2) := by decide +kernel
theorem dX12_digest_232 : decode cX12_digest 232 = .ok (.iload_n 3, 1) := by decide +kernel
theorem dX12_digest_233 : decode cX12_digest 233 = .ok (.invokevirtual 335, 3) := by decide +kernel
theorem dX12_digest_236 : decode cX12_digest 236 = .ok (.i2l, 1) := by decide +kernel
theorem dX12_digest_237 : decode cX12_digest 237 = .ok (.ladd, 1) := by decide +kernel
theorem dX12_digest_238 : decode cX12_digest 238 = .ok (.lstore_n 1, 1) := by decide +kernel
theorem dX12_digest_239 : decode cX12_digest 239 = .ok (.iinc 3 1, 3) := by decide +kernel
theorem dX12_digest_242 : decode cX12_digest 242 = .ok (.goto (-24), 3) := by decide +kernel
theorem dX12_digest_245 : decode cX12_digest 245 = .ok (.iconst (-1), 1) := by decide +kernel
theorem dX12_digest_246 : decode cX12_digest 246 = .ok (.istore_n 3, 1) := by decide +kernel
theorem dX12_digest_247 : decode cX12_digest 247 = .ok (.iload_n 3, 1) := by decide +kernel
theorem dX12_digest_248 : decode cX12_digest 248 = .ok (.iconst 5, 1) := by decide +kernel
theorem dX12_digest_249 : decode cX12_digest 249 = .ok (.if_icmp .ge 24, 3) := by decide +kernel
theorem dX12_digest_252 : decode cX12_digest 252 = .ok (.ldc2_w 213, 3) := by decide +kernel
theorem dX12_digest_255 : decode cX12_digest 255 = .ok (.lload_n 1, 1) := by decide +kernel
theorem dX12_digest_256 : decode cX12_digest 256 = .ok (.lmul, 1) := by decide +kernel
theorem dX12_digest_257 : decode cX12_digest 257 = .ok (.aload_n 0, 1) := by decide +kernel
theorem dX12_digest_258 : decode cX12_digest 258 = .ok (.bipush 31, 2) := by decide +kernel
theorem dX12_digest_260 : decode cX12_digest 260 = .ok (.iload_n 3, 1) := by decide +kernel
theorem dX12_digest_261 : decode cX12_digest 261 = .ok (.invokevirtual 217, 3) := by decide +kernel
theorem dX12_digest_264 : decode cX12_digest 264 = .ok (.i2l, 1) := by decide +kernel
theorem dX12_digest_265 : decode cX12_digest 265 = .ok (.ladd, 1) := by decide +kernel
theorem dX12_digest_266 : decode cX12_digest 266 = .ok (.lstore_n 1, 1) := by decide +kernel
theorem dX12_digest_267 : decode cX12_digest 267 = .ok (.iinc 3 1, 3) := by decide +kernel
theorem dX12_digest_270 : decode cX12_digest 270 = .ok (.goto (-23), 3) := by decide +kernel
theorem dX12_digest_273 : decode cX12_digest 273 = .ok (.ldc2_w 213, 3) := by decide +kernel
theorem dX12_digest_276 : decode cX12_digest 276 = .ok (.lload_n 1, 1) := by decide +kernel
theorem dX12_digest_277 : decode cX12_digest 277 = .ok (.lmul, 1) := by decide +kernel
theorem dX12_digest_278 : decode cX12_digest 278 = .ok (.aload_n 0, 1) := by decide +kernel
theorem dX12_digest_279 : decode cX12_digest 279 = .ok (.iconst 0, 1) := by decide +kernel
theorem dX12_digest_280 : decode cX12_digest 280 = .ok (.iconst 0, 1) := by decide +kernel
theorem dX12_digest_281 : decode cX12_digest 281 = .ok (.iconst 2, 1) := by decide +kernel
theorem dX12_digest_282 : decode cX12_digest 282 = .ok (.iconst 0, 1) := by decide +kernel
theorem dX12_digest_283 : decode cX12_digest 283 = .ok (.invokevirtual 338, 3) := by decide +kernel
theorem dX12_digest_286 : decode cX12_digest 286 = .ok (.ladd, 1) := by decide +kernel
theorem dX12_digest_287 : decode cX12_digest 287 = .ok (.lstore_n 1, 1) := by decide +kernel
theorem dX12_digest_288 : decode cX12_digest 288 = .ok (.iconst 0, 1) := by decide +kernel
theorem dX12_digest_289 : decode cX12_digest 289 = .ok (.istore_n 3, 1) := by decide +kernel
theorem dX12_digest_290 : decode cX12_digest 290 = .ok (.iload_n 3, 1) := by decide +kernel
theorem dX12_digest_291 : decode cX12_digest 291 = .ok (.iconst 4, 1) := by decide +kernel
theorem dX12_digest_292 : decode cX12_digest 292 = .ok (.if_icmp .ge 24, 3) := by decide +kernel
theorem dX12_digest_295 : decode cX12_digest 295 = .ok (.ldc2_w 213, 3) := by decide +kernel
theorem dX12_digest_298 : decode cX12_digest 298 = .ok (.lload_n 1, 1) := by decide +kernel
theorem dX12_digest_299 : decode cX12_digest 299 = .ok (.lmul, 1) := by decide +kernel
theorem dX12_digest_300 : decode cX12_digest 300 = .ok (.aload_n 0, 1) := by decide +kernel
theorem dX12_digest_301 : decode cX12_digest 301 = .ok (.bipush 7, 2) := by decide +kernel
theorem dX12_digest_303 : decode cX12_digest 303 = .ok (.iload_n 3, 1) := by decide +kernel
theorem dX12_digest_304 : decode cX12_digest 304 = .ok (.invokevirtual 258, 3) := by decide +kernel
theorem dX12_digest_307 : decode cX12_digest 307 = .ok (.i2l, 1) := by decide +kernel
theorem dX12_digest_308 : decode cX12_digest 308 = .ok (.ladd, 1) := by decide +kernel
theorem dX12_digest_309 : decode cX12_digest 309 = .ok (.lstore_n 1, 1) := by decide +kernel
theorem dX12_digest_310 : decode cX12_digest 310 = .ok (.iinc 3 1, 3) := by decide +kernel
theorem dX12_digest_313 : decode cX12_digest 313 = .ok (.goto (-23), 3) := by decide +kernel
theorem dX12_digest_316 : decode cX12_digest 316 = .ok (.ldc2_w 213, 3) := by decide +kernel
theorem dX12_digest_319 : decode cX12_digest 319 = .ok (.lload_n 1, 1) := by decide +kernel
theorem dX12_digest_320 : decode cX12_digest 320 = .ok (.lmul, 1) := by decide +kernel
theorem dX12_digest_321 : decode cX12_digest 321 = .ok (.aload_n 0, 1) := by decide +kernel
theorem dX12_digest_322 : decode cX12_digest 322 = .ok (.bipush 7, 2) := by decide +kernel
theorem dX12_digest_324 : decode cX12_digest 324 = .ok (.bipush 9, 2) := by decide +kernel
theorem dX12_digest_326 : decode cX12_digest 326 = .ok (.invokevirtual 263, 3) := by decide +kernel
theorem dX12_digest_329 : decode cX12_digest 329 = .ok (.i2l, 1) := by decide +kernel
theorem dX12_digest_330 : decode cX12_digest 330 = .ok (.ladd, 1) := by decide +kernel
theorem dX12_digest_331 : decode cX12_digest 331 = .ok (.lstore_n 1, 1) := by decide +kernel
theorem dX12_digest_332 : decode cX12_digest 332 = .ok (.iconst 0, 1) := by decide +kernel
theorem dX12_digest_333 : decode cX12_digest 333 = .ok (.istore_n 3, 1) := by decide +kernel
theorem dX12_digest_334 : decode cX12_digest 334 = .ok (.iload_n 3, 1) := by decide +kernel
theorem dX12_digest_335 : decode cX12_digest 335 = .ok (.iconst 2, 1) := by decide +kernel
theorem dX12_digest_336 : decode cX12_digest 336 = .ok (.if_icmp .ge 24, 3) := by decide +kernel
theorem dX12_digest_339 : decode cX12_digest 339 = .ok (.ldc2_w 213, 3) := by decide +kernel
theorem dX12_digest_342 : decode cX12_digest 342 = .ok (.lload_n 1, 1) := by decide +kernel
theorem dX12_digest_343 : decode cX12_digest 343 = .ok (.lmul, 1) := by decide +kernel
theorem dX12_digest_344 : decode cX12_digest 344 = .ok (.aload_n 0, 1) := by decide +kernel
theorem dX12_digest_345 : decode cX12_digest 345 = .ok (.iconst 0, 1) := by decide +kernel
theorem dX12_digest_346 : decode cX12_digest 346 = .ok (.iconst 3, 1) := by decide +kernel
theorem dX12_digest_347 : decode cX12_digest 347 = .ok (.iconst 1, 1) := by decide +kernel
theorem dX12_digest_348 : decode cX12_digest 348 = .ok (.iload_n 3, 1) := by decide +kernel
theorem dX12_digest_349 : decode cX12_digest 349 = .ok (.invokevirtual 341, 3) := by decide +kernel
theorem dX12_digest_352 : decode cX12_digest 352 = .ok (.ladd, 1) := by decide +kernel
theorem dX12_digest_353 : decode cX12_digest 353 = .ok (.lstore_n 1, 1) := by decide +kernel
theorem dX12_digest_354 : decode cX12_digest 354 = .ok (.iinc 3 1, 3) := by decide +kernel
theorem dX12_digest_357 : decode cX12_digest 357 = .ok (.goto (-23), 3) := by decide +kernel
theorem dX12_digest_360 : decode cX12_digest 360 = .ok (.ldc2_w 213, 3) := by decide +kernel
theorem dX12_digest_363 : decode cX12_digest 363 = .ok (.lload_n 1, 1) := by decide +kernel
theorem dX12_digest_364 : decode cX12_digest 364 = .ok (.lmul, 1) := by decide +kernel
theorem dX12_digest_365 : decode cX12_digest 365 = .ok (.aload_n 0, 1) := by decide +kernel
theorem dX12_digest_366 : decode cX12_digest 366 = .ok (.iconst 0, 1) := by decide +kernel
theorem dX12_digest_367 : decode cX12_digest 367 = .ok (.iconst 4, 1) := by decide +kernel
theorem dX12_digest_368 : decode cX12_digest 368 = .ok (.invokevirtual 344, 3) := by decide +kernel
theorem dX12_digest_371 : decode cX12_digest 371 = .ok (.i2l, 1) := by decide +kernel
theorem dX12_digest_372 : decode cX12_digest 372 = .ok (.ladd, 1) := by decide +kernel
theorem dX12_digest_373 : decode cX12_digest 373 = .ok (.lstore_n 1, 1) := by decide +kernel
theorem dX12_digest_374 : decode cX12_digest 374 = .ok (.iconst 0, 1) := by decide +kernel
theorem dX12_digest_375 : decode cX12_digest 375 = .ok (.istore_n 3, 1) := by decide +kernel
theorem dX12_digest_376 : decode cX12_digest 376 = .ok (.iload_n 3, 1) := by decide +kernel
theorem dX12_digest_377 : decode cX12_digest 377 = .ok (.iconst 3, 1) := by decide +kernel
theorem dX12_digest_378 : decode cX12_digest 378 = .ok (.if_icmp .ge 23, 3) := by decide +kernel
theorem dX12_digest_381 : decode cX12_digest 381 = .ok (.ldc2_w 213, 3) := by decide +kernel
theorem dX12_digest_384 : decode cX12_digest 384 = .ok (.lload_n 1, 1) := by decide +kernel
theorem dX12_digest_385 : decode cX12_digest 385 = .ok (.lmul, 1) := by decide +kernel
theorem dX12_digest_386 : decode cX12_digest 386 = .ok (.aload_n 0, 1) := by decide +kernel
theorem dX12_digest_387 : decode cX12_digest 387 = .ok (.iconst 0, 1) := by decide +kernel
theorem dX12_digest_388 : decode cX12_digest 388 = .ok (.iconst 1, 1) := by decide +kernel
theorem dX12_digest_389 : decode cX12_digest 389 = .ok (.iload_n 3, 1) := by decide +kernel
theorem dX12_digest_390 : decode cX12_digest 390 = .ok (.invokevirtual 307, 3) := by decide +kernel
theorem dX12_digest_393 : decode cX12_digest 393 = .ok (.ladd, 1) := by decide +kernel
theorem dX12_digest_394 : decode cX12_digest 394 = .ok (.lstore_n 1, 1) := by decide +kernel
theorem dX12_digest_395 : decode cX12_digest 395 = .ok (.iinc 3 1, 3) := by decide +kernel
theorem dX12_digest_398 : decode cX12_digest 398 = .ok (.goto (-22), 3) := by decide +kernel
theorem dX12_digest_401 : decode cX12_digest 401 = .ok (.iconst 0, 1) := by decide +kernel
theorem dX12_digest_402 : decode cX12_digest 402 = .ok (.istore_n 3, 1) := by decide +kernel
theorem dX12_digest_403 : decode cX12_digest 403 = .ok (.iload_n 3, 1) := by decide +kernel
theorem dX12_digest_404 : decode cX12_digest 404 = .ok (.iconst 2, 1) := by decide +kernel
theorem dX12_digest_405 : decode cX12_digest 405 = .ok (.if_icmp .ge 24, 3) := by decide +kernel
theorem dX12_digest_408 : decode cX12_digest 408 = .ok (.ldc2_w 213, 3) := by decide +kernel
theorem dX12_digest_411 : decode cX12_digest 411 = .ok (.lload_n 1, 1) := by decide +kernel
theorem dX12_digest_412 : decode cX12_digest 412 = .ok (.lmul, 1) := by decide +kernel
theorem dX12_digest_413 : decode cX12_digest 413 = .ok (.aload_n 0, 1) := by decide +kernel
theorem dX12_digest_414 : decode cX12_digest 414 = .ok (.bipush 7, 2) := by decide +kernel
theorem dX12_digest_416 : decode cX12_digest 416 = .ok (.iload_n 3, 1) := by decide +kernel
theorem dX12_digest_417 : decode cX12_digest 417 = .ok (.invokevirtual 311, 3) := by decide +kernel
theorem dX12_digest_420 : decode cX12_digest 420 = .ok (.i2l, 1) := by decide +kernel
theorem dX12_digest_421 : decode cX12_digest 421 = .ok (.ladd, 1) := by decide +kernel
theorem dX12_digest_422 : decode cX12_digest 422 = .ok (.lstore_n 1, 1) := by decide +kernel
theorem dX12_digest_423 : decode cX12_digest 423 = .ok (.iinc 3 1, 3) := by decide +kernel
theorem dX12_digest_426 : decode cX12_digest 426 = .ok (.goto (-23), 3) := by decide +kernel
theorem dX12_digest_429 : decode cX12_digest 429 = .ok (.ldc2_w 213, 3) := by decide +kernel
theorem dX12_digest_432 : decode cX12_digest 432 = .ok (.lload_n 1, 1) := by decide +kernel
theorem dX12_digest_433 : decode cX12_digest 433 = .ok (.lmul, 1) := by decide +kernel
theorem dX12_digest_434 : decode cX12_digest 434 = .ok (.bipush 60, 2) := by decide +kernel
theorem dX12_digest_436 : decode cX12_digest 436 = .ok (.iconst 3, 1) := by decide +kernel
theorem dX12_digest_437 : decode cX12_digest 437 = .ok (.iconst 2, 1) := by decide +kernel
theorem dX12_digest_438 : decode cX12_digest 438 = .ok (.invokestatic 316, 3) := by decide +kernel
theorem dX12_digest_441 : decode cX12_digest 441 = .ok (.i2l, 1) := by decide +kernel
theorem dX12_digest_442 : decode cX12_digest 442 = .ok (.ladd, 1) := by decide +kernel
theorem dX12_digest_443 : decode cX12_digest 443 = .ok (.lreturn, 1) := by decide +kernel
theorem dJ6_bitCount_0f7a4_0 : decode cJ6_bitCount_0f7a4 0 = .ok (.iload_n 0, 1) := by decide +kernel
theorem dJ6_bitCount_0f7a4_1 : decode cJ6_bitCount_0f7a4 1 = .ok (.iload_n 0, 1) := by decide +kernel
theorem dJ6_bitCount_0f7a4_2 : decode cJ6_bitCount_0f7a4 2 = .ok (.iconst 1, 1) := by decide +kernel
theorem dJ6_bitCount_0f7a4_3 : decode cJ6_bitCount_0f7a4 3 = .ok (.iushr, 1) := by decide +kernel
theorem dJ6_bitCount_0f7a4_4 : decode cJ6_bitCount_0f7a4 4 = .ok (.ldc_w 265, 3) := by decide +kernel
theorem dJ6_bitCount_0f7a4_7 : decode cJ6_bitCount_0f7a4 7 = .ok (.iand, 1) := by decide +kernel
theorem dJ6_bitCount_0f7a4_8 : decode cJ6_bitCount_0f7a4 8 = .ok (.isub, 1) := by decide +kernel
theorem dJ6_bitCount_0f7a4_9 : decode cJ6_bitCount_0f7a4 9 = .ok (.istore_n 0, 1) := by decide +kernel
theorem dJ6_bitCount_0f7a4_10 : decode cJ6_bitCount_0f7a4 10 = .ok (.iload_n 0, 1) := by decide +kernel
theorem dJ6_bitCount_0f7a4_11 : decode cJ6_bitCount_0f7a4 11 = .ok (.ldc_w 266, 3) := by decide +kernel
theorem dJ6_bitCount_0f7a4_14 : decode cJ6_bitCount_0f7a4 14 = .ok (.iand, 1) := by decide +kernel
theorem dJ6_bitCount_0f7a4_15 : decode cJ6_bitCount_0f7a4 15 = .ok (.iload_n 0, 1) := by decide +kernel
theorem dJ6_bitCount_0f7a4_16 : decode cJ6_bitCount_0f7a4 16 = .ok (.iconst 2, 1) := by decide +kernel
theorem dJ6_bitCount_0f7a4_17 : decode cJ6_bitCount_0f7a4 17 = .ok (.iushr, 1) := by decide +kernel
theorem dJ6_bitCount_0f7a4_18 : decode cJ6_bitCount_0f7a4 18 = .ok (.ldc_w 266, 3) := by decide +kernel
theorem dJ6_bitCount_0f7a4_21 : decode cJ6_bitCount_0f7a4 21 = .ok (.iand, 1) := by decide +kernel
theorem dJ6_bitCount_0f7a4_22 : decode cJ6_bitCount_0f7a4 22 = .ok (.iadd, 1) := by decide +kernel
theorem dJ6_bitCount_0f7a4_23 : decode cJ6_bitCount_0f7a4 23 = .ok (.istore_n 0, 1) := by decide +kernel
theorem dJ6_bitCount_0f7a4_24 : decode cJ6_bitCount_0f7a4 24 = .ok (.iload_n 0, 1) := by decide +kernel
theorem dJ6_bitCount_0f7a4_25 : decode cJ6_bitCount_0f7a4 25 = .ok (.iload_n 0, 1) := by decide +kernel
theorem dJ6_bitCount_0f7a4_26 : decode cJ6_bitCount_0f7a4 26 = .ok (.iconst 4, 1) := by decide +kernel
theorem dJ6_bitCount_0f7a4_27 : decode cJ6_bitCount_0f7a4 27 = .ok (.iushr, 1) := by decide +kernel
theorem dJ6_bitCount_0f7a4_28 : decode cJ6_bitCount_0f7a4 28 = .ok (.iadd, 1) := by decide +kernel
theorem dJ6_bitCount_0f7a4_29 : decode cJ6_bitCount_0f7a4 29 = .ok (.ldc_w 267, 3) := by decide +kernel
theorem dJ6_bitCount_0f7a4_32 : decode cJ6_bitCount_0f7a4 32 = .ok (.iand, 1) := by decide +kernel
theorem dJ6_bitCount_0f7a4_33 : decode cJ6_bitCount_0f7a4 33 = .ok (.istore_n 0, 1) := by decide +kernel
theorem dJ6_bitCount_0f7a4_34 : decode cJ6_bitCount_0f7a4 34 = .ok (.iload_n 0, 1) := by decide +kernel
theorem dJ6_bitCount_0f7a4_35 : decode cJ6_bitCount_0f7a4 35 = .ok (.iload_n 0, 1) := by decide +kernel
theorem dJ6_bitCount_0f7a4_36 : decode cJ6_bitCount_0f7a4 36 = .ok (.bipush 8, 2) := by decide +kernel
theorem dJ6_bitCount_0f7a4_38 : decode cJ6_bitCount_0f7a4 38 = .ok (.iushr, 1) := by decide +kernel
theorem dJ6_bitCount_0f7a4_39 : decode cJ6_bitCount_0f7a4 39 = .ok (.iadd, 1) := by decide +kernel
theorem dJ6_bitCount_0f7a4_40 : decode cJ6_bitCount_0f7a4 40 = .ok (.istore_n 0, 1) := by decide +kernel
theorem dJ6_bitCount_0f7a4_41 : decode cJ6_bitCount_0f7a4 41 = .ok (.iload_n 0, 1) := by decide +kernel
theorem dJ6_bitCount_0f7a4_42 : decode cJ6_bitCount_0f7a4 42 = .ok (.iload_n 0, 1) := by decide +kernel
theorem dJ6_bitCount_0f7a4_43 : decode cJ6_bitCount_0f7a4 43 = .ok (.bipush 16, 2) := by decide +kernel
theorem dJ6_bitCount_0f7a4_45 : decode cJ6_bitCount_0f7a4 45 = .ok (.iushr, 1) := by decide +kernel
theorem dJ6_bitCount_0f7a4_46 : decode cJ6_bitCount_0f7a4 46 = .ok (.iadd, 1) := by decide +kernel
theorem dJ6_bitCount_0f7a4_47 : decode cJ6_bitCount_0f7a4 47 = .ok (.istore_n 0, 1) := by decide +kernel
theorem dJ6_bitCount_0f7a4_48 : decode cJ6_bitCount_0f7a4 48 = .ok (.iload_n 0, 1) := by decide +kernel
theorem dJ6_bitCount_0f7a4_49 : decode cJ6_bitCount_0f7a4 49 = .ok (.bipush 63, 2) := by decide +kernel
theorem dJ6_bitCount_0f7a4_51 : decode cJ6_bitCount_0f7a4 51 = .ok (.iand, 1) := by decide +kernel
theorem dJ6_bitCount_0f7a4_52 : decode cJ6_bitCount_0f7a4 52 = .ok (.ireturn, 1) := by decide +kernel
theorem dJ9_max_7cf53_0 : decode cJ9_max_7cf53 0 = .ok (.iload_n 0, 1) := by decide +kernel
theorem dJ9_max_7cf53_1 : decode cJ9_max_7cf53 1 = .ok (.iload_n 1, 1) := by decide +kernel
theorem dJ9_max_7cf53_2 : decode cJ9_max_7cf53 2 = .ok (.if_icmp .lt 7, 3) := by decide +kernel
theorem dJ9_max_7cf53_5 : decode cJ9_max_7cf53 5 = .ok (.iload_n 0, 1) := by decide +kernel
theorem dJ9_max_7cf53_6 : decode cJ9_max_7cf53 6 = .ok (.goto 4, 3) := by decide +kernel
theorem dJ9_max_7cf53_9 : decode cJ9_max_7cf53 9 = .ok (.iload_n 1, 1) := by decide +kernel
theorem dJ9_max_7cf53_10 : decode cJ9_max_7cf53 10 = .ok (.ireturn, 1) := by decide +kernel
theorem dJ9_min_7cf53_0 : decode cJ9_min_7cf53 0 = .ok (.iload_n 0, 1) := by decide +kernel
theorem dJ9_min_7cf53_1 : decode cJ9_min_7cf53 1 = .ok (.iload_n 1, 1) := by decide +kernel
theorem dJ9_min_7cf53_2 : decode cJ9_min_7cf53 2 = .ok (.if_icmp .gt 7, 3) := by decide +kernel
theorem dJ9_min_7cf53_5 : decode cJ9_min_7cf53 5 = .ok (.iload_n 0, 1) := by decide +kernel
theorem dJ9_min_7cf53_6 : decode cJ9_min_7cf53 6 = .ok (.goto 4, 3) := by decide +kernel
theorem dJ9_min_7cf53_9 : decode cJ9_min_7cf53 9 = .ok (.iload_n 1, 1) := by decide +kernel
theorem dJ9_min_7cf53_10 : decode cJ9_min_7cf53 10 = .ok (.ireturn, 1) := by decide +kernel
