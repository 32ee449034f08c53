theorem dX0_init_0 : decode cX0_init 0 = .ok (.aload_n 0, 1) := by decide +kernel
theorem dX0_init_1 : decode cX0_init 1 = .ok (.invokespecial 3, 3) := by decide +kernel
theorem dX0_init_4 : decode cX0_init 4 = .ok (.aload_n 0, 1) := by decide +kernel
theorem dX0_init_5 : decode cX0_init 5 = .ok (.aload_n 1, 1) := by decide +kernel
theorem dX0_init_6 : decode cX0_init 6 = .ok (.putfield 9, 3) := by decide +kernel
theorem dX0_init_9 : decode cX0_init 9 = .ok (.aload_n 0, 1) := by decide +kernel
theorem dX0_init_10 : decode cX0_init 10 = .ok (.bipush 64, 2) := by decide +kernel
theorem dX0_init_12 : decode cX0_init 12 = .ok (.newarray .int, 2) := by decide +kernel
theorem dX0_init_14 : decode cX0_init 14 = .ok (.putfield 15, 3) := by decide +kernel
theorem dX0_init_17 : decode cX0_init 17 = .ok (.aload_n 0, 1) := by decide +kernel
theorem dX0_init_18 : decode cX0_init 18 = .ok (.bipush 64, 2) := by decide +kernel
theorem dX0_init_20 : decode cX0_init 20 = .ok (.newarray .int, 2) := by decide +kernel
theorem dX0_init_22 : decode cX0_init 22 = .ok (.putfield 19, 3) := by decide +kernel
theorem dX0_init_25 : decode cX0_init 25 = .ok (.return_, 1) := by decide +kernel
theorem dX0_measureFrom_0 : decode cX0_measureFrom 0 = .ok (.aload_n 0, 1) := by decide +kernel
theorem dX0_measureFrom_1 : decode cX0_measureFrom 1 = .ok (.getfield 15, 3) := by decide +kernel
theorem dX0_measureFrom_4 : decode cX0_measureFrom 4 = .ok (.iconst (-1), 1) := by decide +kernel
theorem dX0_measureFrom_5 : decode cX0_measureFrom 5 = .ok (.invokestatic 22, 3) := by decide +kernel
theorem dX0_measureFrom_8 : decode cX0_measureFrom 8 = .ok (.aload_n 0, 1) := by decide +kernel
theorem dX0_measureFrom_9 : decode cX0_measureFrom 9 = .ok (.getfield 9, 3) := by decide +kernel
theorem dX0_measureFrom_12 : decode cX0_measureFrom 12 = .ok (.iload_n 1, 1) := by decide +kernel
theorem dX0_measureFrom_13 : decode cX0_measureFrom 13 = .ok (.invokevirtual 28, 3) := by decide +kernel
theorem dX0_measureFrom_16 : decode cX0_measureFrom 16 = .ok (.ifCond .ne 4, 3) := by decide +kernel
theorem dX0_measureFrom_19 : decode cX0_measureFrom 19 = .ok (.return_, 1) := by decide +kernel
theorem dX0_measureFrom_20 : decode cX0_measureFrom 20 = .ok (.aload_n 0, 1) := by decide +kernel
theorem dX0_measureFrom_21 : decode cX0_measureFrom 21 = .ok (.getfield 15, 3) := by decide +kernel
theorem dX0_measureFrom_24 : decode cX0_measureFrom 24 = .ok (.iload_n 1, 1) := by decide +kernel
theorem dX0_measureFrom_25 : decode cX0_measureFrom 25 = .ok (.iconst 0, 1) := by decide +kernel
theorem dX0_measureFrom_26 : decode cX0_measureFrom 26 = .ok (.iastore, 1) := by decide +kernel
theorem dX0_measureFrom_27 : decode cX0_measureFrom 27 = .ok (.aload_n 0, 1) := by decide +kernel
theorem dX0_measureFrom_28 : decode cX0_measureFrom 28 = .ok (.getfield 19, 3) := by decide +kernel
theorem dX0_measureFrom_31 : decode cX0_measureFrom 31 = .ok (.iconst 0, 1) := by decide +kernel
theorem dX0_measureFrom_32 : decode cX0_measureFrom 32 = .ok (.iload_n 1, 1) := by decide +kernel
theorem dX0_measureFrom_33 : decode cX0_measureFrom 33 = .ok (.iastore, 1) := by decide +kernel
theorem dX0_measureFrom_34 : decode cX0_measureFrom 34 = .ok (.iconst 1, 1) := by decide +kernel
theorem dX0_measureFrom_35 : decode cX0_measureFrom 35 = .ok (.istore_n 2, 1) := by decide +kernel
theorem dX0_measureFrom_36 : decode cX0_measureFrom 36 = .ok (.iconst 0, 1) := by decide +kernel
theorem dX0_measureFrom_37 : decode cX0_measureFrom 37 = .ok (.istore_n 3, 1) := by decide +kernel
theorem dX0_measureFrom_38 : decode cX0_measureFrom 38 = .ok (.iload_n 3, 1) := by decide +kernel
theorem dX0_measureFrom_39 : decode cX0_measureFrom 39 = .ok (.iload_n 2, 1) := by decide +kernel
theorem dX0_measureFrom_40 : decode cX0_measureFrom 40 = .ok (.if_icmp .ge 107, 3) := by decide +kernel
theorem dX0_measureFrom_43 : decode cX0_measureFrom 43 = .ok (.iload_n 3, 1) := by decide +kernel
theorem dX0_measureFrom_44 : decode cX0_measureFrom 44 = .ok (.bipush 64, 2) := by decide +kernel
theorem dX0_measureFrom_46 : decode cX0_measureFrom 46 = .ok (.if_icmp .ge 101, 3) := by decide +kernel
theorem dX0_measureFrom_49 : decode cX0_measureFrom 49 = .ok (.aload_n 0, 1) := by decide +kernel
theorem dX0_measureFrom_50 : decode cX0_measureFrom 50 = .ok (.getfield 19, 3) := by decide +kernel
theorem dX0_measureFrom_53 : decode cX0_measureFrom 53 = .ok (.iload_n 3, 1) := by decide +kernel
theorem dX0_measureFrom_54 : decode cX0_measureFrom 54 = .ok (.iaload, 1) := by decide +kernel
theorem dX0_measureFrom_55 : decode cX0_measureFrom 55 = .ok (.istore 4, 2) := by decide +kernel
theorem dX0_measureFrom_57 : decode cX0_measureFrom 57 = .ok (.iconst 0, 1) := by decide +kernel
theorem dX0_measureFrom_58 : decode cX0_measureFrom 58 = .ok (.istore 5, 2) := by decide +kernel
theorem dX0_measureFrom_60 : decode cX0_measureFrom 60 = .ok (.iload 5, 2) := by decide +kernel
theorem dX0_measureFrom_62 : decode cX0_measureFrom 62 = .ok (.iconst 4, 1) := by decide +kernel
theorem dX0_measureFrom_63 : decode cX0_measureFrom 63 = .ok (.if_icmp .ge 78, 3) := by decide +kernel
theorem dX0_measureFrom_66 : decode cX0_measureFrom 66 = .ok (.aload_n 0, 1) := by decide +kernel
theorem dX0_measureFrom_67 : decode cX0_measureFrom 67 = .ok (.getfield 9, 3) := by decide +kernel
theorem dX0_measureFrom_70 : decode cX0_measureFrom 70 = .ok (.iload 4, 2) := by decide +kernel
theorem dX0_measureFrom_72 : decode cX0_measureFrom 72 = .ok (.iload 5, 2) := by decide +kernel
theorem dX0_measureFrom_74 : decode cX0_measureFrom 74 = .ok (.invokevirtual 34, 3) := by decide +kernel
theorem dX0_measureFrom_77 : decode cX0_measureFrom 77 = .ok (.istore 6, 2) := by decide +kernel
theorem dX0_measureFrom_79 : decode cX0_measureFrom 79 = .ok (.iload 6, 2) := by decide +kernel
theorem dX0_measureFrom_81 : decode cX0_measureFrom 81 = .ok (.ifCond .lt 54, 3) := by decide +kernel
theorem dX0_measureFrom_84 : decode cX0_measureFrom 84 = .ok (.iload 6, 2) := by decide +kernel
theorem dX0_measureFrom_86 : decode cX0_measureFrom 86 = .ok (.bipush 64, 2) := by decide +kernel
theorem dX0_measureFrom_88 : decode cX0_measureFrom 88 = .ok (.if_icmp .ge 47, 3) := by decide +kernel
theorem dX0_measureFrom_91 : decode cX0_measureFrom 91 = .ok (.aload_n 0, 1) := by decide +kernel
theorem dX0_measureFrom_92 : decode cX0_measureFrom 92 = .ok (.getfield 15, 3) := by decide +kernel
theorem dX0_measureFrom_95 : decode cX0_measureFrom 95 = .ok (.iload 6, 2) := by decide +kernel
theorem dX0_measureFrom_97 : decode cX0_measureFrom 97 = .ok (.iaload, 1) := by decide +kernel
theorem dX0_measureFrom_98 : decode cX0_measureFrom 98 = .ok (.iconst (-1), 1) := by decide +kernel
theorem dX0_measureFrom_99 : decode cX0_measureFrom 99 = .ok (.if_icmp .ne 36, 3) := by decide +kernel
theorem dX0_measureFrom_102 : decode cX0_measureFrom 102 = .ok (.iload_n 2, 1) := by decide +kernel
theorem dX0_measureFrom_103 : decode cX0_measureFrom 103 = .ok (.bipush 64, 2) := by decide +kernel
theorem dX0_measureFrom_105 : decode cX0_measureFrom 105 = .ok (.if_icmp .ge 30, 3) := by decide +kernel
theorem dX0_measureFrom_108 : decode cX0_measureFrom 108 = .ok (.aload_n 0, 1) := by decide +kernel
theorem dX0_measureFrom_109 : decode cX0_measureFrom 109 = .ok (.getfield 15, 3) := by decide +kernel
theorem dX0_measureFrom_112 : decode cX0_measureFrom 112 = .ok (.iload 6, 2) := by decide +kernel
theorem dX0_measureFrom_114 : decode cX0_measureFrom 114 = .ok (.aload_n 0, 1) := by decide +kernel
theorem dX0_measureFrom_115 : decode cX0_measureFrom 115 = .ok (.getfield 15, 3) := by decide +kernel
theorem dX0_measureFrom_118 : decode cX0_measureFrom 118 = .ok (.iload 4, 2) := by decide +kernel
theorem dX0_measureFrom_120 : decode cX0_measureFrom 120 = .ok (.iaload, 1) := by decide +kernel
theorem dX0_measureFrom_121 : decode cX0_measureFrom 121 = .ok (.iconst 1, 1) := by decide +kernel
theorem dX0_measureFrom_122 : decode cX0_measureFrom 122 = .ok (.iadd, 1) := by decide +kernel
theorem dX0_measureFrom_123 : decode cX0_measureFrom 123 = .ok (.iastore, 1) := by decide +kernel
theorem dX0_measureFrom_124 : decode cX0_measureFrom 124 = .ok (.aload_n 0, 1) := by decide +kernel
theorem dX0_measureFrom_125 : decode cX0_measureFrom 125 = .ok (.getfield 19, 3) := by decide +kernel
theorem dX0_measureFrom_128 : decode cX0_measureFrom 128 = .ok (.iload_n 2, 1) := by decide +kernel
theorem dX0_measureFrom_129 : decode cX0_measureFrom 129 = .ok (.iload 6, 2) := by decide +kernel
theorem dX0_measureFrom_131 : decode cX0_measureFrom 131 = .ok (.iastore, 1) := by decide +kernel
theorem dX0_measureFrom_132 : decode cX0_measureFrom 132 = .ok (.iinc 2 1, 3) := by decide +kernel
theorem dX0_measureFrom_135 : decode cX0_measureFrom 135 = .ok (.iinc 5 1, 3) := by decide +kernel
theorem dX0_measureFrom_138 : decode cX0_measureFrom 138 = .ok (.goto (-78), 3) := by decide +kernel
theorem dX0_measureFrom_141 : decode cX0_measureFrom 141 = .ok (.iinc 3 1, 3) := by decide +kernel
theorem dX0_measureFrom_144 : decode cX0_measureFrom 144 = .ok (.goto (-106), 3) := by decide +kernel
theorem dX0_measureFrom_147 : decode cX0_measureFrom 147 = .ok (.return_, 1) := by decide +kernel
theorem dX0_stepsTo_0 : decode cX0_stepsTo 0 = .ok (.iload_n 1, 1) := by decide +kernel
theorem dX0_stepsTo_1 : decode cX0_stepsTo 1 = .ok (.ifCond .lt 18, 3) := by decide +kernel
theorem dX0_stepsTo_4 : decode cX0_stepsTo 4 = .ok (.iload_n 1, 1) := by decide +kernel
theorem dX0_stepsTo_5 : decode cX0_stepsTo 5 = .ok (.bipush 64, 2) := by decide +kernel
theorem dX0_stepsTo_7 : decode cX0_stepsTo 7 = .ok (.if_icmp .ge 12, 3) := by decide +kernel
theorem dX0_stepsTo_10 : decode cX0_stepsTo 10 = .ok (.aload_n 0, 1) := by decide +kernel
theorem dX0_stepsTo_11 : decode cX0_stepsTo 11 = .ok (.getfield 15, 3) := by decide +kernel
theorem dX0_stepsTo_14 : decode cX0_stepsTo 14 = .ok (.iload_n 1, 1) := by decide +kernel
theorem dX0_stepsTo_15 : decode cX0_stepsTo 15 = .ok (.iaload, 1) := by decide +kernel
theorem dX0_stepsTo_16 : decode cX0_stepsTo 16 = .ok (.goto 4, 3) := by decide +kernel
theorem dX0_stepsTo_19 : decode cX0_stepsTo 19 = .ok (.iconst (-1), 1) := by decide +kernel
theorem dX0_stepsTo_20 : decode cX0_stepsTo 20 = .ok (.ireturn, 1) := by decide +kernel
theorem dX1_init_0 : decode cX1_init 0 = .ok (.aload_n 0, 1) := by decide +kernel
theorem dX1_init_1 : decode cX1_init 1 = .ok (.invokespecial 3, 3) := by decide +kernel
theorem dX1_init_4 : decode cX1_init 4 = .ok (.aload_n 0, 1) := by decide +kernel
theorem dX1_init_5 : decode cX1_init 5 = .ok (.aload_n 1, 1) := by decide +kernel
theorem dX1_init_6 : decode cX1_init 6 = .ok (.putfield 9, 3) := by decide +kernel
theorem dX1_init_9 : decode cX1_init 9 = .ok (.aload_n 0, 1) := by decide +kernel
theorem dX1_init_10 : decode cX1_init 10 = .ok (.bipush 64, 2) := by decide +kernel
theorem dX1_init_12 : decode cX1_init 12 = .ok (.newarray .int, 2) := by decide +kernel
theorem dX1_init_14 : decode cX1_init 14 = .ok (.putfield 15, 3) := by decide +kernel
theorem dX1_init_17 : decode cX1_init 17 = .ok (.aload_n 0, 1) := by decide +kernel
theorem dX1_init_18 : decode cX1_init 18 = .ok (.lconst 0, 1) := by decide +kernel
theorem dX1_init_19 : decode cX1_init 19 = .ok (.putfield 19, 3) := by decide +kernel
theorem dX1_init_22 : decode cX1_init 22 = .ok (.return_, 1) := by decide +kernel
theorem dX1_measureTo_0 : decode cX1_measureTo 0 = .ok (.aload_n 0, 1) := by decide +kernel
theorem dX1_measureTo_1 : decode cX1_measureTo 1 = .ok (.getfield 15, 3) := by decide +kernel
theorem dX1_measureTo_4 : decode cX1_measureTo 4 = .ok (.ldc 23, 2) := by decide +kernel
theorem dX1_measureTo_6 : decode cX1_measureTo 6 = .ok (.invokestatic 24, 3) := by decide +kernel
theorem dX1_measureTo_9 : decode cX1_measureTo 9 = .ok (.aload_n 0, 1) := by decide +kernel
theorem dX1_measureTo_10 : decode cX1_measureTo 10 = .ok (.lconst 0, 1) := by decide +kernel
theorem dX1_measureTo_11 : decode cX1_measureTo 11 = .ok (.putfield 19, 3) := by decide +kernel
theorem dX1_measureTo_14 : decode cX1_measureTo 14 = .ok (.aload_n 0, 1) := by decide +kernel
theorem dX1_measureTo_15 : decode cX1_measureTo 15 = .ok (.getfield 9, 3) := by decide +kernel
theorem dX1_measureTo_18 : decode cX1_measureTo 18 = .ok (.iload_n 1, 1) := by decide +kernel
theorem dX1_measureTo_19 : decode cX1_measureTo 19 = .ok (.invokevirtual 30, 3) := by decide +kernel
theorem dX1_measureTo_22 : decode cX1_measureTo 22 = .ok (.ifCond .eq 10, 3) := by decide +kernel
theorem dX1_measureTo_25 : decode cX1_measureTo 25 = .ok (.aload_n 0, 1) := by decide +kernel
theorem dX1_measureTo_26 : decode cX1_measureTo 26 = .ok (.getfield 15, 3) := by decide +kernel
theorem dX1_measureTo_29 : decode cX1_measureTo 29 = .ok (.iload_n 1, 1) := by decide +kernel
theorem dX1_measureTo_30 : decode cX1_measureTo 30 = .ok (.iconst 0, 1) := by decide +kernel
theorem dX1_measureTo_31 : decode cX1_measureTo 31 = .ok (.iastore, 1) := by decide +kernel
theorem dX1_measureTo_32 : decode cX1_measureTo 32 = .ok (.iconst 0, 1) := by decide +kernel
theorem dX1_measureTo_33 : decode cX1_measureTo 33 = .ok (.istore_n 2, 1) := by decide +kernel
theorem dX1_measureTo_34 : decode cX1_measureTo 34 = .ok (.iload_n 2, 1) := by decide +kernel
theorem dX1_measureTo_35 : decode cX1_measureTo 35 = .ok (.bipush 64, 2) := by decide +kernel
theorem dX1_measureTo_37 : decode cX1_measureTo 37 = .ok (.if_icmp .ge 104, 3) := by decide +kernel
theorem dX1_measureTo_40 : decode cX1_measureTo 40 = .ok (.aload_n 0, 1) := by decide +kernel
theorem dX1_measureTo_41 : decode cX1_measureTo 41 = .ok (.invokevirtual 36, 3) := by decide +kernel
theorem dX1_measureTo_44 : decode cX1_measureTo 44 = .ok (.istore_n 3, 1) := by decide +kernel
theorem dX1_measureTo_45 : decode cX1_measureTo 45 = .ok (.iload_n 3, 1) := by decide +kernel
theorem dX1_measureTo_46 : decode cX1_measureTo 46 = .ok (.invokestatic 40, 3) := by decide +kernel
theorem dX1_measureTo_49 : decode cX1_measureTo 49 = .ok (.ifCond .ne 4, 3) := by decide +kernel
theorem dX1_measureTo_52 : decode cX1_measureTo 52 = .ok (.return_, 1) := by decide +kernel
theorem dX1_measureTo_53 : decode cX1_measureTo 53 = .ok (.aload_n 0, 1) := by decide +kernel
theorem dX1_measureTo_54 : decode cX1_measureTo 54 = .ok (.dup, 1) := by decide +kernel
theorem dX1_measureTo_55 : decode cX1_measureTo 55 = .ok (.getfield 19, 3) := by decide +kernel
theorem dX1_measureTo_58 : decode cX1_measureTo 58 = .ok (.lconst 1, 1) := by decide +kernel
theorem dX1_measureTo_59 : decode cX1_measureTo 59 = .ok (.iload_n 3, 1) := by decide +kernel
theorem dX1_measureTo_60 : decode cX1_measureTo 60 = .ok (.lshl, 1) := by decide +kernel
theorem dX1_measureTo_61 : decode cX1_measureTo 61 = .ok (.lor, 1) := by decide +kernel
theorem dX1_measureTo_62 : decode cX1_measureTo 62 = .ok (.putfield 19, 3) := by decide +kernel
theorem dX1_measureTo_65 : decode cX1_measureTo 65 = .ok (.aload_n 0, 1) := by decide +kernel
theorem dX1_measureTo_66 : decode cX1_measureTo 66 = .ok (.getfield 15, 3) := by decide +kernel
theorem dX1_measureTo_69 : decode cX1_measureTo 69 = .ok (.iload_n 3, 1) := by decide +kernel
theorem dX1_measureTo_70 : decode cX1_measureTo 70 = .ok (.iaload, 1) := by decide +kernel
theorem dX1_measureTo_71 : decode cX1_measureTo 71 = .ok (.aload_n 0, 1) := by decide +kernel
theorem dX1_measureTo_72 : decode cX1_measureTo 72 = .ok (.iload_n 3, 1) := by decide +kernel
theorem dX1_measureTo_73 : decode cX1_measureTo 73 = .ok (.invokevirtual 43, 3) := by decide +kernel
theorem dX1_measureTo_76 : decode cX1_measureTo 76 = .ok (.iadd, 1) := by decide +kernel
theorem dX1_measureTo_77 : decode cX1_measureTo 77 = .ok (.istore 4, 2) := by decide +kernel
theorem dX1_measureTo_79 : decode cX1_measureTo 79 = .ok (.iconst 0, 1) := by decide +kernel
theorem dX1_measureTo_80 : decode cX1_measureTo 80 = .ok (.istore 5, 2) := by decide +kernel
theorem dX1_measureTo_82 : decode cX1_measureTo 82 = .ok (.iload 5, 2) := by decide +kernel
theorem dX1_measureTo_84 : decode cX1_measureTo 84 = .ok (.iconst 4, 1) := by decide +kernel
theorem dX1_measureTo_85 : decode cX1_measureTo 85 = .ok (.if_icmp .ge 50, 3) := by decide +kernel
theorem dX1_measureTo_88 : decode cX1_measureTo 88 = .ok (.aload_n 0, 1) := by decide +kernel
theorem dX1_measureTo_89 : decode cX1_measureTo 89 = .ok (.getfield 9, 3) := by decide +kernel
theorem dX1_measureTo_92 : decode cX1_measureTo 92 = .ok (.iload_n 3, 1) := by decide +kernel
theorem dX1_measureTo_93 : decode cX1_measureTo 93 = .ok (.iload 5, 2) := by decide +kernel
theorem dX1_measureTo_95 : decode cX1_measureTo 95 = .ok (.invokevirtual 47, 3) := by decide +kernel
theorem dX1_measureTo_98 : decode cX1_measureTo 98 = .ok (.istore 6, 2) := by decide +kernel
theorem dX1_measureTo_100 : decode cX1_measureTo 100 = .ok (.iload 6, 2) := by decide +kernel
theorem dX1_measureTo_102 : decode cX1_measureTo 102 = .ok (.invokestatic 40, 3) := by decide +kernel
theorem dX1_measureTo_105 : decode cX1_measureTo 105 = .ok (.ifCond .eq 24, 3) := by decide +kernel
theorem dX1_measureTo_108 : decode cX1_measureTo 108 = .ok (.iload 4, 2) := by decide +kernel
theorem dX1_measureTo_110 : decode cX1_measureTo 110 = .ok (.aload_n 0, 1) := by decide +kernel
theorem dX1_measureTo_111 : decode cX1_measureTo 111 = .ok (.getfield 15, 3) := by decide +kernel
theorem dX1_measureTo_114 : decode cX1_measureTo 114 = .ok (.iload 6, 2) := by decide +kernel
theorem dX1_measureTo_116 : decode cX1_measureTo 116 = .ok (.iaload, 1) := by decide +kernel
theorem dX1_measureTo_117 : decode cX1_measureTo 117 = .ok (.if_icmp .ge 12, 3) := by decide +kernel
theorem dX1_measureTo_120 : decode cX1_measureTo 120 = .ok (.aload_n 0, 1) := by decide +kernel
theorem dX1_measureTo_121 : decode cX1_measureTo 121 = .ok (.getfield 15, 3) := by decide +kernel
theorem dX1_measureTo_124 : decode cX1_measureTo 124 = .ok (.iload 6, 2) := by decide +kernel
theorem dX1_measureTo_126 : decode cX1_measureTo 126 = .ok (.iload 4, 2) := by decide +kernel
theorem dX1_measureTo_128 : decode cX1_measureTo 128 = .ok (.iastore, 1) := by decide +kernel
theorem dX1_measureTo_129 : decode cX1_measureTo 129 = .ok (.iinc 5 1, 3) := by decide +kernel
theorem dX1_measureTo_132 : decode cX1_measureTo 132 = .ok (.goto (-50), 3) := by decide +kernel
theorem dX1_measureTo_135 : decode cX1_measureTo 135 = .ok (.iinc 2 1, 3) := by decide +kernel
theorem dX1_measureTo_138 : decode cX1_measureTo 138 = .ok (.goto (-104), 3) := by decide +kernel
theorem dX1_measureTo_141 : decode cX1_measureTo 141 = .ok (.return_, 1) := by decide +kernel
theorem dX1_cheapestOpen_0 : decode cX1_cheapestOpen 0 = .ok (.iconst (-1), 1) := by decide +kernel
theorem dX1_cheapestOpen_1 : decode cX1_cheapestOpen 1 = .ok (.istore_n 1, 1) := by decide +kernel
theorem dX1_cheapestOpen_2 : decode cX1_cheapestOpen 2 = .ok (.ldc 23, 2) := by decide +kernel
theorem dX1_cheapestOpen_4 : decode cX1_cheapestOpen 4 = .ok (.istore_n 2, 1) := by decide +kernel
theorem dX1_cheapestOpen_5 : decode cX1_cheapestOpen 5 = .ok (.iconst 0, 1) := by decide +kernel
theorem dX1_cheapestOpen_6 : decode cX1_cheapestOpen 6 = .ok (.istore_n 3, 1) := by decide +kernel
theorem dX1_cheapestOpen_7 : decode cX1_cheapestOpen 7 = .ok (.iload_n 3, 1) := by decide +kernel
theorem dX1_cheapestOpen_8 : decode cX1_cheapestOpen 8 = .ok (.bipush 64, 2) := by decide +kernel
theorem dX1_cheapestOpen_10 : decode cX1_cheapestOpen 10 = .ok (.if_icmp .ge 41, 3) := by decide +kernel
theorem dX1_cheapestOpen_13 : decode cX1_cheapestOpen 13 = .ok (.aload_n 0, 1) := by decide +kernel
theorem dX1_cheapestOpen_14 : decode cX1_cheapestOpen 14 = .ok (.getfield 15, 3) := by decide +kernel
theorem dX1_cheapestOpen_17 : decode cX1_cheapestOpen 17 = .ok (.iload_n 3, 1) := by decide +kernel
theorem dX1_cheapestOpen_18 : decode cX1_cheapestOpen 18 = .ok (.iaload, 1) := by decide +kernel
theorem dX1_cheapestOpen_19 : decode cX1_cheapestOpen 19 = .ok (.iload_n 2, 1) := by decide +kernel
theorem dX1_cheapestOpen_20 : decode cX1_cheapestOpen 20 = .ok (.if_icmp .ge 25, 3) := by decide +kernel
theorem dX1_cheapestOpen_23 : decode cX1_cheapestOpen 23 = .ok (.aload_n 0, 1) := by decide +kernel
theorem dX1_cheapestOpen_24 : decode cX1_cheapestOpen 24 = .ok (.getfield 19, 3) := by decide +kernel
theorem dX1_cheapestOpen_27 : decode cX1_cheapestOpen 27 = .ok (.iload_n 3, 1) := by decide +kernel
theorem dX1_cheapestOpen_28 : decode cX1_cheapestOpen 28 = .ok (.lushr, 1) := by decide +kernel
theorem dX1_cheapestOpen_29 : decode cX1_cheapestOpen 29 = .ok (.lconst 1, 1) := by decide +kernel
theorem dX1_cheapestOpen_30 : decode cX1_cheapestOpen 30 = .ok (.land, 1) := by decide +kernel
theorem dX1_cheapestOpen_31 : decode cX1_cheapestOpen 31 = .ok (.lconst 0, 1) := by decide +kernel
theorem dX1_cheapestOpen_32 : decode cX1_cheapestOpen 32 = .ok (.lcmp, 1) := by decide +kernel
theorem dX1_cheapestOpen_33 : decode cX1_cheapestOpen 33 = .ok (.ifCond .ne 12, 3) := by decide +kernel
theorem dX1_cheapestOpen_36 : decode cX1_cheapestOpen 36 = .ok (.iload_n 3, 1) := by decide +kernel
theorem dX1_cheapestOpen_37 : decode cX1_cheapestOpen 37 = .ok (.istore_n 1, 1) := by decide +kernel
theorem dX1_cheapestOpen_38 : decode cX1_cheapestOpen 38 = .ok (.aload_n 0, 1) := by decide +kernel
theorem dX1_cheapestOpen_39 : decode cX1_cheapestOpen 39 = .ok (.getfield 15, 3) := by decide +kernel
theorem dX1_cheapestOpen_42 : decode cX1_cheapestOpen 42 = .ok (.iload_n 3, 1) := by decide +kernel
theorem dX1_cheapestOpen_43 : decode cX1_cheapestOpen 43 = .ok (.iaload, 1) := by decide +kernel
theorem dX1_cheapestOpen_44 : decode cX1_cheapestOpen 44 = .ok (.istore_n 2, 1) := by decide +kernel
theorem dX1_cheapestOpen_45 : decode cX1_cheapestOpen 45 = .ok (.iinc 3 1, 3) := by decide +kernel
theorem dX1_cheapestOpen_48 : decode cX1_cheapestOpen 48 = .ok (.goto (-41), 3) := by decide +kernel
theorem dX1_cheapestOpen_51 : decode cX1_cheapestOpen 51 = .ok (.iload_n 1, 1) := by decide +kernel
theorem dX1_cheapestOpen_52 : decode cX1_cheapestOpen 52 = .ok (.ireturn, 1) := by decide +kernel
theorem dX1_tollInto_0 : decode cX1_tollInto 0 = .ok (.aload_n 0, 1) := by decide +kernel
theorem dX1_tollInto_1 : decode cX1_tollInto 1 = .ok (.getfield 9, 3) := by decide +kernel
theorem dX1_tollInto_4 : decode cX1_tollInto 4 = .ok (.iload_n 1, 1) := by decide +kernel
theorem dX1_tollInto_5 : decode cX1_tollInto 5 = .ok (.invokevirtual 51, 3) := by decide +kernel
theorem dX1_tollInto_8 : decode cX1_tollInto 8 = .ok (.bipush 64, 2) := by decide +kernel
theorem dX1_tollInto_10 : decode cX1_tollInto 10 = .ok (.imul, 1) := by decide +kernel
theorem dX1_tollInto_11 : decode cX1_tollInto 11 = .ok (.iconst 1, 1) := by decide +kernel
theorem dX1_tollInto_12 : decode cX1_tollInto 12 = .ok (.iadd, 1) := by decide +kernel
theorem dX1_tollInto_13 : decode cX1_tollInto 13 = .ok (.ireturn, 1) := by decide +kernel
theorem dX1_reaches_0 : decode cX1_reaches 0 = .ok (.iload_n 1, 1) := by decide +kernel
theorem dX1_reaches_1 : decode cX1_reaches 1 = .ok (.invokestatic 40, 3) := by decide +kernel
theorem dX1_reaches_4 : decode cX1_reaches 4 = .ok (.ifCond .eq 18, 3) := by decide +kernel
theorem dX1_reaches_7 : decode cX1_reaches 7 = .ok (.aload_n 0, 1) := by decide +kernel
theorem dX1_reaches_8 : decode cX1_reaches 8 = .ok (.getfield 15, 3) := by decide +kernel
theorem dX1_reaches_11 : decode cX1_reaches 11 = .ok (.iload_n 1, 1) := by decide +kernel
theorem dX1_reaches_12 : decode cX1_reaches 12 = .ok (.iaload, 1) := by decide +kernel
theorem dX1_reaches_13 : decode cX1_reaches 13 = .ok (.ldc 23, 2) := by decide +kernel
theorem dX1_reaches_15 : decode cX1_reaches 15 = .ok (.if_icmp .ge 7, 3) := by decide +kernel
theorem dX1_reaches_18 : decode cX1_reaches 18 = .ok (.iconst 1, 1) := by decide +kernel
theorem dX1_reaches_19 : decode cX1_reaches 19 = .ok (.goto 4, 3) := by decide +kernel
theorem dX1_reaches_22 : decode cX1_reaches 22 = .ok (.iconst 0, 1) := by decide +kernel
theorem dX1_reaches_23 : decode cX1_reaches 23 = .ok (.ireturn, 1) := by decide +kernel
theorem dX1_densityFrom_0 : decode cX1_densityFrom 0 = .ok (.aload_n 0, 1) := by decide +kernel
theorem dX1_densityFrom_1 : decode cX1_densityFrom 1 = .ok (.iload_n 1, 1) := by decide +kernel
theorem dX1_densityFrom_2 : decode cX1_densityFrom 2 = .ok (.invokevirtual 54, 3) := by decide +kernel
theorem dX1_densityFrom_5 : decode cX1_densityFrom 5 = .ok (.ifCond .eq 15, 3) := by decide +kernel
theorem dX1_densityFrom_8 : decode cX1_densityFrom 8 = .ok (.aload_n 0, 1) := by decide +kernel
theorem dX1_densityFrom_9 : decode cX1_densityFrom 9 = .ok (.getfield 15, 3) := by decide +kernel
theorem dX1_densityFrom_12 : decode cX1_densityFrom 12 = .ok (.iload_n 1, 1) := by decide +kernel
theorem dX1_densityFrom_13 : decode cX1_densityFrom 13 = .ok (.iaload, 1) := by decide +kernel
theorem dX1_densityFrom_14 : decode cX1_densityFrom 14 = .ok (.bipush 64, 2) := by decide +kernel
theorem dX1_densityFrom_16 : decode cX1_densityFrom 16 = .ok (.idiv, 1) := by decide +kernel
theorem dX1_densityFrom_17 : decode cX1_densityFrom 17 = .ok (.goto 4, 3) := by decide +kernel
theorem dX1_densityFrom_20 : decode cX1_densityFrom 20 = .ok (.iconst (-1), 1) := by decide +kernel
theorem dX1_densityFrom_21 : decode cX1_densityFrom 21 = .ok (.ireturn, 1) := by decide +kernel
theorem dX1_stepsFrom_0 : decode cX1_stepsFrom 0 = .ok (.aload_n 0, 1) := by decide +kernel
theorem dX1_stepsFrom_1 : decode cX1_stepsFrom 1 = .ok (.iload_n 1, 1) := by decide +kernel
theorem dX1_stepsFrom_2 : decode cX1_stepsFrom 2 = .ok (.invokevirtual 54, 3) := by decide +kernel
theorem dX1_stepsFrom_5 : decode cX1_stepsFrom 5 = .ok (.ifCond .eq 15, 3) := by decide +kernel
theorem dX1_stepsFrom_8 : decode cX1_stepsFrom 8 = .ok (.aload_n 0, 1) := by decide +kernel
theorem dX1_stepsFrom_9 : decode cX1_stepsFrom 9 = .ok (.getfield 15, 3) := by decide +kernel
theorem dX1_stepsFrom_12 : decode cX1_stepsFrom 12 = .ok (.iload_n 1, 1) := by decide +kernel
theorem dX1_stepsFrom_13 : decode cX1_stepsFrom 13 = .ok (.iaload, 1) := by decide +kernel
theorem dX1_stepsFrom_14 : decode cX1_stepsFrom 14 = .ok (.bipush 64, 2) := by decide +kernel
theorem dX1_stepsFrom_16 : decode cX1_stepsFrom 16 = .ok (.irem, 1) := by decide +kernel
theorem dX1_stepsFrom_17 : decode cX1_stepsFrom 17 = .ok (.goto 4, 3) := by decide +kernel
theorem dX1_stepsFrom_20 : decode cX1_stepsFrom 20 = .ok (.iconst (-1), 1) := by decide +kernel
theorem dX1_stepsFrom_21 : decode cX1_stepsFrom 21 = .ok (.ireturn, 1) := by decide +kernel
theorem dX1_letterAt_0 : decode cX1_letterAt 0 = .ok (.iload_n 1, 1) := by decide +kernel
theorem dX1_letterAt_1 : decode cX1_letterAt 1 = .ok (.istore_n 3, 1) := by decide +kernel
theorem dX1_letterAt_2 : decode cX1_letterAt 2 = .ok (.iconst 0, 1) := by decide +kernel
theorem dX1_letterAt_3 : decode cX1_letterAt 3 = .ok (.istore 4, 2) := by decide +kernel
theorem dX1_letterAt_5 : decode cX1_letterAt 5 = .ok (.iload 4, 2) := by decide +kernel
theorem dX1_letterAt_7 : decode cX1_letterAt 7 = .ok (.bipush 64, 2) := by decide +kernel
theorem dX1_letterAt_9 : decode cX1_letterAt 9 = .ok (.if_icmp .ge 42, 3) := by decide +kernel
theorem dX1_letterAt_12 : decode cX1_letterAt 12 = .ok (.aload_n 0, 1) := by decide +kernel
theorem dX1_letterAt_13 : decode cX1_letterAt 13 = .ok (.iload_n 3, 1) := by decide +kernel
theorem dX1_letterAt_14 : decode cX1_letterAt 14 = .ok (.invokevirtual 57, 3) := by decide +kernel
theorem dX1_letterAt_17 : decode cX1_letterAt 17 = .ok (.istore 5, 2) := by decide +kernel
theorem dX1_letterAt_19 : decode cX1_letterAt 19 = .ok (.iload 5, 2) := by decide +kernel
theorem dX1_letterAt_21 : decode cX1_letterAt 21 = .ok (.iconst (-1), 1) := by decide +kernel
theorem dX1_letterAt_22 : decode cX1_letterAt 22 = .ok (.if_icmp .eq 9, 3) := by decide +kernel
theorem dX1_letterAt_25 : decode cX1_letterAt 25 = .ok (.iload 4, 2) := by decide +kernel
theorem dX1_letterAt_27 : decode cX1_letterAt 27 = .ok (.iload_n 2, 1) := by decide +kernel
theorem dX1_letterAt_28 : decode cX1_letterAt 28 = .ok (.if_icmp .ne 6, 3) := by decide +kernel
theorem dX1_letterAt_31 : decode cX1_letterAt 31 = .ok (.iload 5, 2) := by decide +kernel
theorem dX1_letterAt_33 : decode cX1_letterAt 33 = .ok (.ireturn, 1) := by decide +kernel
theorem dX1_letterAt_34 : decode cX1_letterAt 34 = .ok (.aload_n 0, 1) := by decide +kernel
theorem dX1_letterAt_35 : decode cX1_letterAt 35 = .ok (.getfield 9, 3) := by decide +kernel
theorem dX1_letterAt_38 : decode cX1_letterAt 38 = .ok (.iload_n 3, 1) := by decide +kernel
theorem dX1_letterAt_39 : decode cX1_letterAt 39 = .ok (.iload 5, 2) := by decide +kernel
theorem dX1_letterAt_41 : decode cX1_letterAt 41 = .ok (.invokevirtual 47, 3) := by decide +kernel
theorem dX1_letterAt_44 : decode cX1_letterAt 44 = .ok (.istore_n 3, 1) := by decide +kernel
theorem dX1_letterAt_45 : decode cX1_letterAt 45 = .ok (.iinc 4 1, 3) := by decide +kernel
theorem dX1_letterAt_48 : decode cX1_letterAt 48 = .ok (.goto (-43), 3) := by decide +kernel
theorem dX1_letterAt_51 : decode cX1_letterAt 51 = .ok (.iconst (-1), 1) := by decide +kernel
theorem dX1_letterAt_52 : decode cX1_letterAt 52 = .ok (.ireturn, 1) := by decide +kernel
theorem dX1_firstLetter_0 : decode cX1_firstLetter 0 = .ok (.aload_n 0, 1) := by decide +kernel
theorem dX1_firstLetter_1 : decode cX1_firstLetter 1 = .ok (.iload_n 1, 1) := by decide +kernel
theorem dX1_firstLetter_2 : decode cX1_firstLetter 2 = .ok (.invokevirtual 54, 3) := by decide +kernel
theorem dX1_firstLetter_5 : decode cX1_firstLetter 5 = .ok (.ifCond .ne 5, 3) := by decide +kernel
theorem dX1_firstLetter_8 : decode cX1_firstLetter 8 = .ok (.iconst (-1), 1) := by decide +kernel
theorem dX1_firstLetter_9 : decode cX1_firstLetter 9 = .ok (.ireturn, 1) := by decide +kernel
theorem dX1_firstLetter_10 : decode cX1_firstLetter 10 = .ok (.iconst 0, 1) := by decide +kernel
theorem dX1_firstLetter_11 : decode cX1_firstLetter 11 = .ok (.istore_n 2, 1) := by decide +kernel
theorem dX1_firstLetter_12 : decode cX1_firstLetter 12 = .ok (.iload_n 2, 1) := by decide +kernel
theorem dX1_firstLetter_13 : decode cX1_firstLetter 13 = .ok (.iconst 4, 1) := by decide +kernel
theorem dX1_firstLetter_14 : decode cX1_firstLetter 14 = .ok (.if_icmp .ge 50, 3) := by decide +kernel
theorem dX1_firstLetter_17 : decode cX1_firstLetter 17 = .ok (.aload_n 0, 1) := by decide +kernel
theorem dX1_firstLetter_18 : decode cX1_firstLetter 18 = .ok (.getfield 9, 3) := by decide +kernel
theorem dX1_firstLetter_21 : decode cX1_firstLetter 21 = .ok (.iload_n 1, 1) := by decide +kernel
theorem dX1_firstLetter_22 : decode cX1_firstLetter 22 = .ok (.iload_n 2, 1) := by decide +kernel
theorem dX1_firstLetter_23 : decode cX1_firstLetter 23 = .ok (.invokevirtual 47, 3) := by decide +kernel
theorem dX1_firstLetter_26 : decode cX1_firstLetter 26 = .ok (.istore_n 3, 1) := by decide +kernel
theorem dX1_firstLetter_27 : decode cX1_firstLetter 27 = .ok (.aload_n 0, 1) := by decide +kernel
theorem dX1_firstLetter_28 : decode cX1_firstLetter 28 = .ok (.iload_n 3, 1) := by decide +kernel
theorem dX1_firstLetter_29 : decode cX1_firstLetter 29 = .ok (.invokevirtual 54, 3) := by decide +kernel
theorem dX1_firstLetter_32 : decode cX1_firstLetter 32 = .ok (.ifCond .eq 26, 3) := by decide +kernel
theorem dX1_firstLetter_35 : decode cX1_firstLetter 35 = .ok (.aload_n 0, 1) := by decide +kernel
theorem dX1_firstLetter_36 : decode cX1_firstLetter 36 = .ok (.getfield 15, 3) := by decide +kernel
theorem dX1_firstLetter_39 : decode cX1_firstLetter 39 = .ok (.iload_n 3, 1) := by decide +kernel
theorem dX1_firstLetter_40 : decode cX1_firstLetter 40 = .ok (.iaload, 1) := by decide +kernel
theorem dX1_firstLetter_41 : decode cX1_firstLetter 41 = .ok (.aload_n 0, 1) := by decide +kernel
theorem dX1_firstLetter_42 : decode cX1_firstLetter 42 = .ok (.iload_n 3, 1) := by decide +kernel
theorem dX1_firstLetter_43 : decode cX1_firstLetter 43 = .ok (.invokevirtual 43, 3) := by decide +kernel
theorem dX1_firstLetter_46 : decode cX1_firstLetter 46 = .ok (.iadd, 1) := by decide +kernel
theorem dX1_firstLetter_47 : decode cX1_firstLetter 47 = .ok (.aload_n 0, 1) := by decide +kernel
theorem dX1_firstLetter_48 : decode cX1_firstLetter 48 = .ok (.getfield 15, 3) := by decide +kernel
theorem dX1_firstLetter_51 : decode cX1_firstLetter 51 = .ok (.iload_n 1, 1) := by decide +kernel
theorem dX1_firstLetter_52 : decode cX1_firstLetter 52 = .ok (.iaload, 1) := by decide +kernel
theorem dX1_firstLetter_53 : decode cX1_firstLetter 53 = .ok (.if_icmp .ne 5, 3) := by decide +kernel
theorem dX1_firstLetter_56 : decode cX1_firstLetter 56 = .ok (.iload_n 2, 1) := by decide +kernel
theorem dX1_firstLetter_57 : decode cX1_firstLetter 57 = .ok (.ireturn, 1) := by decide +kernel
theorem dX1_firstLetter_58 : decode cX1_firstLetter 58 = .ok (.iinc 2 1, 3) := by decide +kernel
theorem dX1_firstLetter_61 : decode cX1_firstLetter 61 = .ok (.goto (-49), 3) := by decide +kernel
theorem dX1_firstLetter_64 : decode cX1_firstLetter 64 = .ok (.iconst (-1), 1) := by decide +kernel
theorem dX1_firstLetter_65 : decode cX1_firstLetter 65 = .ok (.ireturn, 1) := by decide +kernel
theorem dX2_init_0 : decode cX2_init 0 = .ok (.aload_n 0, 1) := by decide +kernel
theorem dX2_init_1 : decode cX2_init 1 = .ok (.invokespecial 3, 3) := by decide +kernel
theorem dX2_init_4 : decode cX2_init 4 = .ok (.aload_n 0, 1) := by decide +kernel
theorem dX2_init_5 : decode cX2_init 5 = .ok (.bipush 64, 2) := by decide +kernel
theorem dX2_init_7 : decode cX2_init 7 = .ok (.newarray .int, 2) := by decide +kernel
theorem dX2_init_9 : decode cX2_init 9 = .ok (.putfield 9, 3) := by decide +kernel
theorem dX2_init_12 : decode cX2_init 12 = .ok (.aload_n 0, 1) := by decide +kernel
theorem dX2_init_13 : decode cX2_init 13 = .ok (.sipush 256, 3) := by decide +kernel
theorem dX2_init_16 : decode cX2_init 16 = .ok (.newarray .int, 2) := by decide +kernel
theorem dX2_init_18 : decode cX2_init 18 = .ok (.putfield 15, 3) := by decide +kernel
theorem dX2_init_21 : decode cX2_init 21 = .ok (.aload_n 0, 1) := by decide +kernel
theorem dX2_init_22 : decode cX2_init 22 = .ok (.getfield 9, 3) := by decide +kernel
theorem dX2_init_25 : decode cX2_init 25 = .ok (.iconst (-1), 1) := by decide +kernel
theorem dX2_init_26 : decode cX2_init 26 = .ok (.invokestatic 18, 3) := by decide +kernel
theorem dX2_init_29 : decode cX2_init 29 = .ok (.aload_n 0, 1) := by decide +kernel
theorem dX2_init_30 : decode cX2_init 30 = .ok (.getfield 15, 3) := by decide +kernel
theorem dX2_init_33 : decode cX2_init 33 = .ok (.iconst (-1), 1) := by decide +kernel
theorem dX2_init_34 : decode cX2_init 34 = .ok (.invokestatic 18, 3) := by decide +kernel
theorem dX2_init_37 : decode cX2_init 37 = .ok (.aload_n 0, 1) := by decide +kernel
theorem dX2_init_38 : decode cX2_init 38 = .ok (.iconst 0, 1) := by decide +kernel
theorem dX2_init_39 : decode cX2_init 39 = .ok (.putfield 24, 3) := by decide +kernel
theorem dX2_init_42 : decode cX2_init 42 = .ok (.return_, 1) := by decide +kernel
theorem dX2_isCell_0 : decode cX2_isCell 0 = .ok (.iload_n 0, 1) := by decide +kernel
theorem dX2_isCell_1 : decode cX2_isCell 1 = .ok (.ifCond .lt 13, 3) := by decide +kernel
theorem dX2_isCell_4 : decode cX2_isCell 4 = .ok (.iload_n 0, 1) := by decide +kernel
theorem dX2_isCell_5 : decode cX2_isCell 5 = .ok (.bipush 64, 2) := by decide +kernel
theorem dX2_isCell_7 : decode cX2_isCell 7 = .ok (.if_icmp .ge 7, 3) := by decide +kernel
theorem dX2_isCell_10 : decode cX2_isCell 10 = .ok (.iconst 1, 1) := by decide +kernel
theorem dX2_isCell_11 : decode cX2_isCell 11 = .ok (.goto 4, 3) := by decide +kernel
theorem dX2_isCell_14 : decode cX2_isCell 14 = .ok (.iconst 0, 1) := by decide +kernel
theorem dX2_isCell_15 : decode cX2_isCell 15 = .ok (.ireturn, 1) := by decide +kernel
theorem dX2_isPlace_0 : decode cX2_isPlace 0 = .ok (.iload_n 1, 1) := by decide +kernel
theorem dX2_isPlace_1 : decode cX2_isPlace 1 = .ok (.ifCond .lt 23, 3) := by decide +kernel
theorem dX2_isPlace_4 : decode cX2_isPlace 4 = .ok (.iload_n 1, 1) := by decide +kernel
theorem dX2_isPlace_5 : decode cX2_isPlace 5 = .ok (.bipush 64, 2) := by decide +kernel
theorem dX2_isPlace_7 : decode cX2_isPlace 7 = .ok (.if_icmp .ge 17, 3) := by decide +kernel
theorem dX2_isPlace_10 : decode cX2_isPlace 10 = .ok (.aload_n 0, 1) := by decide +kernel
theorem dX2_isPlace_11 : decode cX2_isPlace 11 = .ok (.getfield 9, 3) := by decide +kernel
theorem dX2_isPlace_14 : decode cX2_isPlace 14 = .ok (.iload_n 1, 1) := by decide +kernel
theorem dX2_isPlace_15 : decode cX2_isPlace 15 = .ok (.iaload, 1) := by decide +kernel
theorem dX2_isPlace_16 : decode cX2_isPlace 16 = .ok (.iconst (-1), 1) := by decide +kernel
theorem dX2_isPlace_17 : decode cX2_isPlace 17 = .ok (.if_icmp .eq 7, 3) := by decide +kernel
theorem dX2_isPlace_20 : decode cX2_isPlace 20 = .ok (.iconst 1, 1) := by decide +kernel
theorem dX2_isPlace_21 : decode cX2_isPlace 21 = .ok (.goto 4, 3) := by decide +kernel
theorem dX2_isPlace_24 : decode cX2_isPlace 24 = .ok (.iconst 0, 1) := by decide +kernel
theorem dX2_isPlace_25 : decode cX2_isPlace 25 = .ok (.ireturn, 1) := by decide +kernel
theorem dX2_densityOf_0 : decode cX2_densityOf 0 = .ok (.iload_n 1, 1) := by decide +kernel
theorem dX2_densityOf_1 : decode cX2_densityOf 1 = .ok (.ifCond .lt 28, 3) := by decide +kernel
theorem dX2_densityOf_4 : decode cX2_densityOf 4 = .ok (.iload_n 1, 1) := by decide +kernel
theorem dX2_densityOf_5 : decode cX2_densityOf 5 = .ok (.bipush 64, 2) := by decide +kernel
theorem dX2_densityOf_7 : decode cX2_densityOf 7 = .ok (.if_icmp .ge 22, 3) := by decide +kernel
theorem dX2_densityOf_10 : decode cX2_densityOf 10 = .ok (.aload_n 0, 1) := by decide +kernel
theorem dX2_densityOf_11 : decode cX2_densityOf 11 = .ok (.getfield 9, 3) := by decide +kernel
theorem dX2_densityOf_14 : decode cX2_densityOf 14 = .ok (.iload_n 1, 1) := by decide +kernel
theorem dX2_densityOf_15 : decode cX2_densityOf 15 = .ok (.iaload, 1) := by decide +kernel
theorem dX2_densityOf_16 : decode cX2_densityOf 16 = .ok (.iconst (-1), 1) := by decide +kernel
theorem dX2_densityOf_17 : decode cX2_densityOf 17 = .ok (.if_icmp .eq 12, 3) := by decide +kernel
theorem dX2_densityOf_20 : decode cX2_densityOf 20 = .ok (.aload_n 0, 1) := by decide +kernel
theorem dX2_densityOf_21 : decode cX2_densityOf 21 = .ok (.getfield 9, 3) := by decide +kernel
theorem dX2_densityOf_24 : decode cX2_densityOf 24 = .ok (.iload_n 1, 1) := by decide +kernel
theorem dX2_densityOf_25 : decode cX2_densityOf 25 = .ok (.iaload, 1) := by decide +kernel
theorem dX2_densityOf_26 : decode cX2_densityOf 26 = .ok (.goto 4, 3) := by decide +kernel
theorem dX2_densityOf_29 : decode cX2_densityOf 29 = .ok (.iconst 0, 1) := by decide +kernel
theorem dX2_densityOf_30 : decode cX2_densityOf 30 = .ok (.ireturn, 1) := by decide +kernel
theorem dX2_beside_0 : decode cX2_beside 0 = .ok (.iload_n 1, 1) := by decide +kernel
theorem dX2_beside_1 : decode cX2_beside 1 = .ok (.iconst 4, 1) := by decide +kernel
theorem dX2_beside_2 : decode cX2_beside 2 = .ok (.imul, 1) := by decide +kernel
theorem dX2_beside_3 : decode cX2_beside 3 = .ok (.iload_n 2, 1) := by decide +kernel
theorem dX2_beside_4 : decode cX2_beside 4 = .ok (.iadd, 1) := by decide +kernel
theorem dX2_beside_5 : decode cX2_beside 5 = .ok (.istore_n 3, 1) := by decide +kernel
theorem dX2_beside_6 : decode cX2_beside 6 = .ok (.iload_n 3, 1) := by decide +kernel
theorem dX2_beside_7 : decode cX2_beside 7 = .ok (.ifCond .lt 19, 3) := by decide +kernel
theorem dX2_beside_10 : decode cX2_beside 10 = .ok (.iload_n 3, 1) := by decide +kernel
theorem dX2_beside_11 : decode cX2_beside 11 = .ok (.sipush 256, 3) := by decide +kernel
theorem dX2_beside_14 : decode cX2_beside 14 = .ok (.if_icmp .ge 12, 3) := by decide +kernel
theorem dX2_beside_17 : decode cX2_beside 17 = .ok (.aload_n 0, 1) := by decide +kernel
theorem dX2_beside_18 : decode cX2_beside 18 = .ok (.getfield 15, 3) := by decide +kernel
theorem dX2_beside_21 : decode cX2_beside 21 = .ok (.iload_n 3, 1) := by decide +kernel
theorem dX2_beside_22 : decode cX2_beside 22 = .ok (.iaload, 1) := by decide +kernel
theorem dX2_beside_23 : decode cX2_beside 23 = .ok (.goto 4, 3) := by decide +kernel
theorem dX2_beside_26 : decode cX2_beside 26 = .ok (.iconst (-1), 1) := by decide +kernel
theorem dX2_beside_27 : decode cX2_beside 27 = .ok (.ireturn, 1) := by decide +kernel
theorem dX2_takeText_0 : decode cX2_takeText 0 = .ok (.aload_n 0, 1) := by decide +kernel
theorem dX2_takeText_1 : decode cX2_takeText 1 = .ok (.getfield 9, 3) := by decide +kernel
theorem dX2_takeText_4 : decode cX2_takeText 4 = .ok (.iconst (-1), 1) := by decide +kernel
theorem dX2_takeText_5 : decode cX2_takeText 5 = .ok (.invokestatic 18, 3) := by decide +kernel
theorem dX2_takeText_8 : decode cX2_takeText 8 = .ok (.aload_n 0, 1) := by decide +kernel
theorem dX2_takeText_9 : decode cX2_takeText 9 = .ok (.getfield 15, 3) := by decide +kernel
theorem dX2_takeText_12 : decode cX2_takeText 12 = .ok (.iconst (-1), 1) := by decide +kernel
theorem dX2_takeText_13 : decode cX2_takeText 13 = .ok (.invokestatic 18, 3) := by decide +kernel
theorem dX2_takeText_16 : decode cX2_takeText 16 = .ok (.aload_n 0, 1) := by decide +kernel
theorem dX2_takeText_17 : decode cX2_takeText 17 = .ok (.iconst 0, 1) := by decide +kernel
theorem dX2_takeText_18 : decode cX2_takeText 18 = .ok (.putfield 24, 3) := by decide +kernel
theorem dX2_takeText_21 : decode cX2_takeText 21 = .ok (.aload_n 0, 1) := by decide +kernel
theorem dX2_takeText_22 : decode cX2_takeText 22 = .ok (.aload_n 1, 1) := by decide +kernel
theorem dX2_takeText_23 : decode cX2_takeText 23 = .ok (.invokevirtual 28, 3) := by decide +kernel
theorem dX2_takeText_26 : decode cX2_takeText 26 = .ok (.istore_n 2, 1) := by decide +kernel
theorem dX2_takeText_27 : decode cX2_takeText 27 = .ok (.iload_n 2, 1) := by decide +kernel
theorem dX2_takeText_28 : decode cX2_takeText 28 = .ok (.iconst (-1), 1) := by decide +kernel
theorem dX2_takeText_29 : decode cX2_takeText 29 = .ok (.if_icmp .ne 10, 3) := by decide +kernel
theorem dX2_takeText_32 : decode cX2_takeText 32 = .ok (.aload_n 0, 1) := by decide +kernel
theorem dX2_takeText_33 : decode cX2_takeText 33 = .ok (.invokevirtual 32, 3) := by decide +kernel
theorem dX2_takeText_36 : decode cX2_takeText 36 = .ok (.goto 11, 3) := by decide +kernel
theorem dX2_takeText_39 : decode cX2_takeText 39 = .ok (.aload_n 0, 1) := by decide +kernel
theorem dX2_takeText_40 : decode cX2_takeText 40 = .ok (.getfield 9, 3) := by decide +kernel
theorem dX2_takeText_43 : decode cX2_takeText 43 = .ok (.iconst (-1), 1) := by decide +kernel
theorem dX2_takeText_44 : decode cX2_takeText 44 = .ok (.invokestatic 18, 3) := by decide +kernel
theorem dX2_takeText_47 : decode cX2_takeText 47 = .ok (.iload_n 2, 1) := by decide +kernel
theorem dX2_takeText_48 : decode cX2_takeText 48 = .ok (.ireturn, 1) := by decide +kernel
theorem dX2_layRows_0 : decode cX2_layRows 0 = .ok (.iconst 0, 1) := by decide +kernel
theorem dX2_layRows_1 : decode cX2_layRows 1 = .ok (.istore_n 2, 1) := by decide +kernel
theorem dX2_layRows_2 : decode cX2_layRows 2 = .ok (.iconst 0, 1) := by decide +kernel
theorem dX2_layRows_3 : decode cX2_layRows 3 = .ok (.istore_n 3, 1) := by decide +kernel
theorem dX2_layRows_4 : decode cX2_layRows 4 = .ok (.bipush 8, 2) := by decide +kernel
theorem dX2_layRows_6 : decode cX2_layRows 6 = .ok (.istore 4, 2) := by decide +kernel
theorem dX2_layRows_8 : decode cX2_layRows 8 = .ok (.iconst 0, 1) := by decide +kernel
theorem dX2_layRows_9 : decode cX2_layRows 9 = .ok (.istore 5, 2) := by decide +kernel
theorem dX2_layRows_11 : decode cX2_layRows 11 = .ok (.iload 5, 2) := by decide +kernel
theorem dX2_layRows_13 : decode cX2_layRows 13 = .ok (.aload_n 1, 1) := by decide +kernel
theorem dX2_layRows_14 : decode cX2_layRows 14 = .ok (.getfield 35, 3) := by decide +kernel
theorem dX2_layRows_17 : decode cX2_layRows 17 = .ok (.if_icmp .ge 131, 3) := by decide +kernel
theorem dX2_layRows_20 : decode cX2_layRows 20 = .ok (.aload_n 1, 1) := by decide +kernel
theorem dX2_layRows_21 : decode cX2_layRows 21 = .ok (.iload 5, 2) := by decide +kernel
theorem dX2_layRows_23 : decode cX2_layRows 23 = .ok (.invokevirtual 40, 3) := by decide +kernel
theorem dX2_layRows_26 : decode cX2_layRows 26 = .ok (.istore 6, 2) := by decide +kernel
theorem dX2_layRows_28 : decode cX2_layRows 28 = .ok (.iload_n 2, 1) := by decide +kernel
theorem dX2_layRows_29 : decode cX2_layRows 29 = .ok (.bipush 8, 2) := by decide +kernel
theorem dX2_layRows_31 : decode cX2_layRows 31 = .ok (.if_icmp .lt 6, 3) := by decide +kernel
theorem dX2_layRows_34 : decode cX2_layRows 34 = .ok (.iload 5, 2) := by decide +kernel
theorem dX2_layRows_36 : decode cX2_layRows 36 = .ok (.ireturn, 1) := by decide +kernel
theorem dX2_layRows_37 : decode cX2_layRows 37 = .ok (.iload 6, 2) := by decide +kernel
theorem dX2_layRows_39 : decode cX2_layRows 39 = .ok (.bipush 59, 2) := by decide +kernel
theorem dX2_layRows_41 : decode cX2_layRows 41 = .ok (.if_icmp .ne 31, 3) := by decide +kernel
theorem dX2_layRows_44 : decode cX2_layRows 44 = .ok (.iload_n 3, 1) := by decide +kernel
theorem dX2_layRows_45 : decode cX2_layRows 45 = .ok (.ifCond .eq 13, 3) := by decide +kernel
theorem dX2_layRows_48 : decode cX2_layRows 48 = .ok (.iload_n 2, 1) := by decide +kernel
theorem dX2_layRows_49 : decode cX2_layRows 49 = .ok (.ifCond .le 12, 3) := by decide +kernel
theorem dX2_layRows_52 : decode cX2_layRows 52 = .ok (.iload_n 3, 1) := by decide +kernel
theorem dX2_layRows_53 : decode cX2_layRows 53 = .ok (.iload 4, 2) := by decide +kernel
theorem dX2_layRows_55 : decode cX2_layRows 55 = .ok (.if_icmp .ge 6, 3) := by decide +kernel
theorem dX2_layRows_58 : decode cX2_layRows 58 = .ok (.iload 5, 2) := by decide +kernel
theorem dX2_layRows_60 : decode cX2_layRows 60 = .ok (.ireturn, 1) := by decide +kernel
theorem dX2_layRows_61 : decode cX2_layRows 61 = .ok (.iload_n 3, 1) := by decide +kernel
theorem dX2_layRows_62 : decode cX2_layRows 62 = .ok (.istore 4, 2) := by decide +kernel
theorem dX2_layRows_64 : decode cX2_layRows 64 = .ok (.iinc 2 1, 3) := by decide +kernel
theorem dX2_layRows_67 : decode cX2_layRows 67 = .ok (.iconst 0, 1) := by decide +kernel
theorem dX2_layRows_68 : decode cX2_layRows 68 = .ok (.istore_n 3, 1) := by decide +kernel
theorem dX2_layRows_69 : decode cX2_layRows 69 = .ok (.goto 73, 3) := by decide +kernel
theorem dX2_layRows_72 : decode cX2_layRows 72 = .ok (.iload 6, 2) := by decide +kernel
theorem dX2_layRows_74 : decode cX2_layRows 74 = .ok (.bipush 48, 2) := by decide +kernel
theorem dX2_layRows_76 : decode cX2_layRows 76 = .ok (.if_icmp .lt 14, 3) := by decide +kernel
theorem dX2_layRows_79 : decode cX2_layRows 79 = .ok (.iload 6, 2) := by decide +kernel
theorem dX2_layRows_81 : decode cX2_layRows 81 = .ok (.bipush 57, 2) := by decide +kernel
theorem dX2_layRows_83 : decode cX2_layRows 83 = .ok (.if_icmp .gt 7, 3) := by decide +kernel
theorem dX2_layRows_86 : decode cX2_layRows 86 = .ok (.iconst 1, 1) := by decide +kernel
theorem dX2_layRows_87 : decode cX2_layRows 87 = .ok (.goto 4, 3) := by decide +kernel
theorem dX2_layRows_90 : decode cX2_layRows 90 = .ok (.iconst 0, 1) := by decide +kernel
theorem dX2_layRows_91 : decode cX2_layRows 91 = .ok (.istore 7, 2) := by decide +kernel
theorem dX2_layRows_93 : decode cX2_layRows 93 = .ok (.iload_n 3, 1) := by decide +kernel
theorem dX2_layRows_94 : decode cX2_layRows 94 = .ok (.iload 4, 2) := by decide +kernel
theorem dX2_layRows_96 : decode cX2_layRows 96 = .ok (.if_icmp .ge 15, 3) := by decide +kernel
theorem dX2_layRows_99 : decode cX2_layRows 99 = .ok (.iload 7, 2) := by decide +kernel
theorem dX2_layRows_101 : decode cX2_layRows 101 = .ok (.ifCond .ne 13, 3) := by decide +kernel
theorem dX2_layRows_104 : decode cX2_layRows 104 = .ok (.iload 6, 2) := by decide +kernel
theorem dX2_layRows_106 : decode cX2_layRows 106 = .ok (.bipush 35, 2) := by decide +kernel
theorem dX2_layRows_108 : decode cX2_layRows 108 = .ok (.if_icmp .eq 6, 3) := by decide +kernel
theorem dX2_layRows_111 : decode cX2_layRows 111 = .ok (.iload 5, 2) := by decide +kernel
theorem dX2_layRows_113 : decode cX2_layRows 113 = .ok (.ireturn, 1) := by decide +kernel
theorem dX2_layRows_114 : decode cX2_layRows 114 = .ok (.aload_n 0, 1) := by decide +kernel
theorem dX2_layRows_115 : decode cX2_layRows 115 = .ok (.getfield 9, 3) := by decide +kernel
theorem dX2_layRows_118 : decode cX2_layRows 118 = .ok (.bipush 8, 2) := by decide +kernel
theorem dX2_layRows_120 : decode cX2_layRows 120 = .ok (.iload_n 2, 1) := by decide +kernel
theorem dX2_layRows_121 : decode cX2_layRows 121 = .ok (.imul, 1) := by decide +kernel
theorem dX2_layRows_122 : decode cX2_layRows 122 = .ok (.iload_n 3, 1) := by decide +kernel
theorem dX2_layRows_123 : decode cX2_layRows 123 = .ok (.iadd, 1) := by decide +kernel
theorem dX2_layRows_124 : decode cX2_layRows 124 = .ok (.iload 7, 2) := by decide +kernel
theorem dX2_layRows_126 : decode cX2_layRows 126 = .ok (.ifCond .eq 11, 3) := by decide +kernel
theorem dX2_layRows_129 : decode cX2_layRows 129 = .ok (.iload 6, 2) := by decide +kernel
theorem dX2_layRows_131 : decode cX2_layRows 131 = .ok (.bipush 48, 2) := by decide +kernel
theorem dX2_layRows_133 : decode cX2_layRows 133 = .ok (.isub, 1) := by decide +kernel
theorem dX2_layRows_134 : decode cX2_layRows 134 = .ok (.goto 4, 3) := by decide +kernel
theorem dX2_layRows_137 : decode cX2_layRows 137 = .ok (.iconst (-1), 1) := by decide +kernel
theorem dX2_layRows_138 : decode cX2_layRows 138 = .ok (.iastore, 1) := by decide +kernel
theorem dX2_layRows_139 : decode cX2_layRows 139 = .ok (.iinc 3 1, 3) := by decide +kernel
theorem dX2_layRows_142 : decode cX2_layRows 142 = .ok (.iinc 5 1, 3) := by decide +kernel
theorem dX2_layRows_145 : decode cX2_layRows 145 = .ok (.goto (-134), 3) := by decide +kernel
theorem dX2_layRows_148 : decode cX2_layRows 148 = .ok (.iload_n 2, 1) := by decide +kernel
theorem dX2_layRows_149 : decode cX2_layRows 149 = .ok (.ifCond .le 16, 3) := by decide +kernel
theorem dX2_layRows_152 : decode cX2_layRows 152 = .ok (.iload_n 3, 1) := by decide +kernel
theorem dX2_layRows_153 : decode cX2_layRows 153 = .ok (.iload 4, 2) := by decide +kernel
theorem dX2_layRows_155 : decode cX2_layRows 155 = .ok (.if_icmp .ge 10, 3) := by decide +kernel
theorem dX2_layRows_158 : decode cX2_layRows 158 = .ok (.aload_n 1, 1) := by decide +kernel
theorem dX2_layRows_159 : decode cX2_layRows 159 = .ok (.getfield 35, 3) := by decide +kernel
theorem dX2_layRows_162 : decode cX2_layRows 162 = .ok (.goto 4, 3) := by decide +kernel
theorem dX2_layRows_165 : decode cX2_layRows 165 = .ok (.iconst (-1), 1) := by decide +kernel
theorem dX2_layRows_166 : decode cX2_layRows 166 = .ok (.ireturn, 1) := by decide +kernel
theorem dX2_link_0 : decode cX2_link 0 = .ok (.iconst 0, 1) := by decide +kernel
theorem dX2_link_1 : decode cX2_link 1 = .ok (.istore_n 1, 1) := by decide +kernel
theorem dX2_link_2 : decode cX2_link 2 = .ok (.iload_n 1, 1) := by decide +kernel
theorem dX2_link_3 : decode cX2_link 3 = .ok (.bipush 64, 2) := by decide +kernel
theorem dX2_link_5 : decode cX2_link 5 = .ok (.if_icmp .ge 115, 3) := by decide +kernel
theorem dX2_link_8 : decode cX2_link 8 = .ok (.aload_n 0, 1) := by decide +kernel
theorem dX2_link_9 : decode cX2_link 9 = .ok (.iload_n 1, 1) := by decide +kernel
theorem dX2_link_10 : decode cX2_link 10 = .ok (.invokevirtual 44, 3) := by decide +kernel
theorem dX2_link_13 : decode cX2_link 13 = .ok (.ifCond .eq 101, 3) := by decide +kernel
theorem dX2_link_16 : decode cX2_link 16 = .ok (.aload_n 0, 1) := by decide +kernel
theorem dX2_link_17 : decode cX2_link 17 = .ok (.dup, 1) := by decide +kernel
theorem dX2_link_18 : decode cX2_link 18 = .ok (.getfield 24, 3) := by decide +kernel
theorem dX2_link_21 : decode cX2_link 21 = .ok (.iconst 1, 1) := by decide +kernel
theorem dX2_link_22 : decode cX2_link 22 = .ok (.iadd, 1) := by decide +kernel
theorem dX2_link_23 : decode cX2_link 23 = .ok (.putfield 24, 3) := by decide +kernel
theorem dX2_link_26 : decode cX2_link 26 = .ok (.iload_n 1, 1) := by decide +kernel
theorem dX2_link_27 : decode cX2_link 27 = .ok (.iconst 4, 1) := by decide +kernel
theorem dX2_link_28 : decode cX2_link 28 = .ok (.imul, 1) := by decide +kernel
theorem dX2_link_29 : decode cX2_link 29 = .ok (.istore_n 2, 1) := by decide +kernel
theorem dX2_link_30 : decode cX2_link 30 = .ok (.aload_n 0, 1) := by decide +kernel
theorem dX2_link_31 : decode cX2_link 31 = .ok (.getfield 15, 3) := by decide +kernel
theorem dX2_link_34 : decode cX2_link 34 = .ok (.iload_n 2, 1) := by decide +kernel
theorem dX2_link_35 : decode cX2_link 35 = .ok (.aload_n 0, 1) := by decide +kernel
theorem dX2_link_36 : decode cX2_link 36 = .ok (.iload_n 1, 1) := by decide +kernel
theorem dX2_link_37 : decode cX2_link 37 = .ok (.bipush 8, 2) := by decide +kernel
theorem dX2_link_39 : decode cX2_link 39 = .ok (.isub, 1) := by decide +kernel
theorem dX2_link_40 : decode cX2_link 40 = .ok (.invokevirtual 48, 3) := by decide +kernel
theorem dX2_link_43 : decode cX2_link 43 = .ok (.iastore, 1) := by decide +kernel
theorem dX2_link_44 : decode cX2_link 44 = .ok (.aload_n 0, 1) := by decide +kernel
theorem dX2_link_45 : decode cX2_link 45 = .ok (.getfield 15, 3) := by decide +kernel
theorem dX2_link_48 : decode cX2_link 48 = .ok (.iload_n 2, 1) := by decide +kernel
theorem dX2_link_49 : decode cX2_link 49 = .ok (.iconst 1, 1) := by decide +kernel
theorem dX2_link_50 : decode cX2_link 50 = .ok (.iadd, 1) := by decide +kernel
theorem dX2_link_51 : decode cX2_link 51 = .ok (.iload_n 1, 1) := by decide +kernel
theorem dX2_link_52 : decode cX2_link 52 = .ok (.bipush 8, 2) := by decide +kernel
theorem dX2_link_54 : decode cX2_link 54 = .ok (.irem, 1) := by decide +kernel
theorem dX2_link_55 : decode cX2_link 55 = .ok (.bipush 7, 2) := by decide +kernel
theorem dX2_link_57 : decode cX2_link 57 = .ok (.if_icmp .ne 7, 3) := by decide +kernel
theorem dX2_link_60 : decode cX2_link 60 = .ok (.iconst (-1), 1) := by decide +kernel
theorem dX2_link_61 : decode cX2_link 61 = .ok (.goto 10, 3) := by decide +kernel
theorem dX2_link_64 : decode cX2_link 64 = .ok (.aload_n 0, 1) := by decide +kernel
theorem dX2_link_65 : decode cX2_link 65 = .ok (.iload_n 1, 1) := by decide +kernel
theorem dX2_link_66 : decode cX2_link 66 = .ok (.iconst 1, 1) := by decide +kernel
theorem dX2_link_67 : decode cX2_link 67 = .ok (.iadd, 1) := by decide +kernel
theorem dX2_link_68 : decode cX2_link 68 = .ok (.invokevirtual 48, 3) := by decide +kernel
theorem dX2_link_71 : decode cX2_link 71 = .ok (.iastore, 1) := by decide +kernel
theorem dX2_link_72 : decode cX2_link 72 = .ok (.aload_n 0, 1) := by decide +kernel
theorem dX2_link_73 : decode cX2_link 73 = .ok (.getfield 15, 3) := by decide +kernel
theorem dX2_link_76 : decode cX2_link 76 = .ok (.iload_n 2, 1) := by decide +kernel
theorem dX2_link_77 : decode cX2_link 77 = .ok (.iconst 2, 1) := by decide +kernel
theorem dX2_link_78 : decode cX2_link 78 = .ok (.iadd, 1) := by decide +kernel
theorem dX2_link_79 : decode cX2_link 79 = .ok (.aload_n 0, 1) := by decide +kernel
theorem dX2_link_80 : decode cX2_link 80 = .ok (.iload_n 1, 1) := by decide +kernel
theorem dX2_link_81 : decode cX2_link 81 = .ok (.bipush 8, 2) := by decide +kernel
theorem dX2_link_83 : decode cX2_link 83 = .ok (.iadd, 1) := by decide +kernel
theorem dX2_link_84 : decode cX2_link 84 = .ok (.invokevirtual 48, 3) := by decide +kernel
theorem dX2_link_87 : decode cX2_link 87 = .ok (.iastore, 1) := by decide +kernel
theorem dX2_link_88 : decode cX2_link 88 = .ok (.aload_n 0, 1) := by decide +kernel
theorem dX2_link_89 : decode cX2_link 89 = .ok (.getfield 15, 3) := by decide +kernel
theorem dX2_link_92 : decode cX2_link 92 = .ok (.iload_n 2, 1) := by decide +kernel
theorem dX2_link_93 : decode cX2_link 93 = .ok (.iconst 3, 1) := by decide +kernel
theorem dX2_link_94 : decode cX2_link 94 = .ok (.iadd, 1) := by decide +kernel
theorem dX2_link_95 : decode cX2_link 95 = .ok (.iload_n 1, 1) := by decide +kernel
theorem dX2_link_96 : decode cX2_link 96 = .ok (.bipush 8, 2) := by decide +kernel
theorem dX2_link_98 : decode cX2_link 98 = .ok (.irem, 1) := by decide +kernel
theorem dX2_link_99 : decode cX2_link 99 = .ok (.ifCond .ne 7, 3) := by decide +kernel
theorem dX2_link_102 : decode cX2_link 102 = .ok (.iconst (-1), 1) := by decide +kernel
theorem dX2_link_103 : decode cX2_link 103 = .ok (.goto 10, 3) := by decide +kernel
theorem dX2_link_106 : decode cX2_link 106 = .ok (.aload_n 0, 1) := by decide +kernel
theorem dX2_link_107 : decode cX2_link 107 = .ok (.iload_n 1, 1) := by decide +kernel
theorem dX2_link_108 : decode cX2_link 108 = .ok (.iconst 1, 1) := by decide +kernel
theorem dX2_link_109 : decode cX2_link 109 = .ok (.isub, 1) := by decide +kernel
theorem dX2_link_110 : decode cX2_link 110 = .ok (.invokevirtual 48, 3) := by decide +kernel
theorem dX2_link_113 : decode cX2_link 113 = .ok (.iastore, 1) := by decide +kernel
theorem dX2_link_114 : decode cX2_link 114 = .ok (.iinc 1 1, 3) := by decide +kernel
theorem dX2_link_117 : decode cX2_link 117 = .ok (.goto (-115), 3) := by decide +kernel
theorem dX2_link_120 : decode cX2_link 120 = .ok (.return_, 1) := by decide +kernel
theorem dX2_placeOrNone_0 : decode cX2_placeOrNone 0 = .ok (.aload_n 0, 1) := by decide +kernel
theorem dX2_placeOrNone_1 : decode cX2_placeOrNone 1 = .ok (.iload_n 1, 1) := by decide +kernel
theorem dX2_placeOrNone_2 : decode cX2_placeOrNone 2 = .ok (.invokevirtual 44, 3) := by decide +kernel
theorem dX2_placeOrNone_5 : decode cX2_placeOrNone 5 = .ok (.ifCond .eq 7, 3) := by decide +kernel
theorem dX2_placeOrNone_8 : decode cX2_placeOrNone 8 = .ok (.iload_n 1, 1) := by decide +kernel
theorem dX2_placeOrNone_9 : decode cX2_placeOrNone 9 = .ok (.goto 4, 3) := by decide +kernel
theorem dX2_placeOrNone_12 : decode cX2_placeOrNone 12 = .ok (.iconst (-1), 1) := by decide +kernel
theorem dX2_placeOrNone_13 : decode cX2_placeOrNone 13 = .ok (.ireturn, 1) := by decide +kernel
theorem dX3_init_0 : decode cX3_init 0 = .ok (.aload_n 0, 1) := by decide +kernel
theorem dX3_init_1 : decode cX3_init 1 = .ok (.invokespecial 3, 3) := by decide +kernel
theorem dX3_init_4 : decode cX3_init 4 = .ok (.aload_n 0, 1) := by decide +kernel
theorem dX3_init_5 : decode cX3_init 5 = .ok (.bipush 25, 2) := by decide +kernel
theorem dX3_init_7 : decode cX3_init 7 = .ok (.newarray .int, 2) := by decide +kernel
theorem dX3_init_9 : decode cX3_init 9 = .ok (.putfield 9, 3) := by decide +kernel
theorem dX3_init_12 : decode cX3_init 12 = .ok (.aload_n 0, 1) := by decide +kernel
theorem dX3_init_13 : decode cX3_init 13 = .ok (.iconst 5, 1) := by decide +kernel
theorem dX3_init_14 : decode cX3_init 14 = .ok (.newarray .int, 2) := by decide +kernel
theorem dX3_init_16 : decode cX3_init 16 = .ok (.putfield 15, 3) := by decide +kernel
theorem dX3_init_19 : decode cX3_init 19 = .ok (.aload_n 0, 1) := by decide +kernel
theorem dX3_init_20 : decode cX3_init 20 = .ok (.iconst 5, 1) := by decide +kernel
theorem dX3_init_21 : decode cX3_init 21 = .ok (.newarray .int, 2) := by decide +kernel
theorem dX3_init_23 : decode cX3_init 23 = .ok (.putfield 18, 3) := by decide +kernel
theorem dX3_init_26 : decode cX3_init 26 = .ok (.aload_n 0, 1) := by decide +kernel
theorem dX3_init_27 : decode cX3_init 27 = .ok (.iconst 5, 1) := by decide +kernel
theorem dX3_init_28 : decode cX3_init 28 = .ok (.newarray .int, 2) := by decide +kernel
theorem dX3_init_30 : decode cX3_init 30 = .ok (.putfield 21, 3) := by decide +kernel
theorem dX3_init_33 : decode cX3_init 33 = .ok (.aload_n 0, 1) := by decide +kernel
theorem dX3_init_34 : decode cX3_init 34 = .ok (.getfield 9, 3) := by decide +kernel
theorem dX3_init_37 : decode cX3_init 37 = .ok (.bipush 8, 2) := by decide +kernel
theorem dX3_init_39 : decode cX3_init 39 = .ok (.invokestatic 24, 3) := by decide +kernel
theorem dX3_init_42 : decode cX3_init 42 = .ok (.aload_n 0, 1) := by decide +kernel
theorem dX3_init_43 : decode cX3_init 43 = .ok (.getfield 15, 3) := by decide +kernel
theorem dX3_init_46 : decode cX3_init 46 = .ok (.bipush 8, 2) := by decide +kernel
theorem dX3_init_48 : decode cX3_init 48 = .ok (.invokestatic 24, 3) := by decide +kernel
theorem dX3_init_51 : decode cX3_init 51 = .ok (.aload_n 0, 1) := by decide +kernel
theorem dX3_init_52 : decode cX3_init 52 = .ok (.iconst 0, 1) := by decide +kernel
theorem dX3_init_53 : decode cX3_init 53 = .ok (.putfield 30, 3) := by decide +kernel
theorem dX3_init_56 : decode cX3_init 56 = .ok (.return_, 1) := by decide +kernel
theorem dX3_isPerson_0 : decode cX3_isPerson 0 = .ok (.iload_n 0, 1) := by decide +kernel
theorem dX3_isPerson_1 : decode cX3_isPerson 1 = .ok (.ifCond .lt 12, 3) := by decide +kernel
theorem dX3_isPerson_4 : decode cX3_isPerson 4 = .ok (.iload_n 0, 1) := by decide +kernel
theorem dX3_isPerson_5 : decode cX3_isPerson 5 = .ok (.iconst 5, 1) := by decide +kernel
theorem dX3_isPerson_6 : decode cX3_isPerson 6 = .ok (.if_icmp .ge 7, 3) := by decide +kernel
theorem dX3_isPerson_9 : decode cX3_isPerson 9 = .ok (.iconst 1, 1) := by decide +kernel
theorem dX3_isPerson_10 : decode cX3_isPerson 10 = .ok (.goto 4, 3) := by decide +kernel
theorem dX3_isPerson_13 : decode cX3_isPerson 13 = .ok (.iconst 0, 1) := by decide +kernel
theorem dX3_isPerson_14 : decode cX3_isPerson 14 = .ok (.ireturn, 1) := by decide +kernel
theorem dX3_gripOf_0 : decode cX3_gripOf 0 = .ok (.iload_n 1, 1) := by decide +kernel
theorem dX3_gripOf_1 : decode cX3_gripOf 1 = .ok (.ifCond .lt 21, 3) := by decide +kernel
theorem dX3_gripOf_4 : decode cX3_gripOf 4 = .ok (.iload_n 1, 1) := by decide +kernel
theorem dX3_gripOf_5 : decode cX3_gripOf 5 = .ok (.iconst 5, 1) := by decide +kernel
theorem dX3_gripOf_6 : decode cX3_gripOf 6 = .ok (.if_icmp .ge 16, 3) := by decide +kernel
theorem dX3_gripOf_9 : decode cX3_gripOf 9 = .ok (.iload_n 2, 1) := by decide +kernel
theorem dX3_gripOf_10 : decode cX3_gripOf 10 = .ok (.ifCond .lt 12, 3) := by decide +kernel
theorem dX3_gripOf_13 : decode cX3_gripOf 13 = .ok (.iload_n 2, 1) := by decide +kernel
theorem dX3_gripOf_14 : decode cX3_gripOf 14 = .ok (.iconst 5, 1) := by decide +kernel
theorem dX3_gripOf_15 : decode cX3_gripOf 15 = .ok (.if_icmp .ge 7, 3) := by decide +kernel
theorem dX3_gripOf_18 : decode cX3_gripOf 18 = .ok (.iconst 1, 1) := by decide +kernel
theorem dX3_gripOf_19 : decode cX3_gripOf 19 = .ok (.goto 4, 3) := by decide +kernel
theorem dX3_gripOf_22 : decode cX3_gripOf 22 = .ok (.iconst 0, 1) := by decide +kernel
theorem dX3_gripOf_23 : decode cX3_gripOf 23 = .ok (.istore_n 3, 1) := by decide +kernel
theorem dX3_gripOf_24 : decode cX3_gripOf 24 = .ok (.iload_n 3, 1) := by decide +kernel
theorem dX3_gripOf_25 : decode cX3_gripOf 25 = .ok (.ifCond .eq 16, 3) := by decide +kernel
theorem dX3_gripOf_28 : decode cX3_gripOf 28 = .ok (.aload_n 0, 1) := by decide +kernel
theorem dX3_gripOf_29 : decode cX3_gripOf 29 = .ok (.getfield 9, 3) := by decide +kernel
theorem dX3_gripOf_32 : decode cX3_gripOf 32 = .ok (.iload_n 1, 1) := by decide +kernel
theorem dX3_gripOf_33 : decode cX3_gripOf 33 = .ok (.iconst 5, 1) := by decide +kernel
theorem dX3_gripOf_34 : decode cX3_gripOf 34 = .ok (.imul, 1) := by decide +kernel
theorem dX3_gripOf_35 : decode cX3_gripOf 35 = .ok (.iload_n 2, 1) := by decide +kernel
theorem dX3_gripOf_36 : decode cX3_gripOf 36 = .ok (.iadd, 1) := by decide +kernel
theorem dX3_gripOf_37 : decode cX3_gripOf 37 = .ok (.iaload, 1) := by decide +kernel
theorem dX3_gripOf_38 : decode cX3_gripOf 38 = .ok (.goto 4, 3) := by decide +kernel
theorem dX3_gripOf_41 : decode cX3_gripOf 41 = .ok (.iconst 0, 1) := by decide +kernel
theorem dX3_gripOf_42 : decode cX3_gripOf 42 = .ok (.ireturn, 1) := by decide +kernel
theorem dX3_putGrip_0 : decode cX3_putGrip 0 = .ok (.iload_n 1, 1) := by decide +kernel
theorem dX3_putGrip_1 : decode cX3_putGrip 1 = .ok (.invokestatic 34, 3) := by decide +kernel
theorem dX3_putGrip_4 : decode cX3_putGrip 4 = .ok (.ifCond .eq 32, 3) := by decide +kernel
theorem dX3_putGrip_7 : decode cX3_putGrip 7 = .ok (.iload_n 2, 1) := by decide +kernel
theorem dX3_putGrip_8 : decode cX3_putGrip 8 = .ok (.invokestatic 34, 3) := by decide +kernel
theorem dX3_putGrip_11 : decode cX3_putGrip 11 = .ok (.ifCond .eq 25, 3) := by decide +kernel
theorem dX3_putGrip_14 : decode cX3_putGrip 14 = .ok (.aload_n 0, 1) := by decide +kernel
theorem dX3_putGrip_15 : decode cX3_putGrip 15 = .ok (.getfield 9, 3) := by decide +kernel
theorem dX3_putGrip_18 : decode cX3_putGrip 18 = .ok (.iload_n 1, 1) := by decide +kernel
theorem dX3_putGrip_19 : decode cX3_putGrip 19 = .ok (.iconst 5, 1) := by decide +kernel
theorem dX3_putGrip_20 : decode cX3_putGrip 20 = .ok (.imul, 1) := by decide +kernel
theorem dX3_putGrip_21 : decode cX3_putGrip 21 = .ok (.iload_n 2, 1) := by decide +kernel
theorem dX3_putGrip_22 : decode cX3_putGrip 22 = .ok (.iadd, 1) := by decide +kernel
theorem dX3_putGrip_23 : decode cX3_putGrip 23 = .ok (.iload_n 3, 1) := by decide +kernel
theorem dX3_putGrip_24 : decode cX3_putGrip 24 = .ok (.iastore, 1) := by decide +kernel
theorem dX3_putGrip_25 : decode cX3_putGrip 25 = .ok (.aload_n 0, 1) := by decide +kernel
theorem dX3_putGrip_26 : decode cX3_putGrip 26 = .ok (.getfield 9, 3) := by decide +kernel
theorem dX3_putGrip_29 : decode cX3_putGrip 29 = .ok (.iload_n 2, 1) := by decide +kernel
theorem dX3_putGrip_30 : decode cX3_putGrip 30 = .ok (.iconst 5, 1) := by decide +kernel
theorem dX3_putGrip_31 : decode cX3_putGrip 31 = .ok (.imul, 1) := by decide +kernel
theorem dX3_putGrip_32 : decode cX3_putGrip 32 = .ok (.iload_n 1, 1) := by decide +kernel
theorem dX3_putGrip_33 : decode cX3_putGrip 33 = .ok (.iadd, 1) := by decide +kernel
theorem dX3_putGrip_34 : decode cX3_putGrip 34 = .ok (.iload_n 3, 1) := by decide +kernel
theorem dX3_putGrip_35 : decode cX3_putGrip 35 = .ok (.iastore, 1) := by decide +kernel
theorem dX3_putGrip_36 : decode cX3_putGrip 36 = .ok (.return_, 1) := by decide +kernel
theorem dX3_habitOf_0 : decode cX3_habitOf 0 = .ok (.iload_n 1, 1) := by decide +kernel
theorem dX3_habitOf_1 : decode cX3_habitOf 1 = .ok (.invokestatic 34, 3) := by decide +kernel
theorem dX3_habitOf_4 : decode cX3_habitOf 4 = .ok (.ifCond .eq 12, 3) := by decide +kernel
theorem dX3_habitOf_7 : decode cX3_habitOf 7 = .ok (.aload_n 0, 1) := by decide +kernel
theorem dX3_habitOf_8 : decode cX3_habitOf 8 = .ok (.getfield 15, 3) := by decide +kernel
theorem dX3_habitOf_11 : decode cX3_habitOf 11 = .ok (.iload_n 1, 1) := by decide +kernel
theorem dX3_habitOf_12 : decode cX3_habitOf 12 = .ok (.iaload, 1) := by decide +kernel
theorem dX3_habitOf_13 : decode cX3_habitOf 13 = .ok (.goto 4, 3) := by decide +kernel
theorem dX3_habitOf_16 : decode cX3_habitOf 16 = .ok (.iconst 0, 1) := by decide +kernel
theorem dX3_habitOf_17 : decode cX3_habitOf 17 = .ok (.ireturn, 1) := by decide +kernel
theorem dX3_standOf_0 : decode cX3_standOf 0 = .ok (.iload_n 1, 1) := by decide +kernel
theorem dX3_standOf_1 : decode cX3_standOf 1 = .ok (.invokestatic 34, 3) := by decide +kernel
theorem dX3_standOf_4 : decode cX3_standOf 4 = .ok (.ifCond .eq 12, 3) := by decide +kernel
theorem dX3_standOf_7 : decode cX3_standOf 7 = .ok (.aload_n 0, 1) := by decide +kernel
theorem dX3_standOf_8 : decode cX3_standOf 8 = .ok (.getfield 18, 3) := by decide +kernel
theorem dX3_standOf_11 : decode cX3_standOf 11 = .ok (.iload_n 1, 1) := by decide +kernel
theorem dX3_standOf_12 : decode cX3_standOf 12 = .ok (.iaload, 1) := by decide +kernel
theorem dX3_standOf_13 : decode cX3_standOf 13 = .ok (.goto 4, 3) := by decide +kernel
theorem dX3_standOf_16 : decode cX3_standOf 16 = .ok (.iconst (-1), 1) := by decide +kernel
theorem dX3_standOf_17 : decode cX3_standOf 17 = .ok (.ireturn, 1) := by decide +kernel
theorem dX3_takeText_0 : decode cX3_takeText 0 = .ok (.iconst 0, 1) := by decide +kernel
theorem dX3_takeText_1 : decode cX3_takeText 1 = .ok (.istore_n 2, 1) := by decide +kernel
theorem dX3_takeText_2 : decode cX3_takeText 2 = .ok (.aload_n 0, 1) := by decide +kernel
theorem dX3_takeText_3 : decode cX3_takeText 3 = .ok (.iconst 0, 1) := by decide +kernel
theorem dX3_takeText_4 : decode cX3_takeText 4 = .ok (.putfield 30, 3) := by decide +kernel
theorem dX3_takeText_7 : decode cX3_takeText 7 = .ok (.iconst 0, 1) := by decide +kernel
theorem dX3_takeText_8 : decode cX3_takeText 8 = .ok (.istore_n 3, 1) := by decide +kernel
theorem dX3_takeText_9 : decode cX3_takeText 9 = .ok (.iload_n 3, 1) := by decide +kernel
theorem dX3_takeText_10 : decode cX3_takeText 10 = .ok (.aload_n 1, 1) := by decide +kernel
theorem dX3_takeText_11 : decode cX3_takeText 11 = .ok (.getfield 38, 3) := by decide +kernel
theorem dX3_takeText_14 : decode cX3_takeText 14 = .ok (.if_icmp .ge 58, 3) := by decide +kernel
theorem dX3_takeText_17 : decode cX3_takeText 17 = .ok (.aload_n 1, 1) := by decide +kernel
theorem dX3_takeText_18 : decode cX3_takeText 18 = .ok (.iload_n 3, 1) := by decide +kernel
theorem dX3_takeText_19 : decode cX3_takeText 19 = .ok (.invokevirtual 43, 3) := by decide +kernel
theorem dX3_takeText_22 : decode cX3_takeText 22 = .ok (.bipush 97, 2) := by decide +kernel
theorem dX3_takeText_24 : decode cX3_takeText 24 = .ok (.isub, 1) := by decide +kernel
theorem dX3_takeText_25 : decode cX3_takeText 25 = .ok (.istore 4, 2) := by decide +kernel
theorem dX3_takeText_27 : decode cX3_takeText 27 = .ok (.iload 4, 2) := by decide +kernel
theorem dX3_takeText_29 : decode cX3_takeText 29 = .ok (.invokestatic 34, 3) := by decide +kernel
theorem dX3_takeText_32 : decode cX3_takeText 32 = .ok (.ifCond .eq 17, 3) := by decide +kernel
theorem dX3_takeText_35 : decode cX3_takeText 35 = .ok (.iload_n 2, 1) := by decide +kernel
theorem dX3_takeText_36 : decode cX3_takeText 36 = .ok (.iload 4, 2) := by decide +kernel
theorem dX3_takeText_38 : decode cX3_takeText 38 = .ok (.ishr, 1) := by decide +kernel
theorem dX3_takeText_39 : decode cX3_takeText 39 = .ok (.iconst 1, 1) := by decide +kernel
theorem dX3_takeText_40 : decode cX3_takeText 40 = .ok (.iand, 1) := by decide +kernel
theorem dX3_takeText_41 : decode cX3_takeText 41 = .ok (.ifCond .ne 8, 3) := by decide +kernel
theorem dX3_takeText_44 : decode cX3_takeText 44 = .ok (.iload_n 3, 1) := by decide +kernel
theorem dX3_takeText_45 : decode cX3_takeText 45 = .ok (.iconst 5, 1) := by decide +kernel
theorem dX3_takeText_46 : decode cX3_takeText 46 = .ok (.if_icmp .lt 5, 3) := by decide +kernel
theorem dX3_takeText_49 : decode cX3_takeText 49 = .ok (.iload_n 3, 1) := by decide +kernel
theorem dX3_takeText_50 : decode cX3_takeText 50 = .ok (.ireturn, 1) := by decide +kernel
theorem dX3_takeText_51 : decode cX3_takeText 51 = .ok (.iload_n 2, 1) := by decide +kernel
theorem dX3_takeText_52 : decode cX3_takeText 52 = .ok (.iconst 1, 1) := by decide +kernel
theorem dX3_takeText_53 : decode cX3_takeText 53 = .ok (.iload 4, 2) := by decide +kernel
theorem dX3_takeText_55 : decode cX3_takeText 55 = .ok (.ishl, 1) := by decide +kernel
theorem dX3_takeText_56 : decode cX3_takeText 56 = .ok (.ior, 1) := by decide +kernel
theorem dX3_takeText_57 : decode cX3_takeText 57 = .ok (.istore_n 2, 1) := by decide +kernel
theorem dX3_takeText_58 : decode cX3_takeText 58 = .ok (.aload_n 0, 1) := by decide +kernel
theorem dX3_takeText_59 : decode cX3_takeText 59 = .ok (.getfield 21, 3) := by decide +kernel
theorem dX3_takeText_62 : decode cX3_takeText 62 = .ok (.iload_n 3, 1) := by decide +kernel
theorem dX3_takeText_63 : decode cX3_takeText 63 = .ok (.iload 4, 2) := by decide +kernel
theorem dX3_takeText_65 : decode cX3_takeText 65 = .ok (.iastore, 1) := by decide +kernel
theorem dX3_takeText_66 : decode cX3_takeText 66 = .ok (.iinc 3 1, 3) := by decide +kernel
theorem dX3_takeText_69 : decode cX3_takeText 69 = .ok (.goto (-60), 3) := by decide +kernel
theorem dX3_takeText_72 : decode cX3_takeText 72 = .ok (.aload_n 0, 1) := by decide +kernel
theorem dX3_takeText_73 : decode cX3_takeText 73 = .ok (.aload_n 1, 1) := by decide +kernel
theorem dX3_takeText_74 : decode cX3_takeText 74 = .ok (.getfield 38, 3) := by decide +kernel
theorem dX3_takeText_77 : decode cX3_takeText 77 = .ok (.putfield 30, 3) := by decide +kernel
theorem dX3_takeText_80 : decode cX3_takeText 80 = .ok (.iconst (-1), 1) := by decide +kernel
theorem dX3_takeText_81 : decode cX3_takeText 81 = .ok (.ireturn, 1) := by decide +kernel
theorem dX3_whoGoes_0 : decode cX3_whoGoes 0 = .ok (.iload_n 1, 1) := by decide +kernel
theorem dX3_whoGoes_1 : decode cX3_whoGoes 1 = .ok (.ifCond .lt 25, 3) := by decide +kernel
theorem dX3_whoGoes_4 : decode cX3_whoGoes 4 = .ok (.iload_n 1, 1) := by decide +kernel
theorem dX3_whoGoes_5 : decode cX3_whoGoes 5 = .ok (.aload_n 0, 1) := by decide +kernel
theorem dX3_whoGoes_6 : decode cX3_whoGoes 6 = .ok (.getfield 30, 3) := by decide +kernel
theorem dX3_whoGoes_9 : decode cX3_whoGoes 9 = .ok (.if_icmp .ge 17, 3) := by decide +kernel
theorem dX3_whoGoes_12 : decode cX3_whoGoes 12 = .ok (.iload_n 1, 1) := by decide +kernel
theorem dX3_whoGoes_13 : decode cX3_whoGoes 13 = .ok (.iconst 5, 1) := by decide +kernel
theorem dX3_whoGoes_14 : decode cX3_whoGoes 14 = .ok (.if_icmp .ge 12, 3) := by decide +kernel
theorem dX3_whoGoes_17 : decode cX3_whoGoes 17 = .ok (.aload_n 0, 1) := by decide +kernel
theorem dX3_whoGoes_18 : decode cX3_whoGoes 18 = .ok (.getfield 21, 3) := by decide +kernel
theorem dX3_whoGoes_21 : decode cX3_whoGoes 21 = .ok (.iload_n 1, 1) := by decide +kernel
theorem dX3_whoGoes_22 : decode cX3_whoGoes 22 = .ok (.iaload, 1) := by decide +kernel
theorem dX3_whoGoes_23 : decode cX3_whoGoes 23 = .ok (.goto 4, 3) := by decide +kernel
theorem dX3_whoGoes_26 : decode cX3_whoGoes 26 = .ok (.iconst (-1), 1) := by decide +kernel
theorem dX3_whoGoes_27 : decode cX3_whoGoes 27 = .ok (.ireturn, 1) := by decide +kernel
theorem dX3_joints_0 : decode cX3_joints 0 = .ok (.aload_n 0, 1) := by decide +kernel
theorem dX3_joints_1 : decode cX3_joints 1 = .ok (.getfield 30, 3) := by decide +kernel
theorem dX3_joints_4 : decode cX3_joints 4 = .ok (.iconst 1, 1) := by decide +kernel
theorem dX3_joints_5 : decode cX3_joints 5 = .ok (.isub, 1) := by decide +kernel
theorem dX3_joints_6 : decode cX3_joints 6 = .ok (.iconst 0, 1) := by decide +kernel
theorem dX3_joints_7 : decode cX3_joints 7 = .ok (.invokestatic 47, 3) := by decide +kernel
theorem dX3_joints_10 : decode cX3_joints 10 = .ok (.ireturn, 1) := by decide +kernel
theorem dX3_gripOfJoint_0 : decode cX3_gripOfJoint 0 = .ok (.aload_n 0, 1) := by decide +kernel
theorem dX3_gripOfJoint_1 : decode cX3_gripOfJoint 1 = .ok (.aload_n 0, 1) := by decide +kernel
theorem dX3_gripOfJoint_2 : decode cX3_gripOfJoint 2 = .ok (.iload_n 1, 1) := by decide +kernel
theorem dX3_gripOfJoint_3 : decode cX3_gripOfJoint 3 = .ok (.invokevirtual 53, 3) := by decide +kernel
theorem dX3_gripOfJoint_6 : decode cX3_gripOfJoint 6 = .ok (.aload_n 0, 1) := by decide +kernel
theorem dX3_gripOfJoint_7 : decode cX3_gripOfJoint 7 = .ok (.iload_n 1, 1) := by decide +kernel
theorem dX3_gripOfJoint_8 : decode cX3_gripOfJoint 8 = .ok (.iconst 1, 1) := by decide +kernel
theorem dX3_gripOfJoint_9 : decode cX3_gripOfJoint 9 = .ok (.iadd, 1) := by decide +kernel
theorem dX3_gripOfJoint_10 : decode cX3_gripOfJoint 10 = .ok (.invokevirtual 53, 3) := by decide +kernel
theorem dX3_gripOfJoint_13 : decode cX3_gripOfJoint 13 = .ok (.invokevirtual 56, 3) := by decide +kernel
theorem dX3_gripOfJoint_16 : decode cX3_gripOfJoint 16 = .ok (.ireturn, 1) := by decide +kernel
theorem dX3_looseness_0 : decode cX3_looseness 0 = .ok (.iconst 0, 1) := by decide +kernel
theorem dX3_looseness_1 : decode cX3_looseness 1 = .ok (.istore_n 1, 1) := by decide +kernel
theorem dX3_looseness_2 : decode cX3_looseness 2 = .ok (.iconst 0, 1) := by decide +kernel
theorem dX3_looseness_3 : decode cX3_looseness 3 = .ok (.istore_n 2, 1) := by decide +kernel
theorem dX3_looseness_4 : decode cX3_looseness 4 = .ok (.iload_n 2, 1) := by decide +kernel
theorem dX3_looseness_5 : decode cX3_looseness 5 = .ok (.aload_n 0, 1) := by decide +kernel
theorem dX3_looseness_6 : decode cX3_looseness 6 = .ok (.invokevirtual 59, 3) := by decide +kernel
theorem dX3_looseness_9 : decode cX3_looseness 9 = .ok (.if_icmp .ge 20, 3) := by decide +kernel
theorem dX3_looseness_12 : decode cX3_looseness 12 = .ok (.iload_n 1, 1) := by decide +kernel
theorem dX3_looseness_13 : decode cX3_looseness 13 = .ok (.bipush 16, 2) := by decide +kernel
theorem dX3_looseness_15 : decode cX3_looseness 15 = .ok (.aload_n 0, 1) := by decide +kernel
theorem dX3_looseness_16 : decode cX3_looseness 16 = .ok (.iload_n 2, 1) := by decide +kernel
theorem dX3_looseness_17 : decode cX3_looseness 17 = .ok (.invokevirtual 63, 3) := by decide +kernel
theorem dX3_looseness_20 : decode cX3_looseness 20 = .ok (.isub, 1) := by decide +kernel
theorem dX3_looseness_21 : decode cX3_looseness 21 = .ok (.iadd, 1) := by decide +kernel
theorem dX3_looseness_22 : decode cX3_looseness 22 = .ok (.istore_n 1, 1) := by decide +kernel
theorem dX3_looseness_23 : decode cX3_looseness 23 = .ok (.iinc 2 1, 3) := by decide +kernel
theorem dX3_looseness_26 : decode cX3_looseness 26 = .ok (.goto (-22), 3) := by decide +kernel
theorem dX3_looseness_29 : decode cX3_looseness 29 = .ok (.iload_n 1, 1) := by decide +kernel
theorem dX3_looseness_30 : decode cX3_looseness 30 = .ok (.ireturn, 1) := by decide +kernel
theorem dX3_behindJoint_0 : decode cX3_behindJoint 0 = .ok (.iconst 0, 1) := by decide +kernel
theorem dX3_behindJoint_1 : decode cX3_behindJoint 1 = .ok (.istore_n 2, 1) := by decide +kernel
theorem dX3_behindJoint_2 : decode cX3_behindJoint 2 = .ok (.iload_n 1, 1) := by decide +kernel
theorem dX3_behindJoint_3 : decode cX3_behindJoint 3 = .ok (.iconst (-1), 1) := by decide +kernel
theorem dX3_behindJoint_4 : decode cX3_behindJoint 4 = .ok (.if_icmp .ne 5, 3) := by decide +kernel
theorem dX3_behindJoint_7 : decode cX3_behindJoint 7 = .ok (.iload_n 2, 1) := by decide +kernel
theorem dX3_behindJoint_8 : decode cX3_behindJoint 8 = .ok (.ireturn, 1) := by decide +kernel
theorem dX3_behindJoint_9 : decode cX3_behindJoint 9 = .ok (.iload_n 1, 1) := by decide +kernel
theorem dX3_behindJoint_10 : decode cX3_behindJoint 10 = .ok (.iconst 1, 1) := by decide +kernel
theorem dX3_behindJoint_11 : decode cX3_behindJoint 11 = .ok (.iadd, 1) := by decide +kernel
theorem dX3_behindJoint_12 : decode cX3_behindJoint 12 = .ok (.istore_n 3, 1) := by decide +kernel
theorem dX3_behindJoint_13 : decode cX3_behindJoint 13 = .ok (.iload_n 3, 1) := by decide +kernel
theorem dX3_behindJoint_14 : decode cX3_behindJoint 14 = .ok (.aload_n 0, 1) := by decide +kernel
theorem dX3_behindJoint_15 : decode cX3_behindJoint 15 = .ok (.getfield 30, 3) := by decide +kernel
theorem dX3_behindJoint_18 : decode cX3_behindJoint 18 = .ok (.if_icmp .ge 19, 3) := by decide +kernel
theorem dX3_behindJoint_21 : decode cX3_behindJoint 21 = .ok (.iload_n 2, 1) := by decide +kernel
theorem dX3_behindJoint_22 : decode cX3_behindJoint 22 = .ok (.iconst 1, 1) := by decide +kernel
theorem dX3_behindJoint_23 : decode cX3_behindJoint 23 = .ok (.aload_n 0, 1) := by decide +kernel
theorem dX3_behindJoint_24 : decode cX3_behindJoint 24 = .ok (.iload_n 3, 1) := by decide +kernel
theorem dX3_behindJoint_25 : decode cX3_behindJoint 25 = .ok (.invokevirtual 53, 3) := by decide +kernel
theorem dX3_behindJoint_28 : decode cX3_behindJoint 28 = .ok (.ishl, 1) := by decide +kernel
theorem dX3_behindJoint_29 : decode cX3_behindJoint 29 = .ok (.ior, 1) := by decide +kernel
theorem dX3_behindJoint_30 : decode cX3_behindJoint 30 = .ok (.istore_n 2, 1) := by decide +kernel
theorem dX3_behindJoint_31 : decode cX3_behindJoint 31 = .ok (.iinc 3 1, 3) := by decide +kernel
theorem dX3_behindJoint_34 : decode cX3_behindJoint 34 = .ok (.goto (-21), 3) := by decide +kernel
theorem dX3_behindJoint_37 : decode cX3_behindJoint 37 = .ok (.iload_n 2, 1) := by decide +kernel
theorem dX3_behindJoint_38 : decode cX3_behindJoint 38 = .ok (.ireturn, 1) := by decide +kernel
theorem dX4_init_0 : decode cX4_init 0 = .ok (.aload_n 0, 1) := by decide +kernel
theorem dX4_init_1 : decode cX4_init 1 = .ok (.invokespecial 3, 3) := by decide +kernel
theorem dX4_init_4 : decode cX4_init 4 = .ok (.aload_n 0, 1) := by decide +kernel
theorem dX4_init_5 : decode cX4_init 5 = .ok (.iconst 5, 1) := by decide +kernel
theorem dX4_init_6 : decode cX4_init 6 = .ok (.newarray .int, 2) := by decide +kernel
theorem dX4_init_8 : decode cX4_init 8 = .ok (.putfield 9, 3) := by decide +kernel
theorem dX4_init_11 : decode cX4_init 11 = .ok (.aload_n 0, 1) := by decide +kernel
theorem dX4_init_12 : decode cX4_init 12 = .ok (.iconst 5, 1) := by decide +kernel
theorem dX4_init_13 : decode cX4_init 13 = .ok (.newarray .int, 2) := by decide +kernel
theorem dX4_init_15 : decode cX4_init 15 = .ok (.putfield 15, 3) := by decide +kernel
theorem dX4_init_18 : decode cX4_init 18 = .ok (.aload_n 0, 1) := by decide +kernel
theorem dX4_init_19 : decode cX4_init 19 = .ok (.iconst 0, 1) := by decide +kernel
theorem dX4_init_20 : decode cX4_init 20 = .ok (.putfield 18, 3) := by decide +kernel
theorem dX4_init_23 : decode cX4_init 23 = .ok (.return_, 1) := by decide +kernel
theorem dX4_append_0 : decode cX4_append 0 = .ok (.aload_n 0, 1) := by decide +kernel
theorem dX4_append_1 : decode cX4_append 1 = .ok (.getfield 18, 3) := by decide +kernel
theorem dX4_append_4 : decode cX4_append 4 = .ok (.ifCond .lt 41, 3) := by decide +kernel
theorem dX4_append_7 : decode cX4_append 7 = .ok (.aload_n 0, 1) := by decide +kernel
theorem dX4_append_8 : decode cX4_append 8 = .ok (.getfield 18, 3) := by decide +kernel
theorem dX4_append_11 : decode cX4_append 11 = .ok (.iconst 5, 1) := by decide +kernel
theorem dX4_append_12 : decode cX4_append 12 = .ok (.if_icmp .ge 33, 3) := by decide +kernel
theorem dX4_append_15 : decode cX4_append 15 = .ok (.aload_n 0, 1) := by decide +kernel
theorem dX4_append_16 : decode cX4_append 16 = .ok (.getfield 9, 3) := by decide +kernel
theorem dX4_append_19 : decode cX4_append 19 = .ok (.aload_n 0, 1) := by decide +kernel
theorem dX4_append_20 : decode cX4_append 20 = .ok (.getfield 18, 3) := by decide +kernel
theorem dX4_append_23 : decode cX4_append 23 = .ok (.iload_n 1, 1) := by decide +kernel
theorem dX4_append_24 : decode cX4_append 24 = .ok (.iastore, 1) := by decide +kernel
theorem dX4_append_25 : decode cX4_append 25 = .ok (.aload_n 0, 1) := by decide +kernel
theorem dX4_append_26 : decode cX4_append 26 = .ok (.getfield 15, 3) := by decide +kernel
theorem dX4_append_29 : decode cX4_append 29 = .ok (.aload_n 0, 1) := by decide +kernel
theorem dX4_append_30 : decode cX4_append 30 = .ok (.getfield 18, 3) := by decide +kernel
theorem dX4_append_33 : decode cX4_append 33 = .ok (.iload_n 2, 1) := by decide +kernel
theorem dX4_append_34 : decode cX4_append 34 = .ok (.iastore, 1) := by decide +kernel
theorem dX4_append_35 : decode cX4_append 35 = .ok (.aload_n 0, 1) := by decide +kernel
theorem dX4_append_36 : decode cX4_append 36 = .ok (.dup, 1) := by decide +kernel
theorem dX4_append_37 : decode cX4_append 37 = .ok (.getfield 18, 3) := by decide +kernel
theorem dX4_append_40 : decode cX4_append 40 = .ok (.iconst 1, 1) := by decide +kernel
theorem dX4_append_41 : decode cX4_append 41 = .ok (.iadd, 1) := by decide +kernel
theorem dX4_append_42 : decode cX4_append 42 = .ok (.putfield 18, 3) := by decide +kernel
theorem dX4_append_45 : decode cX4_append 45 = .ok (.return_, 1) := by decide +kernel
theorem dX4_placeOf_0 : decode cX4_placeOf 0 = .ok (.iload_n 1, 1) := by decide +kernel
theorem dX4_placeOf_1 : decode cX4_placeOf 1 = .ok (.ifCond .lt 25, 3) := by decide +kernel
theorem dX4_placeOf_4 : decode cX4_placeOf 4 = .ok (.iload_n 1, 1) := by decide +kernel
theorem dX4_placeOf_5 : decode cX4_placeOf 5 = .ok (.aload_n 0, 1) := by decide +kernel
theorem dX4_placeOf_6 : decode cX4_placeOf 6 = .ok (.getfield 18, 3) := by decide +kernel
theorem dX4_placeOf_9 : decode cX4_placeOf 9 = .ok (.if_icmp .ge 17, 3) := by decide +kernel
theorem dX4_placeOf_12 : decode cX4_placeOf 12 = .ok (.iload_n 1, 1) := by decide +kernel
theorem dX4_placeOf_13 : decode cX4_placeOf 13 = .ok (.iconst 5, 1) := by decide +kernel
theorem dX4_placeOf_14 : decode cX4_placeOf 14 = .ok (.if_icmp .ge 12, 3) := by decide +kernel
theorem dX4_placeOf_17 : decode cX4_placeOf 17 = .ok (.aload_n 0, 1) := by decide +kernel
theorem dX4_placeOf_18 : decode cX4_placeOf 18 = .ok (.getfield 9, 3) := by decide +kernel
theorem dX4_placeOf_21 : decode cX4_placeOf 21 = .ok (.iload_n 1, 1) := by decide +kernel
theorem dX4_placeOf_22 : decode cX4_placeOf 22 = .ok (.iaload, 1) := by decide +kernel
theorem dX4_placeOf_23 : decode cX4_placeOf 23 = .ok (.goto 4, 3) := by decide +kernel
theorem dX4_placeOf_26 : decode cX4_placeOf 26 = .ok (.iconst (-1), 1) := by decide +kernel
theorem dX4_placeOf_27 : decode cX4_placeOf 27 = .ok (.ireturn, 1) := by decide +kernel
theorem dX4_asBits_0 : decode cX4_asBits 0 = .ok (.iconst 1, 1) := by decide +kernel
theorem dX4_asBits_1 : decode cX4_asBits 1 = .ok (.aload_n 0, 1) := by decide +kernel
theorem dX4_asBits_2 : decode cX4_asBits 2 = .ok (.getfield 18, 3) := by decide +kernel
theorem dX4_asBits_5 : decode cX4_asBits 5 = .ok (.ishl, 1) := by decide +kernel
theorem dX4_asBits_6 : decode cX4_asBits 6 = .ok (.iconst 1, 1) := by decide +kernel
theorem dX4_asBits_7 : decode cX4_asBits 7 = .ok (.isub, 1) := by decide +kernel
theorem dX4_asBits_8 : decode cX4_asBits 8 = .ok (.ireturn, 1) := by decide +kernel
theorem dX4_weightOf_0 : decode cX4_weightOf 0 = .ok (.iconst 0, 1) := by decide +kernel
theorem dX4_weightOf_1 : decode cX4_weightOf 1 = .ok (.istore_n 2, 1) := by decide +kernel
theorem dX4_weightOf_2 : decode cX4_weightOf 2 = .ok (.iconst 0, 1) := by decide +kernel
theorem dX4_weightOf_3 : decode cX4_weightOf 3 = .ok (.istore_n 3, 1) := by decide +kernel
theorem dX4_weightOf_4 : decode cX4_weightOf 4 = .ok (.iload_n 3, 1) := by decide +kernel
theorem dX4_weightOf_5 : decode cX4_weightOf 5 = .ok (.aload_n 0, 1) := by decide +kernel
theorem dX4_weightOf_6 : decode cX4_weightOf 6 = .ok (.getfield 18, 3) := by decide +kernel
theorem dX4_weightOf_9 : decode cX4_weightOf 9 = .ok (.if_icmp .ge 29, 3) := by decide +kernel
theorem dX4_weightOf_12 : decode cX4_weightOf 12 = .ok (.iload_n 3, 1) := by decide +kernel
theorem dX4_weightOf_13 : decode cX4_weightOf 13 = .ok (.iconst 5, 1) := by decide +kernel
theorem dX4_weightOf_14 : decode cX4_weightOf 14 = .ok (.if_icmp .ge 24, 3) := by decide +kernel
theorem dX4_weightOf_17 : decode cX4_weightOf 17 = .ok (.iload_n 2, 1) := by decide +kernel
theorem dX4_weightOf_18 : decode cX4_weightOf 18 = .ok (.iload_n 1, 1) := by decide +kernel
theorem dX4_weightOf_19 : decode cX4_weightOf 19 = .ok (.iload_n 3, 1) := by decide +kernel
theorem dX4_weightOf_20 : decode cX4_weightOf 20 = .ok (.ishr, 1) := by decide +kernel
theorem dX4_weightOf_21 : decode cX4_weightOf 21 = .ok (.iconst 1, 1) := by decide +kernel
theorem dX4_weightOf_22 : decode cX4_weightOf 22 = .ok (.iand, 1) := by decide +kernel
theorem dX4_weightOf_23 : decode cX4_weightOf 23 = .ok (.aload_n 0, 1) := by decide +kernel
theorem dX4_weightOf_24 : decode cX4_weightOf 24 = .ok (.getfield 15, 3) := by decide +kernel
theorem dX4_weightOf_27 : decode cX4_weightOf 27 = .ok (.iload_n 3, 1) := by decide +kernel
theorem dX4_weightOf_28 : decode cX4_weightOf 28 = .ok (.iaload, 1) := by decide +kernel
theorem dX4_weightOf_29 : decode cX4_weightOf 29 = .ok (.imul, 1) := by decide +kernel
theorem dX4_weightOf_30 : decode cX4_weightOf 30 = .ok (.iadd, 1) := by decide +kernel
theorem dX4_weightOf_31 : decode cX4_weightOf 31 = .ok (.istore_n 2, 1) := by decide +kernel
theorem dX4_weightOf_32 : decode cX4_weightOf 32 = .ok (.iinc 3 1, 3) := by decide +kernel
theorem dX4_weightOf_35 : decode cX4_weightOf 35 = .ok (.goto (-31), 3) := by decide +kernel
theorem dX4_weightOf_38 : decode cX4_weightOf 38 = .ok (.iload_n 2, 1) := by decide +kernel
theorem dX4_weightOf_39 : decode cX4_weightOf 39 = .ok (.ireturn, 1) := by decide +kernel
theorem dX5_init_0 : decode cX5_init 0 = .ok (.aload_n 0, 1) := by decide +kernel
theorem dX5_init_1 : decode cX5_init 1 = .ok (.invokespecial 3, 3) := by decide +kernel
theorem dX5_init_4 : decode cX5_init 4 = .ok (.aload_n 0, 1) := by decide +kernel
theorem dX5_init_5 : decode cX5_init 5 = .ok (.aload_n 1, 1) := by decide +kernel
theorem dX5_init_6 : decode cX5_init 6 = .ok (.putfield 9, 3) := by decide +kernel
theorem dX5_init_9 : decode cX5_init 9 = .ok (.aload_n 0, 1) := by decide +kernel
theorem dX5_init_10 : decode cX5_init 10 = .ok (.aload_n 2, 1) := by decide +kernel
theorem dX5_init_11 : decode cX5_init 11 = .ok (.putfield 15, 3) := by decide +kernel
theorem dX5_init_14 : decode cX5_init 14 = .ok (.aload_n 0, 1) := by decide +kernel
theorem dX5_init_15 : decode cX5_init 15 = .ok (.bipush 64, 2) := by decide +kernel
theorem dX5_init_17 : decode cX5_init 17 = .ok (.newarray .long, 2) := by decide +kernel
theorem dX5_init_19 : decode cX5_init 19 = .ok (.putfield 19, 3) := by decide +kernel
theorem dX5_init_22 : decode cX5_init 22 = .ok (.aload_n 0, 1) := by decide +kernel
theorem dX5_init_23 : decode cX5_init 23 = .ok (.bipush 64, 2) := by decide +kernel
theorem dX5_init_25 : decode cX5_init 25 = .ok (.newarray .long, 2) := by decide +kernel
theorem dX5_init_27 : decode cX5_init 27 = .ok (.putfield 23, 3) := by decide +kernel
theorem dX5_init_30 : decode cX5_init 30 = .ok (.aload_n 0, 1) := by decide +kernel
theorem dX5_init_31 : decode cX5_init 31 = .ok (.lconst 1, 1) := by decide +kernel
theorem dX5_init_32 : decode cX5_init 32 = .ok (.putfield 26, 3) := by decide +kernel
theorem dX5_init_35 : decode cX5_init 35 = .ok (.return_, 1) := by decide +kernel
theorem dX5_startAt_0 : decode cX5_startAt 0 = .ok (.aload_n 0, 1) := by decide +kernel
theorem dX5_startAt_1 : decode cX5_startAt 1 = .ok (.getfield 19, 3) := by decide +kernel
theorem dX5_startAt_4 : decode cX5_startAt 4 = .ok (.lconst 0, 1) := by decide +kernel
theorem dX5_startAt_5 : decode cX5_startAt 5 = .ok (.invokestatic 30, 3) := by decide +kernel
theorem dX5_startAt_8 : decode cX5_startAt 8 = .ok (.aload_n 0, 1) := by decide +kernel
theorem dX5_startAt_9 : decode cX5_startAt 9 = .ok (.lconst 1, 1) := by decide +kernel
theorem dX5_startAt_10 : decode cX5_startAt 10 = .ok (.putfield 26, 3) := by decide +kernel
theorem dX5_startAt_13 : decode cX5_startAt 13 = .ok (.iload_n 1, 1) := by decide +kernel
theorem dX5_startAt_14 : decode cX5_startAt 14 = .ok (.invokestatic 36, 3) := by decide +kernel
theorem dX5_startAt_17 : decode cX5_startAt 17 = .ok (.ifCond .eq 10, 3) := by decide +kernel
theorem dX5_startAt_20 : decode cX5_startAt 20 = .ok (.aload_n 0, 1) := by decide +kernel
theorem dX5_startAt_21 : decode cX5_startAt 21 = .ok (.getfield 19, 3) := by decide +kernel
theorem dX5_startAt_24 : decode cX5_startAt 24 = .ok (.iload_n 1, 1) := by decide +kernel
theorem dX5_startAt_25 : decode cX5_startAt 25 = .ok (.lconst 1, 1) := by decide +kernel
theorem dX5_startAt_26 : decode cX5_startAt 26 = .ok (.lastore, 1) := by decide +kernel
theorem dX5_startAt_27 : decode cX5_startAt 27 = .ok (.return_, 1) := by decide +kernel
theorem dX5_wander_0 : decode cX5_wander 0 = .ok (.aload_n 0, 1) := by decide +kernel
theorem dX5_wander_1 : decode cX5_wander 1 = .ok (.getfield 23, 3) := by decide +kernel
theorem dX5_wander_4 : decode cX5_wander 4 = .ok (.lconst 0, 1) := by decide +kernel
theorem dX5_wander_5 : decode cX5_wander 5 = .ok (.invokestatic 30, 3) := by decide +kernel
theorem dX5_wander_8 : decode cX5_wander 8 = .ok (.iconst 0, 1) := by decide +kernel
theorem dX5_wander_9 : decode cX5_wander 9 = .ok (.istore_n 1, 1) := by decide +kernel
theorem dX5_wander_10 : decode cX5_wander 10 = .ok (.iload_n 1, 1) := by decide +kernel
theorem dX5_wander_11 : decode cX5_wander 11 = .ok (.bipush 64, 2) := by decide +kernel
theorem dX5_wander_13 : decode cX5_wander 13 = .ok (.if_icmp .ge 25, 3) := by decide +kernel
theorem dX5_wander_16 : decode cX5_wander 16 = .ok (.aload_n 0, 1) := by decide +kernel
theorem dX5_wander_17 : decode cX5_wander 17 = .ok (.getfield 19, 3) := by decide +kernel
theorem dX5_wander_20 : decode cX5_wander 20 = .ok (.iload_n 1, 1) := by decide +kernel
theorem dX5_wander_21 : decode cX5_wander 21 = .ok (.laload, 1) := by decide +kernel
theorem dX5_wander_22 : decode cX5_wander 22 = .ok (.lconst 0, 1) := by decide +kernel
theorem dX5_wander_23 : decode cX5_wander 23 = .ok (.lcmp, 1) := by decide +kernel
theorem dX5_wander_24 : decode cX5_wander 24 = .ok (.ifCond .eq 8, 3) := by decide +kernel
theorem dX5_wander_27 : decode cX5_wander 27 = .ok (.aload_n 0, 1) := by decide +kernel
theorem dX5_wander_28 : decode cX5_wander 28 = .ok (.iload_n 1, 1) := by decide +kernel
theorem dX5_wander_29 : decode cX5_wander 29 = .ok (.invokevirtual 42, 3) := by decide +kernel
theorem dX5_wander_32 : decode cX5_wander 32 = .ok (.iinc 1 1, 3) := by decide +kernel
theorem dX5_wander_35 : decode cX5_wander 35 = .ok (.goto (-25), 3) := by decide +kernel
theorem dX5_wander_38 : decode cX5_wander 38 = .ok (.aload_n 0, 1) := by decide +kernel
theorem dX5_wander_39 : decode cX5_wander 39 = .ok (.getfield 23, 3) := by decide +kernel
theorem dX5_wander_42 : decode cX5_wander 42 = .ok (.iconst 0, 1) := by decide +kernel
theorem dX5_wander_43 : decode cX5_wander 43 = .ok (.aload_n 0, 1) := by decide +kernel
theorem dX5_wander_44 : decode cX5_wander 44 = .ok (.getfield 19, 3) := by decide +kernel
theorem dX5_wander_47 : decode cX5_wander 47 = .ok (.iconst 0, 1) := by decide +kernel
theorem dX5_wander_48 : decode cX5_wander 48 = .ok (.bipush 64, 2) := by decide +kernel
theorem dX5_wander_50 : decode cX5_wander 50 = .ok (.invokestatic 46, 3) := by decide +kernel
theorem dX5_wander_53 : decode cX5_wander 53 = .ok (.aload_n 0, 1) := by decide +kernel
theorem dX5_wander_54 : decode cX5_wander 54 = .ok (.dup, 1) := by decide +kernel
theorem dX5_wander_55 : decode cX5_wander 55 = .ok (.getfield 26, 3) := by decide +kernel
theorem dX5_wander_58 : decode cX5_wander 58 = .ok (.ldc2_w 52, 3) := by decide +kernel
theorem dX5_wander_61 : decode cX5_wander 61 = .ok (.lmul, 1) := by decide +kernel
theorem dX5_wander_62 : decode cX5_wander 62 = .ok (.putfield 26, 3) := by decide +kernel
theorem dX5_wander_65 : decode cX5_wander 65 = .ok (.return_, 1) := by decide +kernel
theorem dX5_spread_0 : decode cX5_spread 0 = .ok (.iconst 1, 1) := by decide +kernel
theorem dX5_spread_1 : decode cX5_spread 1 = .ok (.istore_n 2, 1) := by decide +kernel
theorem dX5_spread_2 : decode cX5_spread 2 = .ok (.iconst 0, 1) := by decide +kernel
theorem dX5_spread_3 : decode cX5_spread 3 = .ok (.istore_n 3, 1) := by decide +kernel
theorem dX5_spread_4 : decode cX5_spread 4 = .ok (.iload_n 3, 1) := by decide +kernel
theorem dX5_spread_5 : decode cX5_spread 5 = .ok (.iconst 4, 1) := by decide +kernel
theorem dX5_spread_6 : decode cX5_spread 6 = .ok (.if_icmp .ge 30, 3) := by decide +kernel
theorem dX5_spread_9 : decode cX5_spread 9 = .ok (.iload_n 2, 1) := by decide +kernel
theorem dX5_spread_10 : decode cX5_spread 10 = .ok (.aload_n 0, 1) := by decide +kernel
theorem dX5_spread_11 : decode cX5_spread 11 = .ok (.getfield 9, 3) := by decide +kernel
theorem dX5_spread_14 : decode cX5_spread 14 = .ok (.iload_n 1, 1) := by decide +kernel
theorem dX5_spread_15 : decode cX5_spread 15 = .ok (.iload_n 3, 1) := by decide +kernel
theorem dX5_spread_16 : decode cX5_spread 16 = .ok (.invokevirtual 54, 3) := by decide +kernel
theorem dX5_spread_19 : decode cX5_spread 19 = .ok (.iconst (-1), 1) := by decide +kernel
theorem dX5_spread_20 : decode cX5_spread 20 = .ok (.if_icmp .ne 7, 3) := by decide +kernel
theorem dX5_spread_23 : decode cX5_spread 23 = .ok (.iconst 0, 1) := by decide +kernel
theorem dX5_spread_24 : decode cX5_spread 24 = .ok (.goto 4, 3) := by decide +kernel
theorem dX5_spread_27 : decode cX5_spread 27 = .ok (.iconst 1, 1) := by decide +kernel
theorem dX5_spread_28 : decode cX5_spread 28 = .ok (.iadd, 1) := by decide +kernel
theorem dX5_spread_29 : decode cX5_spread 29 = .ok (.istore_n 2, 1) := by decide +kernel
theorem dX5_spread_30 : decode cX5_spread 30 = .ok (.iinc 3 1, 3) := by decide +kernel
theorem dX5_spread_33 : decode cX5_spread 33 = .ok (.goto (-29), 3) := by decide +kernel
theorem dX5_spread_36 : decode cX5_spread 36 = .ok (.aload_n 0, 1) := by decide +kernel
theorem dX5_spread_37 : decode cX5_spread 37 = .ok (.getfield 19, 3) := by decide +kernel
theorem dX5_spread_40 : decode cX5_spread 40 = .ok (.iload_n 1, 1) := by decide +kernel
theorem dX5_spread_41 : decode cX5_spread 41 = .ok (.laload, 1) := by decide +kernel
theorem dX5_spread_42 : decode cX5_spread 42 = .ok (.ldc2_w 52, 3) := by decide +kernel
theorem dX5_spread_45 : decode cX5_spread 45 = .ok (.lmul, 1) := by decide +kernel
theorem dX5_spread_46 : decode cX5_spread 46 = .ok (.iload_n 2, 1) := by decide +kernel
theorem dX5_spread_47 : decode cX5_spread 47 = .ok (.i2l, 1) := by decide +kernel
theorem dX5_spread_48 : decode cX5_spread 48 = .ok (.ldiv, 1) := by decide +kernel
theorem dX5_spread_49 : decode cX5_spread 49 = .ok (.lstore_n 3, 1) := by decide +kernel
theorem dX5_spread_50 : decode cX5_spread 50 = .ok (.aload_n 0, 1) := by decide +kernel
theorem dX5_spread_51 : decode cX5_spread 51 = .ok (.getfield 23, 3) := by decide +kernel
theorem dX5_spread_54 : decode cX5_spread 54 = .ok (.iload_n 1, 1) := by decide +kernel
theorem dX5_spread_55 : decode cX5_spread 55 = .ok (.dup2, 1) := by decide +kernel
theorem dX5_spread_56 : decode cX5_spread 56 = .ok (.laload, 1) := by decide +kernel
theorem dX5_spread_57 : decode cX5_spread 57 = .ok (.lload_n 3, 1) := by decide +kernel
theorem dX5_spread_58 : decode cX5_spread 58 = .ok (.ladd, 1) := by decide +kernel
theorem dX5_spread_59 : decode cX5_spread 59 = .ok (.lastore, 1) := by decide +kernel
theorem dX5_spread_60 : decode cX5_spread 60 = .ok (.iconst 0, 1) := by decide +kernel
theorem dX5_spread_61 : decode cX5_spread 61 = .ok (.istore 5, 2) := by decide +kernel
theorem dX5_spread_63 : decode cX5_spread 63 = .ok (.iload 5, 2) := by decide +kernel
theorem dX5_spread_65 : decode cX5_spread 65 = .ok (.iconst 4, 1) := by decide +kernel
theorem dX5_spread_66 : decode cX5_spread 66 = .ok (.if_icmp .ge 40, 3) := by decide +kernel
theorem dX5_spread_69 : decode cX5_spread 69 = .ok (.aload_n 0, 1) := by decide +kernel
theorem dX5_spread_70 : decode cX5_spread 70 = .ok (.getfield 9, 3) := by decide +kernel
theorem dX5_spread_73 : decode cX5_spread 73 = .ok (.iload_n 1, 1) := by decide +kernel
theorem dX5_spread_74 : decode cX5_spread 74 = .ok (.iload 5, 2) := by decide +kernel
theorem dX5_spread_76 : decode cX5_spread 76 = .ok (.invokevirtual 54, 3) := by decide +kernel
theorem dX5_spread_79 : decode cX5_spread 79 = .ok (.istore 6, 2) := by decide +kernel
theorem dX5_spread_81 : decode cX5_spread 81 = .ok (.iload 6, 2) := by decide +kernel
theorem dX5_spread_83 : decode cX5_spread 83 = .ok (.invokestatic 36, 3) := by decide +kernel
theorem dX5_spread_86 : decode cX5_spread 86 = .ok (.ifCond .eq 14, 3) := by decide +kernel
theorem dX5_spread_89 : decode cX5_spread 89 = .ok (.aload_n 0, 1) := by decide +kernel
theorem dX5_spread_90 : decode cX5_spread 90 = .ok (.getfield 23, 3) := by decide +kernel
theorem dX5_spread_93 : decode cX5_spread 93 = .ok (.iload 6, 2) := by decide +kernel
theorem dX5_spread_95 : decode cX5_spread 95 = .ok (.dup2, 1) := by decide +kernel
theorem dX5_spread_96 : decode cX5_spread 96 = .ok (.laload, 1) := by decide +kernel
theorem dX5_spread_97 : decode cX5_spread 97 = .ok (.lload_n 3, 1) := by decide +kernel
theorem dX5_spread_98 : decode cX5_spread 98 = .ok (.ladd, 1) := by decide +kernel
theorem dX5_spread_99 : decode cX5_spread 99 = .ok (.lastore, 1) := by decide +kernel
theorem dX5_spread_100 : decode cX5_spread 100 = .ok (.iinc 5 1, 3) := by decide +kernel
theorem dX5_spread_103 : decode cX5_spread 103 = .ok (.goto (-40), 3) := by decide +kernel
theorem dX5_spread_106 : decode cX5_spread 106 = .ok (.return_, 1) := by decide +kernel
theorem dX5_goNearer_0 : decode cX5_goNearer 0 = .ok (.aload_n 0, 1) := by decide +kernel
theorem dX5_goNearer_1 : decode cX5_goNearer 1 = .ok (.invokevirtual 58, 3) := by decide +kernel
theorem dX5_goNearer_4 : decode cX5_goNearer 4 = .ok (.istore_n 1, 1) := by decide +kernel
theorem dX5_goNearer_5 : decode cX5_goNearer 5 = .ok (.aload_n 0, 1) := by decide +kernel
theorem dX5_goNearer_6 : decode cX5_goNearer 6 = .ok (.getfield 15, 3) := by decide +kernel
theorem dX5_goNearer_9 : decode cX5_goNearer 9 = .ok (.iload_n 1, 1) := by decide +kernel
theorem dX5_goNearer_10 : decode cX5_goNearer 10 = .ok (.invokevirtual 62, 3) := by decide +kernel
theorem dX5_goNearer_13 : decode cX5_goNearer 13 = .ok (.istore_n 2, 1) := by decide +kernel
theorem dX5_goNearer_14 : decode cX5_goNearer 14 = .ok (.iconst 0, 1) := by decide +kernel
theorem dX5_goNearer_15 : decode cX5_goNearer 15 = .ok (.istore_n 3, 1) := by decide +kernel
theorem dX5_goNearer_16 : decode cX5_goNearer 16 = .ok (.iload_n 3, 1) := by decide +kernel
theorem dX5_goNearer_17 : decode cX5_goNearer 17 = .ok (.iconst 4, 1) := by decide +kernel
theorem dX5_goNearer_18 : decode cX5_goNearer 18 = .ok (.if_icmp .ge 50, 3) := by decide +kernel
theorem dX5_goNearer_21 : decode cX5_goNearer 21 = .ok (.aload_n 0, 1) := by decide +kernel
theorem dX5_goNearer_22 : decode cX5_goNearer 22 = .ok (.getfield 9, 3) := by decide +kernel
theorem dX5_goNearer_25 : decode cX5_goNearer 25 = .ok (.iload_n 1, 1) := by decide +kernel
theorem dX5_goNearer_26 : decode cX5_goNearer 26 = .ok (.iload_n 3, 1) := by decide +kernel
theorem dX5_goNearer_27 : decode cX5_goNearer 27 = .ok (.invokevirtual 54, 3) := by decide +kernel
theorem dX5_goNearer_30 : decode cX5_goNearer 30 = .ok (.istore 4, 2) := by decide +kernel
theorem dX5_goNearer_32 : decode cX5_goNearer 32 = .ok (.iload 4, 2) := by decide +kernel
theorem dX5_goNearer_34 : decode cX5_goNearer 34 = .ok (.iconst (-1), 1) := by decide +kernel
theorem dX5_goNearer_35 : decode cX5_goNearer 35 = .ok (.if_icmp .eq 27, 3) := by decide +kernel
theorem dX5_goNearer_38 : decode cX5_goNearer 38 = .ok (.iload_n 2, 1) := by decide +kernel
theorem dX5_goNearer_39 : decode cX5_goNearer 39 = .ok (.ifCond .le 23, 3) := by decide +kernel
theorem dX5_goNearer_42 : decode cX5_goNearer 42 = .ok (.aload_n 0, 1) := by decide +kernel
theorem dX5_goNearer_43 : decode cX5_goNearer 43 = .ok (.getfield 15, 3) := by decide +kernel
theorem dX5_goNearer_46 : decode cX5_goNearer 46 = .ok (.iload 4, 2) := by decide +kernel
theorem dX5_goNearer_48 : decode cX5_goNearer 48 = .ok (.invokevirtual 62, 3) := by decide +kernel
theorem dX5_goNearer_51 : decode cX5_goNearer 51 = .ok (.iload_n 2, 1) := by decide +kernel
theorem dX5_goNearer_52 : decode cX5_goNearer 52 = .ok (.if_icmp .ge 10, 3) := by decide +kernel
theorem dX5_goNearer_55 : decode cX5_goNearer 55 = .ok (.aload_n 0, 1) := by decide +kernel
theorem dX5_goNearer_56 : decode cX5_goNearer 56 = .ok (.iload 4, 2) := by decide +kernel
theorem dX5_goNearer_58 : decode cX5_goNearer 58 = .ok (.invokevirtual 68, 3) := by decide +kernel
theorem dX5_goNearer_61 : decode cX5_goNearer 61 = .ok (.return_, 1) := by decide +kernel
theorem dX5_goNearer_62 : decode cX5_goNearer 62 = .ok (.iinc 3 1, 3) := by decide +kernel
theorem dX5_goNearer_65 : decode cX5_goNearer 65 = .ok (.goto (-49), 3) := by decide +kernel
theorem dX5_goNearer_68 : decode cX5_goNearer 68 = .ok (.return_, 1) := by decide +kernel
theorem dX5_chanceOf_0 : decode cX5_chanceOf 0 = .ok (.iload_n 1, 1) := by decide +kernel
theorem dX5_chanceOf_1 : decode cX5_chanceOf 1 = .ok (.invokestatic 36, 3) := by decide +kernel
theorem dX5_chanceOf_4 : decode cX5_chanceOf 4 = .ok (.ifCond .eq 12, 3) := by decide +kernel
theorem dX5_chanceOf_7 : decode cX5_chanceOf 7 = .ok (.aload_n 0, 1) := by decide +kernel
theorem dX5_chanceOf_8 : decode cX5_chanceOf 8 = .ok (.getfield 19, 3) := by decide +kernel
theorem dX5_chanceOf_11 : decode cX5_chanceOf 11 = .ok (.iload_n 1, 1) := by decide +kernel
theorem dX5_chanceOf_12 : decode cX5_chanceOf 12 = .ok (.laload, 1) := by decide +kernel
theorem dX5_chanceOf_13 : decode cX5_chanceOf 13 = .ok (.goto 4, 3) := by decide +kernel
theorem dX5_chanceOf_16 : decode cX5_chanceOf 16 = .ok (.lconst 0, 1) := by decide +kernel
theorem dX5_chanceOf_17 : decode cX5_chanceOf 17 = .ok (.lreturn, 1) := by decide +kernel
theorem dX5_likeliestPlace_0 : decode cX5_likeliestPlace 0 = .ok (.iconst 0, 1) := by decide +kernel
theorem dX5_likeliestPlace_1 : decode cX5_likeliestPlace 1 = .ok (.istore_n 1, 1) := by decide +kernel
theorem dX5_likeliestPlace_2 : decode cX5_likeliestPlace 2 = .ok (.iconst 1, 1) := by decide +kernel
theorem dX5_likeliestPlace_3 : decode cX5_likeliestPlace 3 = .ok (.istore_n 2, 1) := by decide +kernel
theorem dX5_likeliestPlace_4 : decode cX5_likeliestPlace 4 = .ok (.iload_n 2, 1) := by decide +kernel
theorem dX5_likeliestPlace_5 : decode cX5_likeliestPlace 5 = .ok (.bipush 64, 2) := by decide +kernel
theorem dX5_likeliestPlace_7 : decode cX5_likeliestPlace 7 = .ok (.if_icmp .ge 27, 3) := by decide +kernel
theorem dX5_likeliestPlace_10 : decode cX5_likeliestPlace 10 = .ok (.aload_n 0, 1) := by decide +kernel
theorem dX5_likeliestPlace_11 : decode cX5_likeliestPlace 11 = .ok (.getfield 19, 3) := by decide +kernel
theorem dX5_likeliestPlace_14 : decode cX5_likeliestPlace 14 = .ok (.iload_n 2, 1) := by decide +kernel
theorem dX5_likeliestPlace_15 : decode cX5_likeliestPlace 15 = .ok (.laload, 1) := by decide +kernel
theorem dX5_likeliestPlace_16 : decode cX5_likeliestPlace 16 = .ok (.aload_n 0, 1) := by decide +kernel
theorem dX5_likeliestPlace_17 : decode cX5_likeliestPlace 17 = .ok (.getfield 19, 3) := by decide +kernel
theorem dX5_likeliestPlace_20 : decode cX5_likeliestPlace 20 = .ok (.iload_n 1, 1) := by decide +kernel
theorem dX5_likeliestPlace_21 : decode cX5_likeliestPlace 21 = .ok (.laload, 1) := by decide +kernel
theorem dX5_likeliestPlace_22 : decode cX5_likeliestPlace 22 = .ok (.lcmp, 1) := by decide +kernel
theorem dX5_likeliestPlace_23 : decode cX5_likeliestPlace 23 = .ok (.ifCond .le 5, 3) := by decide +kernel
theorem dX5_likeliestPlace_26 : decode cX5_likeliestPlace 26 = .ok (.iload_n 2, 1) := by decide +kernel
theorem dX5_likeliestPlace_27 : decode cX5_likeliestPlace 27 = .ok (.istore_n 1, 1) := by decide +kernel
theorem dX5_likeliestPlace_28 : decode cX5_likeliestPlace 28 = .ok (.iinc 2 1, 3) := by decide +kernel
theorem dX5_likeliestPlace_31 : decode cX5_likeliestPlace 31 = .ok (.goto (-27), 3) := by decide +kernel
theorem dX5_likeliestPlace_34 : decode cX5_likeliestPlace 34 = .ok (.iload_n 1, 1) := by decide +kernel
theorem dX5_likeliestPlace_35 : decode cX5_likeliestPlace 35 = .ok (.ireturn, 1) := by decide +kernel
theorem dX6_init_0 : decode cX6_init 0 = .ok (.aload_n 0, 1) := by decide +kernel
theorem dX6_init_1 : decode cX6_init 1 = .ok (.invokespecial 3, 3) := by decide +kernel
theorem dX6_init_4 : decode cX6_init 4 = .ok (.aload_n 0, 1) := by decide +kernel
theorem dX6_init_5 : decode cX6_init 5 = .ok (.bipush 35, 2) := by decide +kernel
theorem dX6_init_7 : decode cX6_init 7 = .ok (.newarray .int, 2) := by decide +kernel
theorem dX6_init_9 : decode cX6_init 9 = .ok (.putfield 11, 3) := by decide +kernel
theorem dX6_init_12 : decode cX6_init 12 = .ok (.aload_n 0, 1) := by decide +kernel
theorem dX6_init_13 : decode cX6_init 13 = .ok (.bipush 32, 2) := by decide +kernel
theorem dX6_init_15 : decode cX6_init 15 = .ok (.newarray .int, 2) := by decide +kernel
theorem dX6_init_17 : decode cX6_init 17 = .ok (.putfield 15, 3) := by decide +kernel
theorem dX6_init_20 : decode cX6_init 20 = .ok (.aload_n 0, 1) := by decide +kernel
theorem dX6_init_21 : decode cX6_init 21 = .ok (.sipush 224, 3) := by decide +kernel
theorem dX6_init_24 : decode cX6_init 24 = .ok (.newarray .int, 2) := by decide +kernel
theorem dX6_init_26 : decode cX6_init 26 = .ok (.putfield 18, 3) := by decide +kernel
theorem dX6_init_29 : decode cX6_init 29 = .ok (.return_, 1) := by decide +kernel
theorem dX6_layOrders_0 : decode cX6_layOrders 0 = .ok (.aload_n 0, 1) := by decide +kernel
theorem dX6_layOrders_1 : decode cX6_layOrders 1 = .ok (.getfield 15, 3) := by decide +kernel
theorem dX6_layOrders_4 : decode cX6_layOrders 4 = .ok (.iconst 1, 1) := by decide +kernel
theorem dX6_layOrders_5 : decode cX6_layOrders 5 = .ok (.invokestatic 21, 3) := by decide +kernel
theorem dX6_layOrders_8 : decode cX6_layOrders 8 = .ok (.iconst 0, 1) := by decide +kernel
theorem dX6_layOrders_9 : decode cX6_layOrders 9 = .ok (.istore_n 2, 1) := by decide +kernel
theorem dX6_layOrders_10 : decode cX6_layOrders 10 = .ok (.iload_n 2, 1) := by decide +kernel
theorem dX6_layOrders_11 : decode cX6_layOrders 11 = .ok (.iconst 5, 1) := by decide +kernel
theorem dX6_layOrders_12 : decode cX6_layOrders 12 = .ok (.if_icmp .ge 52, 3) := by decide +kernel
theorem dX6_layOrders_15 : decode cX6_layOrders 15 = .ok (.iconst 0, 1) := by decide +kernel
theorem dX6_layOrders_16 : decode cX6_layOrders 16 = .ok (.istore_n 3, 1) := by decide +kernel
theorem dX6_layOrders_17 : decode cX6_layOrders 17 = .ok (.iload_n 3, 1) := by decide +kernel
theorem dX6_layOrders_18 : decode cX6_layOrders 18 = .ok (.iconst 5, 1) := by decide +kernel
theorem dX6_layOrders_19 : decode cX6_layOrders 19 = .ok (.if_icmp .ge 24, 3) := by decide +kernel
theorem dX6_layOrders_22 : decode cX6_layOrders 22 = .ok (.aload_n 0, 1) := by decide +kernel
theorem dX6_layOrders_23 : decode cX6_layOrders 23 = .ok (.iload_n 3, 1) := by decide +kernel
theorem dX6_layOrders_24 : decode cX6_layOrders 24 = .ok (.iload_n 2, 1) := by decide +kernel
theorem dX6_layOrders_25 : decode cX6_layOrders 25 = .ok (.bipush 16, 2) := by decide +kernel
theorem dX6_layOrders_27 : decode cX6_layOrders 27 = .ok (.aload_n 1, 1) := by decide +kernel
theorem dX6_layOrders_28 : decode cX6_layOrders 28 = .ok (.iload_n 3, 1) := by decide +kernel
theorem dX6_layOrders_29 : decode cX6_layOrders 29 = .ok (.iload_n 2, 1) := by decide +kernel
theorem dX6_layOrders_30 : decode cX6_layOrders 30 = .ok (.invokevirtual 27, 3) := by decide +kernel
theorem dX6_layOrders_33 : decode cX6_layOrders 33 = .ok (.isub, 1) := by decide +kernel
theorem dX6_layOrders_34 : decode cX6_layOrders 34 = .ok (.invokevirtual 33, 3) := by decide +kernel
theorem dX6_layOrders_37 : decode cX6_layOrders 37 = .ok (.iinc 3 1, 3) := by decide +kernel
theorem dX6_layOrders_40 : decode cX6_layOrders 40 = .ok (.goto (-23), 3) := by decide +kernel
theorem dX6_layOrders_43 : decode cX6_layOrders 43 = .ok (.aload_n 0, 1) := by decide +kernel
theorem dX6_layOrders_44 : decode cX6_layOrders 44 = .ok (.iconst 5, 1) := by decide +kernel
theorem dX6_layOrders_45 : decode cX6_layOrders 45 = .ok (.iload_n 2, 1) := by decide +kernel
theorem dX6_layOrders_46 : decode cX6_layOrders 46 = .ok (.iconst 0, 1) := by decide +kernel
theorem dX6_layOrders_47 : decode cX6_layOrders 47 = .ok (.invokevirtual 33, 3) := by decide +kernel
theorem dX6_layOrders_50 : decode cX6_layOrders 50 = .ok (.aload_n 0, 1) := by decide +kernel
theorem dX6_layOrders_51 : decode cX6_layOrders 51 = .ok (.bipush 6, 2) := by decide +kernel
theorem dX6_layOrders_53 : decode cX6_layOrders 53 = .ok (.iload_n 2, 1) := by decide +kernel
theorem dX6_layOrders_54 : decode cX6_layOrders 54 = .ok (.iconst 0, 1) := by decide +kernel
theorem dX6_layOrders_55 : decode cX6_layOrders 55 = .ok (.invokevirtual 33, 3) := by decide +kernel
theorem dX6_layOrders_58 : decode cX6_layOrders 58 = .ok (.iinc 2 1, 3) := by decide +kernel
theorem dX6_layOrders_61 : decode cX6_layOrders 61 = .ok (.goto (-51), 3) := by decide +kernel
theorem dX6_layOrders_64 : decode cX6_layOrders 64 = .ok (.return_, 1) := by decide +kernel
theorem dX6_layWeights_0 : decode cX6_layWeights 0 = .ok (.iconst 0, 1) := by decide +kernel
theorem dX6_layWeights_1 : decode cX6_layWeights 1 = .ok (.istore_n 2, 1) := by decide +kernel
theorem dX6_layWeights_2 : decode cX6_layWeights 2 = .ok (.iload_n 2, 1) := by decide +kernel
theorem dX6_layWeights_3 : decode cX6_layWeights 3 = .ok (.bipush 32, 2) := by decide +kernel
theorem dX6_layWeights_5 : decode cX6_layWeights 5 = .ok (.if_icmp .ge 20, 3) := by decide +kernel
theorem dX6_layWeights_8 : decode cX6_layWeights 8 = .ok (.aload_n 0, 1) := by decide +kernel
theorem dX6_layWeights_9 : decode cX6_layWeights 9 = .ok (.getfield 15, 3) := by decide +kernel
theorem dX6_layWeights_12 : decode cX6_layWeights 12 = .ok (.iload_n 2, 1) := by decide +kernel
theorem dX6_layWeights_13 : decode cX6_layWeights 13 = .ok (.aload_n 1, 1) := by decide +kernel
theorem dX6_layWeights_14 : decode cX6_layWeights 14 = .ok (.iload_n 2, 1) := by decide +kernel
theorem dX6_layWeights_15 : decode cX6_layWeights 15 = .ok (.invokevirtual 37, 3) := by decide +kernel
theorem dX6_layWeights_18 : decode cX6_layWeights 18 = .ok (.iastore, 1) := by decide +kernel
theorem dX6_layWeights_19 : decode cX6_layWeights 19 = .ok (.iinc 2 1, 3) := by decide +kernel
theorem dX6_layWeights_22 : decode cX6_layWeights 22 = .ok (.goto (-20), 3) := by decide +kernel
theorem dX6_layWeights_25 : decode cX6_layWeights 25 = .ok (.return_, 1) := by decide +kernel
theorem dX6_putLeg_0 : decode cX6_putLeg 0 = .ok (.iload_n 1, 1) := by decide +kernel
theorem dX6_putLeg_1 : decode cX6_putLeg 1 = .ok (.ifCond .lt 29, 3) := by decide +kernel
theorem dX6_putLeg_4 : decode cX6_putLeg 4 = .ok (.iload_n 1, 1) := by decide +kernel
theorem dX6_putLeg_5 : decode cX6_putLeg 5 = .ok (.bipush 7, 2) := by decide +kernel
theorem dX6_putLeg_7 : decode cX6_putLeg 7 = .ok (.if_icmp .ge 23, 3) := by decide +kernel
theorem dX6_putLeg_10 : decode cX6_putLeg 10 = .ok (.iload_n 2, 1) := by decide +kernel
theorem dX6_putLeg_11 : decode cX6_putLeg 11 = .ok (.ifCond .lt 19, 3) := by decide +kernel
theorem dX6_putLeg_14 : decode cX6_putLeg 14 = .ok (.iload_n 2, 1) := by decide +kernel
theorem dX6_putLeg_15 : decode cX6_putLeg 15 = .ok (.iconst 5, 1) := by decide +kernel
theorem dX6_putLeg_16 : decode cX6_putLeg 16 = .ok (.if_icmp .ge 14, 3) := by decide +kernel
theorem dX6_putLeg_19 : decode cX6_putLeg 19 = .ok (.aload_n 0, 1) := by decide +kernel
theorem dX6_putLeg_20 : decode cX6_putLeg 20 = .ok (.getfield 11, 3) := by decide +kernel
theorem dX6_putLeg_23 : decode cX6_putLeg 23 = .ok (.iload_n 1, 1) := by decide +kernel
theorem dX6_putLeg_24 : decode cX6_putLeg 24 = .ok (.iconst 5, 1) := by decide +kernel
theorem dX6_putLeg_25 : decode cX6_putLeg 25 = .ok (.imul, 1) := by decide +kernel
theorem dX6_putLeg_26 : decode cX6_putLeg 26 = .ok (.iload_n 2, 1) := by decide +kernel
theorem dX6_putLeg_27 : decode cX6_putLeg 27 = .ok (.iadd, 1) := by decide +kernel
theorem dX6_putLeg_28 : decode cX6_putLeg 28 = .ok (.iload_n 3, 1) := by decide +kernel
theorem dX6_putLeg_29 : decode cX6_putLeg 29 = .ok (.iastore, 1) := by decide +kernel
theorem dX6_putLeg_30 : decode cX6_putLeg 30 = .ok (.return_, 1) := by decide +kernel
theorem dX6_solve_0 : decode cX6_solve 0 = .ok (.aload_n 0, 1) := by decide +kernel
theorem dX6_solve_1 : decode cX6_solve 1 = .ok (.getfield 18, 3) := by decide +kernel
theorem dX6_solve_4 : decode cX6_solve 4 = .ok (.iconst 0, 1) := by decide +kernel
theorem dX6_solve_5 : decode cX6_solve 5 = .ok (.invokestatic 21, 3) := by decide +kernel
theorem dX6_solve_8 : decode cX6_solve 8 = .ok (.iconst 1, 1) := by decide +kernel
theorem dX6_solve_9 : decode cX6_solve 9 = .ok (.istore_n 2, 1) := by decide +kernel
theorem dX6_solve_10 : decode cX6_solve 10 = .ok (.iload_n 2, 1) := by decide +kernel
theorem dX6_solve_11 : decode cX6_solve 11 = .ok (.bipush 32, 2) := by decide +kernel
theorem dX6_solve_13 : decode cX6_solve 13 = .ok (.if_icmp .ge 54, 3) := by decide +kernel
theorem dX6_solve_16 : decode cX6_solve 16 = .ok (.iload_n 2, 1) := by decide +kernel
theorem dX6_solve_17 : decode cX6_solve 17 = .ok (.iload_n 1, 1) := by decide +kernel
theorem dX6_solve_18 : decode cX6_solve 18 = .ok (.iconst (-1), 1) := by decide +kernel
theorem dX6_solve_19 : decode cX6_solve 19 = .ok (.ixor, 1) := by decide +kernel
theorem dX6_solve_20 : decode cX6_solve 20 = .ok (.iand, 1) := by decide +kernel
theorem dX6_solve_21 : decode cX6_solve 21 = .ok (.ifCond .ne 40, 3) := by decide +kernel
theorem dX6_solve_24 : decode cX6_solve 24 = .ok (.iconst 0, 1) := by decide +kernel
theorem dX6_solve_25 : decode cX6_solve 25 = .ok (.istore_n 3, 1) := by decide +kernel
theorem dX6_solve_26 : decode cX6_solve 26 = .ok (.iload_n 3, 1) := by decide +kernel
theorem dX6_solve_27 : decode cX6_solve 27 = .ok (.bipush 7, 2) := by decide +kernel
theorem dX6_solve_29 : decode cX6_solve 29 = .ok (.if_icmp .ge 32, 3) := by decide +kernel
theorem dX6_solve_32 : decode cX6_solve 32 = .ok (.aload_n 0, 1) := by decide +kernel
theorem dX6_solve_33 : decode cX6_solve 33 = .ok (.getfield 18, 3) := by decide +kernel
theorem dX6_solve_36 : decode cX6_solve 36 = .ok (.iload_n 2, 1) := by decide +kernel
theorem dX6_solve_37 : decode cX6_solve 37 = .ok (.bipush 7, 2) := by decide +kernel
theorem dX6_solve_39 : decode cX6_solve 39 = .ok (.imul, 1) := by decide +kernel
theorem dX6_solve_40 : decode cX6_solve 40 = .ok (.iload_n 3, 1) := by decide +kernel
theorem dX6_solve_41 : decode cX6_solve 41 = .ok (.iadd, 1) := by decide +kernel
theorem dX6_solve_42 : decode cX6_solve 42 = .ok (.aload_n 0, 1) := by decide +kernel
theorem dX6_solve_43 : decode cX6_solve 43 = .ok (.iload_n 3, 1) := by decide +kernel
theorem dX6_solve_44 : decode cX6_solve 44 = .ok (.iload_n 2, 1) := by decide +kernel
theorem dX6_solve_45 : decode cX6_solve 45 = .ok (.aload_n 0, 1) := by decide +kernel
theorem dX6_solve_46 : decode cX6_solve 46 = .ok (.iload_n 3, 1) := by decide +kernel
theorem dX6_solve_47 : decode cX6_solve 47 = .ok (.iload_n 2, 1) := by decide +kernel
theorem dX6_solve_48 : decode cX6_solve 48 = .ok (.invokevirtual 43, 3) := by decide +kernel
theorem dX6_solve_51 : decode cX6_solve 51 = .ok (.invokevirtual 46, 3) := by decide +kernel
theorem dX6_solve_54 : decode cX6_solve 54 = .ok (.iastore, 1) := by decide +kernel
theorem dX6_solve_55 : decode cX6_solve 55 = .ok (.iinc 3 1, 3) := by decide +kernel
theorem dX6_solve_58 : decode cX6_solve 58 = .ok (.goto (-32), 3) := by decide +kernel
theorem dX6_solve_61 : decode cX6_solve 61 = .ok (.iinc 2 1, 3) := by decide +kernel
theorem dX6_solve_64 : decode cX6_solve 64 = .ok (.goto (-54), 3) := by decide +kernel
theorem dX6_solve_67 : decode cX6_solve 67 = .ok (.return_, 1) := by decide +kernel
theorem dX6_leastFrom_0 : decode cX6_leastFrom 0 = .ok (.iload_n 1, 1) := by decide +kernel
theorem dX6_leastFrom_1 : decode cX6_leastFrom 1 = .ok (.ifCond .lt 23, 3) := by decide +kernel
theorem dX6_leastFrom_4 : decode cX6_leastFrom 4 = .ok (.iload_n 1, 1) := by decide +kernel
theorem dX6_leastFrom_5 : decode cX6_leastFrom 5 = .ok (.bipush 7, 2) := by decide +kernel
theorem dX6_leastFrom_7 : decode cX6_leastFrom 7 = .ok (.if_icmp .ge 17, 3) := by decide +kernel
theorem dX6_leastFrom_10 : decode cX6_leastFrom 10 = .ok (.iload_n 2, 1) := by decide +kernel
theorem dX6_leastFrom_11 : decode cX6_leastFrom 11 = .ok (.ifCond .lt 13, 3) := by decide +kernel
theorem dX6_leastFrom_14 : decode cX6_leastFrom 14 = .ok (.iload_n 2, 1) := by decide +kernel
theorem dX6_leastFrom_15 : decode cX6_leastFrom 15 = .ok (.bipush 32, 2) := by decide +kernel
theorem dX6_leastFrom_17 : decode cX6_leastFrom 17 = .ok (.if_icmp .ge 7, 3) := by decide +kernel
theorem dX6_leastFrom_20 : decode cX6_leastFrom 20 = .ok (.iconst 1, 1) := by decide +kernel
theorem dX6_leastFrom_21 : decode cX6_leastFrom 21 = .ok (.goto 4, 3) := by decide +kernel
theorem dX6_leastFrom_24 : decode cX6_leastFrom 24 = .ok (.iconst 0, 1) := by decide +kernel
theorem dX6_leastFrom_25 : decode cX6_leastFrom 25 = .ok (.istore_n 3, 1) := by decide +kernel
theorem dX6_leastFrom_26 : decode cX6_leastFrom 26 = .ok (.iload_n 3, 1) := by decide +kernel
theorem dX6_leastFrom_27 : decode cX6_leastFrom 27 = .ok (.ifCond .eq 17, 3) := by decide +kernel
theorem dX6_leastFrom_30 : decode cX6_leastFrom 30 = .ok (.aload_n 0, 1) := by decide +kernel
theorem dX6_leastFrom_31 : decode cX6_leastFrom 31 = .ok (.getfield 18, 3) := by decide +kernel
theorem dX6_leastFrom_34 : decode cX6_leastFrom 34 = .ok (.iload_n 2, 1) := by decide +kernel
theorem dX6_leastFrom_35 : decode cX6_leastFrom 35 = .ok (.bipush 7, 2) := by decide +kernel
theorem dX6_leastFrom_37 : decode cX6_leastFrom 37 = .ok (.imul, 1) := by decide +kernel
theorem dX6_leastFrom_38 : decode cX6_leastFrom 38 = .ok (.iload_n 1, 1) := by decide +kernel
theorem dX6_leastFrom_39 : decode cX6_leastFrom 39 = .ok (.iadd, 1) := by decide +kernel
theorem dX6_leastFrom_40 : decode cX6_leastFrom 40 = .ok (.iaload, 1) := by decide +kernel
theorem dX6_leastFrom_41 : decode cX6_leastFrom 41 = .ok (.goto 4, 3) := by decide +kernel
theorem dX6_leastFrom_44 : decode cX6_leastFrom 44 = .ok (.iconst 0, 1) := by decide +kernel
theorem dX6_leastFrom_45 : decode cX6_leastFrom 45 = .ok (.ireturn, 1) := by decide +kernel
theorem dX6_costBy_0 : decode cX6_costBy 0 = .ok (.iload_n 1, 1) := by decide +kernel
theorem dX6_costBy_1 : decode cX6_costBy 1 = .ok (.ifCond .lt 32, 3) := by decide +kernel
theorem dX6_costBy_4 : decode cX6_costBy 4 = .ok (.iload_n 1, 1) := by decide +kernel
theorem dX6_costBy_5 : decode cX6_costBy 5 = .ok (.bipush 7, 2) := by decide +kernel
theorem dX6_costBy_7 : decode cX6_costBy 7 = .ok (.if_icmp .ge 26, 3) := by decide +kernel
theorem dX6_costBy_10 : decode cX6_costBy 10 = .ok (.iload_n 2, 1) := by decide +kernel
theorem dX6_costBy_11 : decode cX6_costBy 11 = .ok (.ifCond .lt 22, 3) := by decide +kernel
theorem dX6_costBy_14 : decode cX6_costBy 14 = .ok (.iload_n 2, 1) := by decide +kernel
theorem dX6_costBy_15 : decode cX6_costBy 15 = .ok (.bipush 32, 2) := by decide +kernel
theorem dX6_costBy_17 : decode cX6_costBy 17 = .ok (.if_icmp .ge 16, 3) := by decide +kernel
theorem dX6_costBy_20 : decode cX6_costBy 20 = .ok (.iload_n 3, 1) := by decide +kernel
theorem dX6_costBy_21 : decode cX6_costBy 21 = .ok (.ifCond .lt 12, 3) := by decide +kernel
theorem dX6_costBy_24 : decode cX6_costBy 24 = .ok (.iload_n 3, 1) := by decide +kernel
theorem dX6_costBy_25 : decode cX6_costBy 25 = .ok (.iconst 5, 1) := by decide +kernel
theorem dX6_costBy_26 : decode cX6_costBy 26 = .ok (.if_icmp .ge 7, 3) := by decide +kernel
theorem dX6_costBy_29 : decode cX6_costBy 29 = .ok (.iconst 1, 1) := by decide +kernel
theorem dX6_costBy_30 : decode cX6_costBy 30 = .ok (.goto 4, 3) := by decide +kernel
theorem dX6_costBy_33 : decode cX6_costBy 33 = .ok (.iconst 0, 1) := by decide +kernel
theorem dX6_costBy_34 : decode cX6_costBy 34 = .ok (.istore 4, 2) := by decide +kernel
theorem dX6_costBy_36 : decode cX6_costBy 36 = .ok (.iload 4, 2) := by decide +kernel
theorem dX6_costBy_38 : decode cX6_costBy 38 = .ok (.ifCond .eq 36, 3) := by decide +kernel
theorem dX6_costBy_41 : decode cX6_costBy 41 = .ok (.aload_n 0, 1) := by decide +kernel
theorem dX6_costBy_42 : decode cX6_costBy 42 = .ok (.getfield 11, 3) := by decide +kernel
theorem dX6_costBy_45 : decode cX6_costBy 45 = .ok (.iload_n 1, 1) := by decide +kernel
theorem dX6_costBy_46 : decode cX6_costBy 46 = .ok (.iconst 5, 1) := by decide +kernel
theorem dX6_costBy_47 : decode cX6_costBy 47 = .ok (.imul, 1) := by decide +kernel
theorem dX6_costBy_48 : decode cX6_costBy 48 = .ok (.iload_n 3, 1) := by decide +kernel
theorem dX6_costBy_49 : decode cX6_costBy 49 = .ok (.iadd, 1) := by decide +kernel
theorem dX6_costBy_50 : decode cX6_costBy 50 = .ok (.iaload, 1) := by decide +kernel
theorem dX6_costBy_51 : decode cX6_costBy 51 = .ok (.aload_n 0, 1) := by decide +kernel
theorem dX6_costBy_52 : decode cX6_costBy 52 = .ok (.getfield 15, 3) := by decide +kernel
theorem dX6_costBy_55 : decode cX6_costBy 55 = .ok (.iload_n 2, 1) := by decide +kernel
theorem dX6_costBy_56 : decode cX6_costBy 56 = .ok (.iaload, 1) := by decide +kernel
theorem dX6_costBy_57 : decode cX6_costBy 57 = .ok (.imul, 1) := by decide +kernel
theorem dX6_costBy_58 : decode cX6_costBy 58 = .ok (.aload_n 0, 1) := by decide +kernel
theorem dX6_costBy_59 : decode cX6_costBy 59 = .ok (.iload_n 3, 1) := by decide +kernel
theorem dX6_costBy_60 : decode cX6_costBy 60 = .ok (.iload_n 2, 1) := by decide +kernel
theorem dX6_costBy_61 : decode cX6_costBy 61 = .ok (.iconst 1, 1) := by decide +kernel
theorem dX6_costBy_62 : decode cX6_costBy 62 = .ok (.iload_n 3, 1) := by decide +kernel
theorem dX6_costBy_63 : decode cX6_costBy 63 = .ok (.ishl, 1) := by decide +kernel
theorem dX6_costBy_64 : decode cX6_costBy 64 = .ok (.iconst (-1), 1) := by decide +kernel
theorem dX6_costBy_65 : decode cX6_costBy 65 = .ok (.ixor, 1) := by decide +kernel
theorem dX6_costBy_66 : decode cX6_costBy 66 = .ok (.iand, 1) := by decide +kernel
theorem dX6_costBy_67 : decode cX6_costBy 67 = .ok (.invokevirtual 50, 3) := by decide +kernel
theorem dX6_costBy_70 : decode cX6_costBy 70 = .ok (.iadd, 1) := by decide +kernel
theorem dX6_costBy_71 : decode cX6_costBy 71 = .ok (.goto 4, 3) := by decide +kernel
theorem dX6_costBy_74 : decode cX6_costBy 74 = .ok (.iconst 0, 1) := by decide +kernel
theorem dX6_costBy_75 : decode cX6_costBy 75 = .ok (.ireturn, 1) := by decide +kernel
theorem dX6_cheapestNext_0 : decode cX6_cheapestNext 0 = .ok (.iconst (-1), 1) := by decide +kernel
theorem dX6_cheapestNext_1 : decode cX6_cheapestNext 1 = .ok (.istore_n 3, 1) := by decide +kernel
theorem dX6_cheapestNext_2 : decode cX6_cheapestNext 2 = .ok (.iconst 0, 1) := by decide +kernel
theorem dX6_cheapestNext_3 : decode cX6_cheapestNext 3 = .ok (.istore 4, 2) := by decide +kernel
theorem dX6_cheapestNext_5 : decode cX6_cheapestNext 5 = .ok (.iconst 0, 1) := by decide +kernel
theorem dX6_cheapestNext_6 : decode cX6_cheapestNext 6 = .ok (.istore 5, 2) := by decide +kernel
theorem dX6_cheapestNext_8 : decode cX6_cheapestNext 8 = .ok (.iload 5, 2) := by decide +kernel
theorem dX6_cheapestNext_10 : decode cX6_cheapestNext 10 = .ok (.iconst 5, 1) := by decide +kernel
theorem dX6_cheapestNext_11 : decode cX6_cheapestNext 11 = .ok (.if_icmp .ge 47, 3) := by decide +kernel
theorem dX6_cheapestNext_14 : decode cX6_cheapestNext 14 = .ok (.iload_n 2, 1) := by decide +kernel
theorem dX6_cheapestNext_15 : decode cX6_cheapestNext 15 = .ok (.iload 5, 2) := by decide +kernel
theorem dX6_cheapestNext_17 : decode cX6_cheapestNext 17 = .ok (.ishr, 1) := by decide +kernel
theorem dX6_cheapestNext_18 : decode cX6_cheapestNext 18 = .ok (.iconst 1, 1) := by decide +kernel
theorem dX6_cheapestNext_19 : decode cX6_cheapestNext 19 = .ok (.iand, 1) := by decide +kernel
theorem dX6_cheapestNext_20 : decode cX6_cheapestNext 20 = .ok (.ifCond .eq 32, 3) := by decide +kernel
theorem dX6_cheapestNext_23 : decode cX6_cheapestNext 23 = .ok (.aload_n 0, 1) := by decide +kernel
theorem dX6_cheapestNext_24 : decode cX6_cheapestNext 24 = .ok (.iload_n 1, 1) := by decide +kernel
theorem dX6_cheapestNext_25 : decode cX6_cheapestNext 25 = .ok (.iload_n 2, 1) := by decide +kernel
theorem dX6_cheapestNext_26 : decode cX6_cheapestNext 26 = .ok (.iload 5, 2) := by decide +kernel
theorem dX6_cheapestNext_28 : decode cX6_cheapestNext 28 = .ok (.invokevirtual 46, 3) := by decide +kernel
theorem dX6_cheapestNext_31 : decode cX6_cheapestNext 31 = .ok (.istore 6, 2) := by decide +kernel
theorem dX6_cheapestNext_33 : decode cX6_cheapestNext 33 = .ok (.iload_n 3, 1) := by decide +kernel
theorem dX6_cheapestNext_34 : decode cX6_cheapestNext 34 = .ok (.iconst (-1), 1) := by decide +kernel
theorem dX6_cheapestNext_35 : decode cX6_cheapestNext 35 = .ok (.if_icmp .eq 10, 3) := by decide +kernel
theorem dX6_cheapestNext_38 : decode cX6_cheapestNext 38 = .ok (.iload 6, 2) := by decide +kernel
theorem dX6_cheapestNext_40 : decode cX6_cheapestNext 40 = .ok (.iload 4, 2) := by decide +kernel
theorem dX6_cheapestNext_42 : decode cX6_cheapestNext 42 = .ok (.if_icmp .ge 10, 3) := by decide +kernel
theorem dX6_cheapestNext_45 : decode cX6_cheapestNext 45 = .ok (.iload 5, 2) := by decide +kernel
theorem dX6_cheapestNext_47 : decode cX6_cheapestNext 47 = .ok (.istore_n 3, 1) := by decide +kernel
theorem dX6_cheapestNext_48 : decode cX6_cheapestNext 48 = .ok (.iload 6, 2) := by decide +kernel
theorem dX6_cheapestNext_50 : decode cX6_cheapestNext 50 = .ok (.istore 4, 2) := by decide +kernel
theorem dX6_cheapestNext_52 : decode cX6_cheapestNext 52 = .ok (.iinc 5 1, 3) := by decide +kernel
theorem dX6_cheapestNext_55 : decode cX6_cheapestNext 55 = .ok (.goto (-47), 3) := by decide +kernel
theorem dX6_cheapestNext_58 : decode cX6_cheapestNext 58 = .ok (.iload_n 3, 1) := by decide +kernel
theorem dX6_cheapestNext_59 : decode cX6_cheapestNext 59 = .ok (.ireturn, 1) := by decide +kernel
theorem dX6_stopAt_0 : decode cX6_stopAt 0 = .ok (.iconst 5, 1) := by decide +kernel
theorem dX6_stopAt_1 : decode cX6_stopAt 1 = .ok (.istore_n 3, 1) := by decide +kernel
theorem dX6_stopAt_2 : decode cX6_stopAt 2 = .ok (.iload_n 1, 1) := by decide +kernel
theorem dX6_stopAt_3 : decode cX6_stopAt 3 = .ok (.istore 4, 2) := by decide +kernel
theorem dX6_stopAt_5 : decode cX6_stopAt 5 = .ok (.iconst 0, 1) := by decide +kernel
theorem dX6_stopAt_6 : decode cX6_stopAt 6 = .ok (.istore 5, 2) := by decide +kernel
theorem dX6_stopAt_8 : decode cX6_stopAt 8 = .ok (.iload 5, 2) := by decide +kernel
theorem dX6_stopAt_10 : decode cX6_stopAt 10 = .ok (.iconst 5, 1) := by decide +kernel
theorem dX6_stopAt_11 : decode cX6_stopAt 11 = .ok (.if_icmp .ge 52, 3) := by decide +kernel
theorem dX6_stopAt_14 : decode cX6_stopAt 14 = .ok (.iload 4, 2) := by decide +kernel
theorem dX6_stopAt_16 : decode cX6_stopAt 16 = .ok (.ifCond .eq 47, 3) := by decide +kernel
theorem dX6_stopAt_19 : decode cX6_stopAt 19 = .ok (.aload_n 0, 1) := by decide +kernel
theorem dX6_stopAt_20 : decode cX6_stopAt 20 = .ok (.iload_n 3, 1) := by decide +kernel
theorem dX6_stopAt_21 : decode cX6_stopAt 21 = .ok (.iload 4, 2) := by decide +kernel
theorem dX6_stopAt_23 : decode cX6_stopAt 23 = .ok (.invokevirtual 43, 3) := by decide +kernel
theorem dX6_stopAt_26 : decode cX6_stopAt 26 = .ok (.istore 6, 2) := by decide +kernel
theorem dX6_stopAt_28 : decode cX6_stopAt 28 = .ok (.iload 6, 2) := by decide +kernel
theorem dX6_stopAt_30 : decode cX6_stopAt 30 = .ok (.iconst (-1), 1) := by decide +kernel
theorem dX6_stopAt_31 : decode cX6_stopAt 31 = .ok (.if_icmp .eq 9, 3) := by decide +kernel
theorem dX6_stopAt_34 : decode cX6_stopAt 34 = .ok (.iload 5, 2) := by decide +kernel
theorem dX6_stopAt_36 : decode cX6_stopAt 36 = .ok (.iload_n 2, 1) := by decide +kernel
theorem dX6_stopAt_37 : decode cX6_stopAt 37 = .ok (.if_icmp .ne 6, 3) := by decide +kernel
theorem dX6_stopAt_40 : decode cX6_stopAt 40 = .ok (.iload 6, 2) := by decide +kernel
theorem dX6_stopAt_42 : decode cX6_stopAt 42 = .ok (.ireturn, 1) := by decide +kernel
theorem dX6_stopAt_43 : decode cX6_stopAt 43 = .ok (.iload 4, 2) := by decide +kernel
theorem dX6_stopAt_45 : decode cX6_stopAt 45 = .ok (.iconst 1, 1) := by decide +kernel
theorem dX6_stopAt_46 : decode cX6_stopAt 46 = .ok (.iload 6, 2) := by decide +kernel
theorem dX6_stopAt_48 : decode cX6_stopAt 48 = .ok (.ishl, 1) := by decide +kernel
theorem dX6_stopAt_49 : decode cX6_stopAt 49 = .ok (.iconst (-1), 1) := by decide +kernel
theorem dX6_stopAt_50 : decode cX6_stopAt 50 = .ok (.ixor, 1) := by decide +kernel
theorem dX6_stopAt_51 : decode cX6_stopAt 51 = .ok (.iand, 1) := by decide +kernel
theorem dX6_stopAt_52 : decode cX6_stopAt 52 = .ok (.istore 4, 2) := by decide +kernel
theorem dX6_stopAt_54 : decode cX6_stopAt 54 = .ok (.iload 6, 2) := by decide +kernel
theorem dX6_stopAt_56 : decode cX6_stopAt 56 = .ok (.istore_n 3, 1) := by decide +kernel
theorem dX6_stopAt_57 : decode cX6_stopAt 57 = .ok (.iinc 5 1, 3) := by decide +kernel
theorem dX6_stopAt_60 : decode cX6_stopAt 60 = .ok (.goto (-52), 3) := by decide +kernel
theorem dX6_stopAt_63 : decode cX6_stopAt 63 = .ok (.iconst (-1), 1) := by decide +kernel
theorem dX6_stopAt_64 : decode cX6_stopAt 64 = .ok (.ireturn, 1) := by decide +kernel
theorem dX6_leastParted_0 : decode cX6_leastParted 0 = .ok (.aload_n 0, 1) := by decide +kernel
theorem dX6_leastParted_1 : decode cX6_leastParted 1 = .ok (.iconst 5, 1) := by decide +kernel
theorem dX6_leastParted_2 : decode cX6_leastParted 2 = .ok (.iload_n 1, 1) := by decide +kernel
theorem dX6_leastParted_3 : decode cX6_leastParted 3 = .ok (.invokevirtual 50, 3) := by decide +kernel
theorem dX6_leastParted_6 : decode cX6_leastParted 6 = .ok (.aload_n 0, 1) := by decide +kernel
theorem dX6_leastParted_7 : decode cX6_leastParted 7 = .ok (.bipush 6, 2) := by decide +kernel
theorem dX6_leastParted_9 : decode cX6_leastParted 9 = .ok (.iload_n 2, 1) := by decide +kernel
theorem dX6_leastParted_10 : decode cX6_leastParted 10 = .ok (.iload_n 1, 1) := by decide +kernel
theorem dX6_leastParted_11 : decode cX6_leastParted 11 = .ok (.iconst (-1), 1) := by decide +kernel
theorem dX6_leastParted_12 : decode cX6_leastParted 12 = .ok (.ixor, 1) := by decide +kernel
theorem dX6_leastParted_13 : decode cX6_leastParted 13 = .ok (.iand, 1) := by decide +kernel
theorem dX6_leastParted_14 : decode cX6_leastParted 14 = .ok (.invokevirtual 50, 3) := by decide +kernel
theorem dX6_leastParted_17 : decode cX6_leastParted 17 = .ok (.iadd, 1) := by decide +kernel
theorem dX6_leastParted_18 : decode cX6_leastParted 18 = .ok (.ireturn, 1) := by decide +kernel
theorem dX6_bestShare_0 : decode cX6_bestShare 0 = .ok (.iconst 0, 1) := by decide +kernel
theorem dX6_bestShare_1 : decode cX6_bestShare 1 = .ok (.istore_n 2, 1) := by decide +kernel
theorem dX6_bestShare_2 : decode cX6_bestShare 2 = .ok (.iconst 1, 1) := by decide +kernel
theorem dX6_bestShare_3 : decode cX6_bestShare 3 = .ok (.istore_n 3, 1) := by decide +kernel
theorem dX6_bestShare_4 : decode cX6_bestShare 4 = .ok (.iload_n 3, 1) := by decide +kernel
theorem dX6_bestShare_5 : decode cX6_bestShare 5 = .ok (.bipush 32, 2) := by decide +kernel
theorem dX6_bestShare_7 : decode cX6_bestShare 7 = .ok (.if_icmp .ge 46, 3) := by decide +kernel
theorem dX6_bestShare_10 : decode cX6_bestShare 10 = .ok (.iload_n 3, 1) := by decide +kernel
theorem dX6_bestShare_11 : decode cX6_bestShare 11 = .ok (.iload_n 1, 1) := by decide +kernel
theorem dX6_bestShare_12 : decode cX6_bestShare 12 = .ok (.iconst (-1), 1) := by decide +kernel
theorem dX6_bestShare_13 : decode cX6_bestShare 13 = .ok (.ixor, 1) := by decide +kernel
theorem dX6_bestShare_14 : decode cX6_bestShare 14 = .ok (.iand, 1) := by decide +kernel
theorem dX6_bestShare_15 : decode cX6_bestShare 15 = .ok (.ifCond .ne 7, 3) := by decide +kernel
theorem dX6_bestShare_18 : decode cX6_bestShare 18 = .ok (.iconst 1, 1) := by decide +kernel
theorem dX6_bestShare_19 : decode cX6_bestShare 19 = .ok (.goto 4, 3) := by decide +kernel
theorem dX6_bestShare_22 : decode cX6_bestShare 22 = .ok (.iconst 0, 1) := by decide +kernel
theorem dX6_bestShare_23 : decode cX6_bestShare 23 = .ok (.istore 4, 2) := by decide +kernel
theorem dX6_bestShare_25 : decode cX6_bestShare 25 = .ok (.iload 4, 2) := by decide +kernel
theorem dX6_bestShare_27 : decode cX6_bestShare 27 = .ok (.ifCond .eq 20, 3) := by decide +kernel
theorem dX6_bestShare_30 : decode cX6_bestShare 30 = .ok (.aload_n 0, 1) := by decide +kernel
theorem dX6_bestShare_31 : decode cX6_bestShare 31 = .ok (.iload_n 3, 1) := by decide +kernel
theorem dX6_bestShare_32 : decode cX6_bestShare 32 = .ok (.iload_n 1, 1) := by decide +kernel
theorem dX6_bestShare_33 : decode cX6_bestShare 33 = .ok (.invokevirtual 53, 3) := by decide +kernel
theorem dX6_bestShare_36 : decode cX6_bestShare 36 = .ok (.aload_n 0, 1) := by decide +kernel
theorem dX6_bestShare_37 : decode cX6_bestShare 37 = .ok (.iload_n 2, 1) := by decide +kernel
theorem dX6_bestShare_38 : decode cX6_bestShare 38 = .ok (.iload_n 1, 1) := by decide +kernel
theorem dX6_bestShare_39 : decode cX6_bestShare 39 = .ok (.invokevirtual 53, 3) := by decide +kernel
theorem dX6_bestShare_42 : decode cX6_bestShare 42 = .ok (.if_icmp .ge 5, 3) := by decide +kernel
theorem dX6_bestShare_45 : decode cX6_bestShare 45 = .ok (.iload_n 3, 1) := by decide +kernel
theorem dX6_bestShare_46 : decode cX6_bestShare 46 = .ok (.istore_n 2, 1) := by decide +kernel
theorem dX6_bestShare_47 : decode cX6_bestShare 47 = .ok (.iinc 3 1, 3) := by decide +kernel
theorem dX6_bestShare_50 : decode cX6_bestShare 50 = .ok (.goto (-46), 3) := by decide +kernel
theorem dX6_bestShare_53 : decode cX6_bestShare 53 = .ok (.iload_n 2, 1) := by decide +kernel
theorem dX6_bestShare_54 : decode cX6_bestShare 54 = .ok (.ireturn, 1) := by decide +kernel
theorem dX7_init_0 : decode cX7_init 0 = .ok (.aload_n 0, 1) := by decide +kernel
theorem dX7_init_1 : decode cX7_init 1 = .ok (.invokespecial 3, 3) := by decide +kernel
theorem dX7_init_4 : decode cX7_init 4 = .ok (.aload_n 0, 1) := by decide +kernel
theorem dX7_init_5 : decode cX7_init 5 = .ok (.bipush 64, 2) := by decide +kernel
theorem dX7_init_7 : decode cX7_init 7 = .ok (.newarray .int, 2) := by decide +kernel
