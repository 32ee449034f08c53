theorem dX12_readsRow_7 : decode cX12_readsRow 7 = .ok (.getfield 25, 3) := by decide +kernel
theorem dX12_readsRow_10 : decode cX12_readsRow 10 = .ok (.iconst 0, 1) := by decide +kernel
theorem dX12_readsRow_11 : decode cX12_readsRow 11 = .ok (.iaload, 1) := by decide +kernel
theorem dX12_readsRow_12 : decode cX12_readsRow 12 = .ok (.if_icmp .ge 106, 3) := by decide +kernel
theorem dX12_readsRow_15 : decode cX12_readsRow 15 = .ok (.aload_n 0, 1) := by decide +kernel
theorem dX12_readsRow_16 : decode cX12_readsRow 16 = .ok (.iconst 0, 1) := by decide +kernel
theorem dX12_readsRow_17 : decode cX12_readsRow 17 = .ok (.invokevirtual 119, 3) := by decide +kernel
theorem dX12_readsRow_20 : decode cX12_readsRow 20 = .ok (.bipush 59, 2) := by decide +kernel
theorem dX12_readsRow_22 : decode cX12_readsRow 22 = .ok (.if_icmp .eq 96, 3) := by decide +kernel
theorem dX12_readsRow_25 : decode cX12_readsRow 25 = .ok (.aload_n 0, 1) := by decide +kernel
theorem dX12_readsRow_26 : decode cX12_readsRow 26 = .ok (.iconst 0, 1) := by decide +kernel
theorem dX12_readsRow_27 : decode cX12_readsRow 27 = .ok (.invokevirtual 119, 3) := by decide +kernel
theorem dX12_readsRow_30 : decode cX12_readsRow 30 = .ok (.istore 4, 2) := by decide +kernel
theorem dX12_readsRow_32 : decode cX12_readsRow 32 = .ok (.iload_n 2, 1) := by decide +kernel
theorem dX12_readsRow_33 : decode cX12_readsRow 33 = .ok (.ifCond .ne 8, 3) := by decide +kernel
theorem dX12_readsRow_36 : decode cX12_readsRow 36 = .ok (.bipush 8, 2) := by decide +kernel
theorem dX12_readsRow_38 : decode cX12_readsRow 38 = .ok (.goto 4, 3) := by decide +kernel
theorem dX12_readsRow_41 : decode cX12_readsRow 41 = .ok (.iload_n 2, 1) := by decide +kernel
theorem dX12_readsRow_42 : decode cX12_readsRow 42 = .ok (.istore 5, 2) := by decide +kernel
theorem dX12_readsRow_44 : decode cX12_readsRow 44 = .ok (.iload_n 3, 1) := by decide +kernel
theorem dX12_readsRow_45 : decode cX12_readsRow 45 = .ok (.iload 5, 2) := by decide +kernel
theorem dX12_readsRow_47 : decode cX12_readsRow 47 = .ok (.if_icmp .eq 25, 3) := by decide +kernel
theorem dX12_readsRow_50 : decode cX12_readsRow 50 = .ok (.iload 4, 2) := by decide +kernel
theorem dX12_readsRow_52 : decode cX12_readsRow 52 = .ok (.bipush 35, 2) := by decide +kernel
theorem dX12_readsRow_54 : decode cX12_readsRow 54 = .ok (.if_icmp .eq 20, 3) := by decide +kernel
theorem dX12_readsRow_57 : decode cX12_readsRow 57 = .ok (.iload 4, 2) := by decide +kernel
theorem dX12_readsRow_59 : decode cX12_readsRow 59 = .ok (.i2l, 1) := by decide +kernel
theorem dX12_readsRow_60 : decode cX12_readsRow 60 = .ok (.ldc2_w 122, 3) := by decide +kernel
theorem dX12_readsRow_63 : decode cX12_readsRow 63 = .ok (.ldc2_w 124, 3) := by decide +kernel
theorem dX12_readsRow_66 : decode cX12_readsRow 66 = .ok (.invokestatic 82, 3) := by decide +kernel
theorem dX12_readsRow_69 : decode cX12_readsRow 69 = .ok (.ifCond .ne 5, 3) := by decide +kernel
theorem dX12_readsRow_72 : decode cX12_readsRow 72 = .ok (.iconst (-1), 1) := by decide +kernel
theorem dX12_readsRow_73 : decode cX12_readsRow 73 = .ok (.ireturn, 1) := by decide +kernel
theorem dX12_readsRow_74 : decode cX12_readsRow 74 = .ok (.aload_n 0, 1) := by decide +kernel
theorem dX12_readsRow_75 : decode cX12_readsRow 75 = .ok (.getfield 28, 3) := by decide +kernel
theorem dX12_readsRow_78 : decode cX12_readsRow 78 = .ok (.bipush 8, 2) := by decide +kernel
theorem dX12_readsRow_80 : decode cX12_readsRow 80 = .ok (.iload_n 1, 1) := by decide +kernel
theorem dX12_readsRow_81 : decode cX12_readsRow 81 = .ok (.imul, 1) := by decide +kernel
theorem dX12_readsRow_82 : decode cX12_readsRow 82 = .ok (.iload_n 3, 1) := by decide +kernel
theorem dX12_readsRow_83 : decode cX12_readsRow 83 = .ok (.iadd, 1) := by decide +kernel
theorem dX12_readsRow_84 : decode cX12_readsRow 84 = .ok (.iload 4, 2) := by decide +kernel
theorem dX12_readsRow_86 : decode cX12_readsRow 86 = .ok (.bipush 35, 2) := by decide +kernel
theorem dX12_readsRow_88 : decode cX12_readsRow 88 = .ok (.if_icmp .ne 8, 3) := by decide +kernel
theorem dX12_readsRow_91 : decode cX12_readsRow 91 = .ok (.bipush 99, 2) := by decide +kernel
theorem dX12_readsRow_93 : decode cX12_readsRow 93 = .ok (.goto 8, 3) := by decide +kernel
theorem dX12_readsRow_96 : decode cX12_readsRow 96 = .ok (.iload 4, 2) := by decide +kernel
theorem dX12_readsRow_98 : decode cX12_readsRow 98 = .ok (.bipush 48, 2) := by decide +kernel
theorem dX12_readsRow_100 : decode cX12_readsRow 100 = .ok (.isub, 1) := by decide +kernel
theorem dX12_readsRow_101 : decode cX12_readsRow 101 = .ok (.iastore, 1) := by decide +kernel
theorem dX12_readsRow_102 : decode cX12_readsRow 102 = .ok (.iinc 3 1, 3) := by decide +kernel
theorem dX12_readsRow_105 : decode cX12_readsRow 105 = .ok (.aload_n 0, 1) := by decide +kernel
theorem dX12_readsRow_106 : decode cX12_readsRow 106 = .ok (.dup, 1) := by decide +kernel
theorem dX12_readsRow_107 : decode cX12_readsRow 107 = .ok (.getfield 116, 3) := by decide +kernel
theorem dX12_readsRow_110 : decode cX12_readsRow 110 = .ok (.iconst 1, 1) := by decide +kernel
theorem dX12_readsRow_111 : decode cX12_readsRow 111 = .ok (.iadd, 1) := by decide +kernel
theorem dX12_readsRow_112 : decode cX12_readsRow 112 = .ok (.putfield 116, 3) := by decide +kernel
theorem dX12_readsRow_115 : decode cX12_readsRow 115 = .ok (.goto (-113), 3) := by decide +kernel
theorem dX12_readsRow_118 : decode cX12_readsRow 118 = .ok (.iload_n 3, 1) := by decide +kernel
theorem dX12_readsRow_119 : decode cX12_readsRow 119 = .ok (.ifCond .eq 12, 3) := by decide +kernel
theorem dX12_readsRow_122 : decode cX12_readsRow 122 = .ok (.iload_n 2, 1) := by decide +kernel
theorem dX12_readsRow_123 : decode cX12_readsRow 123 = .ok (.ifCond .le 12, 3) := by decide +kernel
theorem dX12_readsRow_126 : decode cX12_readsRow 126 = .ok (.iload_n 3, 1) := by decide +kernel
theorem dX12_readsRow_127 : decode cX12_readsRow 127 = .ok (.iload_n 2, 1) := by decide +kernel
theorem dX12_readsRow_128 : decode cX12_readsRow 128 = .ok (.if_icmp .ge 7, 3) := by decide +kernel
theorem dX12_readsRow_131 : decode cX12_readsRow 131 = .ok (.iconst (-1), 1) := by decide +kernel
theorem dX12_readsRow_132 : decode cX12_readsRow 132 = .ok (.goto 4, 3) := by decide +kernel
theorem dX12_readsRow_135 : decode cX12_readsRow 135 = .ok (.iload_n 3, 1) := by decide +kernel
theorem dX12_readsRow_136 : decode cX12_readsRow 136 = .ok (.ireturn, 1) := by decide +kernel
theorem dX12_readsFair_0 : decode cX12_readsFair 0 = .ok (.aload_n 0, 1) := by decide +kernel
theorem dX12_readsFair_1 : decode cX12_readsFair 1 = .ok (.invokevirtual 126, 3) := by decide +kernel
theorem dX12_readsFair_4 : decode cX12_readsFair 4 = .ok (.aload_n 0, 1) := by decide +kernel
theorem dX12_readsFair_5 : decode cX12_readsFair 5 = .ok (.iconst 0, 1) := by decide +kernel
theorem dX12_readsFair_6 : decode cX12_readsFair 6 = .ok (.putfield 116, 3) := by decide +kernel
theorem dX12_readsFair_9 : decode cX12_readsFair 9 = .ok (.iconst 0, 1) := by decide +kernel
theorem dX12_readsFair_10 : decode cX12_readsFair 10 = .ok (.istore_n 1, 1) := by decide +kernel
theorem dX12_readsFair_11 : decode cX12_readsFair 11 = .ok (.iconst 0, 1) := by decide +kernel
theorem dX12_readsFair_12 : decode cX12_readsFair 12 = .ok (.istore_n 2, 1) := by decide +kernel
theorem dX12_readsFair_13 : decode cX12_readsFair 13 = .ok (.aload_n 0, 1) := by decide +kernel
theorem dX12_readsFair_14 : decode cX12_readsFair 14 = .ok (.getfield 25, 3) := by decide +kernel
theorem dX12_readsFair_17 : decode cX12_readsFair 17 = .ok (.iconst 0, 1) := by decide +kernel
theorem dX12_readsFair_18 : decode cX12_readsFair 18 = .ok (.iaload, 1) := by decide +kernel
theorem dX12_readsFair_19 : decode cX12_readsFair 19 = .ok (.ifCond .le 7, 3) := by decide +kernel
theorem dX12_readsFair_22 : decode cX12_readsFair 22 = .ok (.iconst 1, 1) := by decide +kernel
theorem dX12_readsFair_23 : decode cX12_readsFair 23 = .ok (.goto 4, 3) := by decide +kernel
theorem dX12_readsFair_26 : decode cX12_readsFair 26 = .ok (.iconst 0, 1) := by decide +kernel
theorem dX12_readsFair_27 : decode cX12_readsFair 27 = .ok (.istore_n 3, 1) := by decide +kernel
theorem dX12_readsFair_28 : decode cX12_readsFair 28 = .ok (.iload_n 3, 1) := by decide +kernel
theorem dX12_readsFair_29 : decode cX12_readsFair 29 = .ok (.ifCond .eq 82, 3) := by decide +kernel
theorem dX12_readsFair_32 : decode cX12_readsFair 32 = .ok (.iload_n 1, 1) := by decide +kernel
theorem dX12_readsFair_33 : decode cX12_readsFair 33 = .ok (.bipush 8, 2) := by decide +kernel
theorem dX12_readsFair_35 : decode cX12_readsFair 35 = .ok (.if_icmp .ne 7, 3) := by decide +kernel
theorem dX12_readsFair_38 : decode cX12_readsFair 38 = .ok (.iconst (-1), 1) := by decide +kernel
theorem dX12_readsFair_39 : decode cX12_readsFair 39 = .ok (.goto 9, 3) := by decide +kernel
theorem dX12_readsFair_42 : decode cX12_readsFair 42 = .ok (.aload_n 0, 1) := by decide +kernel
theorem dX12_readsFair_43 : decode cX12_readsFair 43 = .ok (.iload_n 1, 1) := by decide +kernel
theorem dX12_readsFair_44 : decode cX12_readsFair 44 = .ok (.iload_n 2, 1) := by decide +kernel
theorem dX12_readsFair_45 : decode cX12_readsFair 45 = .ok (.invokevirtual 129, 3) := by decide +kernel
theorem dX12_readsFair_48 : decode cX12_readsFair 48 = .ok (.istore 4, 2) := by decide +kernel
theorem dX12_readsFair_50 : decode cX12_readsFair 50 = .ok (.iload 4, 2) := by decide +kernel
theorem dX12_readsFair_52 : decode cX12_readsFair 52 = .ok (.iconst (-1), 1) := by decide +kernel
theorem dX12_readsFair_53 : decode cX12_readsFair 53 = .ok (.if_icmp .ne 12, 3) := by decide +kernel
theorem dX12_readsFair_56 : decode cX12_readsFair 56 = .ok (.aload_n 0, 1) := by decide +kernel
theorem dX12_readsFair_57 : decode cX12_readsFair 57 = .ok (.invokevirtual 126, 3) := by decide +kernel
theorem dX12_readsFair_60 : decode cX12_readsFair 60 = .ok (.aload_n 0, 1) := by decide +kernel
theorem dX12_readsFair_61 : decode cX12_readsFair 61 = .ok (.getfield 116, 3) := by decide +kernel
theorem dX12_readsFair_64 : decode cX12_readsFair 64 = .ok (.ireturn, 1) := by decide +kernel
theorem dX12_readsFair_65 : decode cX12_readsFair 65 = .ok (.iload 4, 2) := by decide +kernel
theorem dX12_readsFair_67 : decode cX12_readsFair 67 = .ok (.istore_n 2, 1) := by decide +kernel
theorem dX12_readsFair_68 : decode cX12_readsFair 68 = .ok (.iinc 1 1, 3) := by decide +kernel
theorem dX12_readsFair_71 : decode cX12_readsFair 71 = .ok (.aload_n 0, 1) := by decide +kernel
theorem dX12_readsFair_72 : decode cX12_readsFair 72 = .ok (.getfield 116, 3) := by decide +kernel
theorem dX12_readsFair_75 : decode cX12_readsFair 75 = .ok (.aload_n 0, 1) := by decide +kernel
theorem dX12_readsFair_76 : decode cX12_readsFair 76 = .ok (.getfield 25, 3) := by decide +kernel
theorem dX12_readsFair_79 : decode cX12_readsFair 79 = .ok (.iconst 0, 1) := by decide +kernel
theorem dX12_readsFair_80 : decode cX12_readsFair 80 = .ok (.iaload, 1) := by decide +kernel
theorem dX12_readsFair_81 : decode cX12_readsFair 81 = .ok (.if_icmp .ge 7, 3) := by decide +kernel
theorem dX12_readsFair_84 : decode cX12_readsFair 84 = .ok (.iconst 1, 1) := by decide +kernel
theorem dX12_readsFair_85 : decode cX12_readsFair 85 = .ok (.goto 4, 3) := by decide +kernel
theorem dX12_readsFair_88 : decode cX12_readsFair 88 = .ok (.iconst 0, 1) := by decide +kernel
theorem dX12_readsFair_89 : decode cX12_readsFair 89 = .ok (.istore_n 3, 1) := by decide +kernel
theorem dX12_readsFair_90 : decode cX12_readsFair 90 = .ok (.aload_n 0, 1) := by decide +kernel
theorem dX12_readsFair_91 : decode cX12_readsFair 91 = .ok (.dup, 1) := by decide +kernel
theorem dX12_readsFair_92 : decode cX12_readsFair 92 = .ok (.getfield 116, 3) := by decide +kernel
theorem dX12_readsFair_95 : decode cX12_readsFair 95 = .ok (.iload_n 3, 1) := by decide +kernel
theorem dX12_readsFair_96 : decode cX12_readsFair 96 = .ok (.ifCond .eq 7, 3) := by decide +kernel
theorem dX12_readsFair_99 : decode cX12_readsFair 99 = .ok (.iconst 1, 1) := by decide +kernel
theorem dX12_readsFair_100 : decode cX12_readsFair 100 = .ok (.goto 4, 3) := by decide +kernel
theorem dX12_readsFair_103 : decode cX12_readsFair 103 = .ok (.iconst 0, 1) := by decide +kernel
theorem dX12_readsFair_104 : decode cX12_readsFair 104 = .ok (.iadd, 1) := by decide +kernel
theorem dX12_readsFair_105 : decode cX12_readsFair 105 = .ok (.putfield 116, 3) := by decide +kernel
theorem dX12_readsFair_108 : decode cX12_readsFair 108 = .ok (.goto (-80), 3) := by decide +kernel
theorem dX12_readsFair_111 : decode cX12_readsFair 111 = .ok (.iconst (-1), 1) := by decide +kernel
theorem dX12_readsFair_112 : decode cX12_readsFair 112 = .ok (.ireturn, 1) := by decide +kernel
theorem dX12_readsOrder_0 : decode cX12_readsOrder 0 = .ok (.aload_n 0, 1) := by decide +kernel
theorem dX12_readsOrder_1 : decode cX12_readsOrder 1 = .ok (.iconst 0, 1) := by decide +kernel
theorem dX12_readsOrder_2 : decode cX12_readsOrder 2 = .ok (.putfield 132, 3) := by decide +kernel
theorem dX12_readsOrder_5 : decode cX12_readsOrder 5 = .ok (.iconst 0, 1) := by decide +kernel
theorem dX12_readsOrder_6 : decode cX12_readsOrder 6 = .ok (.istore_n 1, 1) := by decide +kernel
theorem dX12_readsOrder_7 : decode cX12_readsOrder 7 = .ok (.iconst 0, 1) := by decide +kernel
theorem dX12_readsOrder_8 : decode cX12_readsOrder 8 = .ok (.istore_n 2, 1) := by decide +kernel
theorem dX12_readsOrder_9 : decode cX12_readsOrder 9 = .ok (.iload_n 2, 1) := by decide +kernel
theorem dX12_readsOrder_10 : decode cX12_readsOrder 10 = .ok (.aload_n 0, 1) := by decide +kernel
theorem dX12_readsOrder_11 : decode cX12_readsOrder 11 = .ok (.getfield 25, 3) := by decide +kernel
theorem dX12_readsOrder_14 : decode cX12_readsOrder 14 = .ok (.iconst 1, 1) := by decide +kernel
theorem dX12_readsOrder_15 : decode cX12_readsOrder 15 = .ok (.iaload, 1) := by decide +kernel
theorem dX12_readsOrder_16 : decode cX12_readsOrder 16 = .ok (.if_icmp .ge 75, 3) := by decide +kernel
theorem dX12_readsOrder_19 : decode cX12_readsOrder 19 = .ok (.aload_n 0, 1) := by decide +kernel
theorem dX12_readsOrder_20 : decode cX12_readsOrder 20 = .ok (.getfield 22, 3) := by decide +kernel
theorem dX12_readsOrder_23 : decode cX12_readsOrder 23 = .ok (.bipush 80, 2) := by decide +kernel
theorem dX12_readsOrder_25 : decode cX12_readsOrder 25 = .ok (.iload_n 2, 1) := by decide +kernel
theorem dX12_readsOrder_26 : decode cX12_readsOrder 26 = .ok (.iadd, 1) := by decide +kernel
theorem dX12_readsOrder_27 : decode cX12_readsOrder 27 = .ok (.iaload, 1) := by decide +kernel
theorem dX12_readsOrder_28 : decode cX12_readsOrder 28 = .ok (.bipush 97, 2) := by decide +kernel
theorem dX12_readsOrder_30 : decode cX12_readsOrder 30 = .ok (.isub, 1) := by decide +kernel
theorem dX12_readsOrder_31 : decode cX12_readsOrder 31 = .ok (.istore_n 3, 1) := by decide +kernel
theorem dX12_readsOrder_32 : decode cX12_readsOrder 32 = .ok (.iload_n 3, 1) := by decide +kernel
theorem dX12_readsOrder_33 : decode cX12_readsOrder 33 = .ok (.i2l, 1) := by decide +kernel
theorem dX12_readsOrder_34 : decode cX12_readsOrder 34 = .ok (.lconst 0, 1) := by decide +kernel
theorem dX12_readsOrder_35 : decode cX12_readsOrder 35 = .ok (.ldc2_w 135, 3) := by decide +kernel
theorem dX12_readsOrder_38 : decode cX12_readsOrder 38 = .ok (.invokestatic 82, 3) := by decide +kernel
theorem dX12_readsOrder_41 : decode cX12_readsOrder 41 = .ok (.ifCond .eq 11, 3) := by decide +kernel
theorem dX12_readsOrder_44 : decode cX12_readsOrder 44 = .ok (.iload_n 1, 1) := by decide +kernel
theorem dX12_readsOrder_45 : decode cX12_readsOrder 45 = .ok (.iload_n 3, 1) := by decide +kernel
theorem dX12_readsOrder_46 : decode cX12_readsOrder 46 = .ok (.invokestatic 137, 3) := by decide +kernel
theorem dX12_readsOrder_49 : decode cX12_readsOrder 49 = .ok (.ifCond .eq 10, 3) := by decide +kernel
theorem dX12_readsOrder_52 : decode cX12_readsOrder 52 = .ok (.aload_n 0, 1) := by decide +kernel
theorem dX12_readsOrder_53 : decode cX12_readsOrder 53 = .ok (.iconst 0, 1) := by decide +kernel
theorem dX12_readsOrder_54 : decode cX12_readsOrder 54 = .ok (.putfield 132, 3) := by decide +kernel
theorem dX12_readsOrder_57 : decode cX12_readsOrder 57 = .ok (.iload_n 2, 1) := by decide +kernel
theorem dX12_readsOrder_58 : decode cX12_readsOrder 58 = .ok (.ireturn, 1) := by decide +kernel
theorem dX12_readsOrder_59 : decode cX12_readsOrder 59 = .ok (.iload_n 1, 1) := by decide +kernel
theorem dX12_readsOrder_60 : decode cX12_readsOrder 60 = .ok (.iconst 1, 1) := by decide +kernel
theorem dX12_readsOrder_61 : decode cX12_readsOrder 61 = .ok (.iload_n 3, 1) := by decide +kernel
theorem dX12_readsOrder_62 : decode cX12_readsOrder 62 = .ok (.ishl, 1) := by decide +kernel
theorem dX12_readsOrder_63 : decode cX12_readsOrder 63 = .ok (.ior, 1) := by decide +kernel
theorem dX12_readsOrder_64 : decode cX12_readsOrder 64 = .ok (.istore_n 1, 1) := by decide +kernel
theorem dX12_readsOrder_65 : decode cX12_readsOrder 65 = .ok (.aload_n 0, 1) := by decide +kernel
theorem dX12_readsOrder_66 : decode cX12_readsOrder 66 = .ok (.getfield 31, 3) := by decide +kernel
theorem dX12_readsOrder_69 : decode cX12_readsOrder 69 = .ok (.aload_n 0, 1) := by decide +kernel
theorem dX12_readsOrder_70 : decode cX12_readsOrder 70 = .ok (.getfield 132, 3) := by decide +kernel
theorem dX12_readsOrder_73 : decode cX12_readsOrder 73 = .ok (.iload_n 3, 1) := by decide +kernel
theorem dX12_readsOrder_74 : decode cX12_readsOrder 74 = .ok (.iastore, 1) := by decide +kernel
theorem dX12_readsOrder_75 : decode cX12_readsOrder 75 = .ok (.aload_n 0, 1) := by decide +kernel
theorem dX12_readsOrder_76 : decode cX12_readsOrder 76 = .ok (.dup, 1) := by decide +kernel
theorem dX12_readsOrder_77 : decode cX12_readsOrder 77 = .ok (.getfield 132, 3) := by decide +kernel
theorem dX12_readsOrder_80 : decode cX12_readsOrder 80 = .ok (.iconst 1, 1) := by decide +kernel
theorem dX12_readsOrder_81 : decode cX12_readsOrder 81 = .ok (.iadd, 1) := by decide +kernel
theorem dX12_readsOrder_82 : decode cX12_readsOrder 82 = .ok (.putfield 132, 3) := by decide +kernel
theorem dX12_readsOrder_85 : decode cX12_readsOrder 85 = .ok (.iinc 2 1, 3) := by decide +kernel
theorem dX12_readsOrder_88 : decode cX12_readsOrder 88 = .ok (.goto (-79), 3) := by decide +kernel
theorem dX12_readsOrder_91 : decode cX12_readsOrder 91 = .ok (.iconst (-1), 1) := by decide +kernel
theorem dX12_readsOrder_92 : decode cX12_readsOrder 92 = .ok (.ireturn, 1) := by decide +kernel
theorem dX12_letterOf_0 : decode cX12_letterOf 0 = .ok (.iload_n 0, 1) := by decide +kernel
theorem dX12_letterOf_1 : decode cX12_letterOf 1 = .ok (.bipush 110, 2) := by decide +kernel
theorem dX12_letterOf_3 : decode cX12_letterOf 3 = .ok (.if_icmp .ne 7, 3) := by decide +kernel
theorem dX12_letterOf_6 : decode cX12_letterOf 6 = .ok (.iconst 0, 1) := by decide +kernel
theorem dX12_letterOf_7 : decode cX12_letterOf 7 = .ok (.goto 34, 3) := by decide +kernel
theorem dX12_letterOf_10 : decode cX12_letterOf 10 = .ok (.iload_n 0, 1) := by decide +kernel
theorem dX12_letterOf_11 : decode cX12_letterOf 11 = .ok (.bipush 101, 2) := by decide +kernel
theorem dX12_letterOf_13 : decode cX12_letterOf 13 = .ok (.if_icmp .ne 7, 3) := by decide +kernel
theorem dX12_letterOf_16 : decode cX12_letterOf 16 = .ok (.iconst 1, 1) := by decide +kernel
theorem dX12_letterOf_17 : decode cX12_letterOf 17 = .ok (.goto 24, 3) := by decide +kernel
theorem dX12_letterOf_20 : decode cX12_letterOf 20 = .ok (.iload_n 0, 1) := by decide +kernel
theorem dX12_letterOf_21 : decode cX12_letterOf 21 = .ok (.bipush 115, 2) := by decide +kernel
theorem dX12_letterOf_23 : decode cX12_letterOf 23 = .ok (.if_icmp .ne 7, 3) := by decide +kernel
theorem dX12_letterOf_26 : decode cX12_letterOf 26 = .ok (.iconst 2, 1) := by decide +kernel
theorem dX12_letterOf_27 : decode cX12_letterOf 27 = .ok (.goto 14, 3) := by decide +kernel
theorem dX12_letterOf_30 : decode cX12_letterOf 30 = .ok (.iload_n 0, 1) := by decide +kernel
theorem dX12_letterOf_31 : decode cX12_letterOf 31 = .ok (.bipush 119, 2) := by decide +kernel
theorem dX12_letterOf_33 : decode cX12_letterOf 33 = .ok (.if_icmp .ne 7, 3) := by decide +kernel
theorem dX12_letterOf_36 : decode cX12_letterOf 36 = .ok (.iconst 3, 1) := by decide +kernel
theorem dX12_letterOf_37 : decode cX12_letterOf 37 = .ok (.goto 4, 3) := by decide +kernel
theorem dX12_letterOf_40 : decode cX12_letterOf 40 = .ok (.iconst (-1), 1) := by decide +kernel
theorem dX12_letterOf_41 : decode cX12_letterOf 41 = .ok (.ireturn, 1) := by decide +kernel
theorem dX12_readsWay_0 : decode cX12_readsWay 0 = .ok (.aload_n 0, 1) := by decide +kernel
theorem dX12_readsWay_1 : decode cX12_readsWay 1 = .ok (.iconst 0, 1) := by decide +kernel
theorem dX12_readsWay_2 : decode cX12_readsWay 2 = .ok (.putfield 141, 3) := by decide +kernel
theorem dX12_readsWay_5 : decode cX12_readsWay 5 = .ok (.iconst 0, 1) := by decide +kernel
theorem dX12_readsWay_6 : decode cX12_readsWay 6 = .ok (.istore_n 1, 1) := by decide +kernel
theorem dX12_readsWay_7 : decode cX12_readsWay 7 = .ok (.iload_n 1, 1) := by decide +kernel
theorem dX12_readsWay_8 : decode cX12_readsWay 8 = .ok (.aload_n 0, 1) := by decide +kernel
theorem dX12_readsWay_9 : decode cX12_readsWay 9 = .ok (.getfield 25, 3) := by decide +kernel
theorem dX12_readsWay_12 : decode cX12_readsWay 12 = .ok (.iconst 2, 1) := by decide +kernel
theorem dX12_readsWay_13 : decode cX12_readsWay 13 = .ok (.iaload, 1) := by decide +kernel
theorem dX12_readsWay_14 : decode cX12_readsWay 14 = .ok (.if_icmp .ge 55, 3) := by decide +kernel
theorem dX12_readsWay_17 : decode cX12_readsWay 17 = .ok (.aload_n 0, 1) := by decide +kernel
theorem dX12_readsWay_18 : decode cX12_readsWay 18 = .ok (.getfield 22, 3) := by decide +kernel
theorem dX12_readsWay_21 : decode cX12_readsWay 21 = .ok (.sipush 160, 3) := by decide +kernel
theorem dX12_readsWay_24 : decode cX12_readsWay 24 = .ok (.iload_n 1, 1) := by decide +kernel
theorem dX12_readsWay_25 : decode cX12_readsWay 25 = .ok (.iadd, 1) := by decide +kernel
theorem dX12_readsWay_26 : decode cX12_readsWay 26 = .ok (.iaload, 1) := by decide +kernel
theorem dX12_readsWay_27 : decode cX12_readsWay 27 = .ok (.invokestatic 144, 3) := by decide +kernel
theorem dX12_readsWay_30 : decode cX12_readsWay 30 = .ok (.istore_n 2, 1) := by decide +kernel
theorem dX12_readsWay_31 : decode cX12_readsWay 31 = .ok (.iload_n 2, 1) := by decide +kernel
theorem dX12_readsWay_32 : decode cX12_readsWay 32 = .ok (.iconst (-1), 1) := by decide +kernel
theorem dX12_readsWay_33 : decode cX12_readsWay 33 = .ok (.if_icmp .ne 10, 3) := by decide +kernel
theorem dX12_readsWay_36 : decode cX12_readsWay 36 = .ok (.aload_n 0, 1) := by decide +kernel
theorem dX12_readsWay_37 : decode cX12_readsWay 37 = .ok (.iconst 0, 1) := by decide +kernel
theorem dX12_readsWay_38 : decode cX12_readsWay 38 = .ok (.putfield 141, 3) := by decide +kernel
theorem dX12_readsWay_41 : decode cX12_readsWay 41 = .ok (.iload_n 1, 1) := by decide +kernel
theorem dX12_readsWay_42 : decode cX12_readsWay 42 = .ok (.ireturn, 1) := by decide +kernel
theorem dX12_readsWay_43 : decode cX12_readsWay 43 = .ok (.aload_n 0, 1) := by decide +kernel
theorem dX12_readsWay_44 : decode cX12_readsWay 44 = .ok (.getfield 34, 3) := by decide +kernel
theorem dX12_readsWay_47 : decode cX12_readsWay 47 = .ok (.aload_n 0, 1) := by decide +kernel
theorem dX12_readsWay_48 : decode cX12_readsWay 48 = .ok (.getfield 141, 3) := by decide +kernel
theorem dX12_readsWay_51 : decode cX12_readsWay 51 = .ok (.iload_n 2, 1) := by decide +kernel
theorem dX12_readsWay_52 : decode cX12_readsWay 52 = .ok (.iastore, 1) := by decide +kernel
theorem dX12_readsWay_53 : decode cX12_readsWay 53 = .ok (.aload_n 0, 1) := by decide +kernel
theorem dX12_readsWay_54 : decode cX12_readsWay 54 = .ok (.dup, 1) := by decide +kernel
theorem dX12_readsWay_55 : decode cX12_readsWay 55 = .ok (.getfield 141, 3) := by decide +kernel
theorem dX12_readsWay_58 : decode cX12_readsWay 58 = .ok (.iconst 1, 1) := by decide +kernel
theorem dX12_readsWay_59 : decode cX12_readsWay 59 = .ok (.iadd, 1) := by decide +kernel
theorem dX12_readsWay_60 : decode cX12_readsWay 60 = .ok (.putfield 141, 3) := by decide +kernel
theorem dX12_readsWay_63 : decode cX12_readsWay 63 = .ok (.iinc 1 1, 3) := by decide +kernel
theorem dX12_readsWay_66 : decode cX12_readsWay 66 = .ok (.goto (-59), 3) := by decide +kernel
theorem dX12_readsWay_69 : decode cX12_readsWay 69 = .ok (.iconst (-1), 1) := by decide +kernel
theorem dX12_readsWay_70 : decode cX12_readsWay 70 = .ok (.ireturn, 1) := by decide +kernel
theorem dX12_reads_0 : decode cX12_reads 0 = .ok (.aload_n 0, 1) := by decide +kernel
theorem dX12_reads_1 : decode cX12_reads 1 = .ok (.invokevirtual 147, 3) := by decide +kernel
theorem dX12_reads_4 : decode cX12_reads 4 = .ok (.pop, 1) := by decide +kernel
theorem dX12_reads_5 : decode cX12_reads 5 = .ok (.aload_n 0, 1) := by decide +kernel
theorem dX12_reads_6 : decode cX12_reads 6 = .ok (.invokevirtual 151, 3) := by decide +kernel
theorem dX12_reads_9 : decode cX12_reads 9 = .ok (.pop, 1) := by decide +kernel
theorem dX12_reads_10 : decode cX12_reads 10 = .ok (.aload_n 0, 1) := by decide +kernel
theorem dX12_reads_11 : decode cX12_reads 11 = .ok (.invokevirtual 154, 3) := by decide +kernel
theorem dX12_reads_14 : decode cX12_reads 14 = .ok (.pop, 1) := by decide +kernel
theorem dX12_reads_15 : decode cX12_reads 15 = .ok (.aload_n 0, 1) := by decide +kernel
theorem dX12_reads_16 : decode cX12_reads 16 = .ok (.invokevirtual 157, 3) := by decide +kernel
theorem dX12_reads_19 : decode cX12_reads 19 = .ok (.return_, 1) := by decide +kernel
theorem dX12_fault_0 : decode cX12_fault 0 = .ok (.iload_n 1, 1) := by decide +kernel
theorem dX12_fault_1 : decode cX12_fault 1 = .ok (.i2l, 1) := by decide +kernel
theorem dX12_fault_2 : decode cX12_fault 2 = .ok (.lconst 0, 1) := by decide +kernel
theorem dX12_fault_3 : decode cX12_fault 3 = .ok (.ldc2_w 96, 3) := by decide +kernel
theorem dX12_fault_6 : decode cX12_fault 6 = .ok (.invokestatic 82, 3) := by decide +kernel
theorem dX12_fault_9 : decode cX12_fault 9 = .ok (.ifCond .ne 8, 3) := by decide +kernel
theorem dX12_fault_12 : decode cX12_fault 12 = .ok (.bipush (-2), 2) := by decide +kernel
theorem dX12_fault_14 : decode cX12_fault 14 = .ok (.goto 30, 3) := by decide +kernel
theorem dX12_fault_17 : decode cX12_fault 17 = .ok (.iload_n 1, 1) := by decide +kernel
theorem dX12_fault_18 : decode cX12_fault 18 = .ok (.ifCond .ne 10, 3) := by decide +kernel
theorem dX12_fault_21 : decode cX12_fault 21 = .ok (.aload_n 0, 1) := by decide +kernel
theorem dX12_fault_22 : decode cX12_fault 22 = .ok (.invokevirtual 147, 3) := by decide +kernel
theorem dX12_fault_25 : decode cX12_fault 25 = .ok (.goto 19, 3) := by decide +kernel
theorem dX12_fault_28 : decode cX12_fault 28 = .ok (.iload_n 1, 1) := by decide +kernel
theorem dX12_fault_29 : decode cX12_fault 29 = .ok (.iconst 1, 1) := by decide +kernel
theorem dX12_fault_30 : decode cX12_fault 30 = .ok (.if_icmp .ne 10, 3) := by decide +kernel
theorem dX12_fault_33 : decode cX12_fault 33 = .ok (.aload_n 0, 1) := by decide +kernel
theorem dX12_fault_34 : decode cX12_fault 34 = .ok (.invokevirtual 151, 3) := by decide +kernel
theorem dX12_fault_37 : decode cX12_fault 37 = .ok (.goto 7, 3) := by decide +kernel
theorem dX12_fault_40 : decode cX12_fault 40 = .ok (.aload_n 0, 1) := by decide +kernel
theorem dX12_fault_41 : decode cX12_fault 41 = .ok (.invokevirtual 154, 3) := by decide +kernel
theorem dX12_fault_44 : decode cX12_fault 44 = .ok (.ireturn, 1) := by decide +kernel
theorem dX12_set_0 : decode cX12_set 0 = .ok (.iload_n 1, 1) := by decide +kernel
theorem dX12_set_1 : decode cX12_set 1 = .ok (.i2l, 1) := by decide +kernel
theorem dX12_set_2 : decode cX12_set 2 = .ok (.lconst 0, 1) := by decide +kernel
theorem dX12_set_3 : decode cX12_set 3 = .ok (.ldc2_w 96, 3) := by decide +kernel
theorem dX12_set_6 : decode cX12_set 6 = .ok (.invokestatic 82, 3) := by decide +kernel
theorem dX12_set_9 : decode cX12_set 9 = .ok (.ifCond .eq 26, 3) := by decide +kernel
theorem dX12_set_12 : decode cX12_set 12 = .ok (.iload_n 2, 1) := by decide +kernel
theorem dX12_set_13 : decode cX12_set 13 = .ok (.i2l, 1) := by decide +kernel
theorem dX12_set_14 : decode cX12_set 14 = .ok (.lconst 0, 1) := by decide +kernel
theorem dX12_set_15 : decode cX12_set 15 = .ok (.iload_n 1, 1) := by decide +kernel
theorem dX12_set_16 : decode cX12_set 16 = .ok (.iconst 2, 1) := by decide +kernel
theorem dX12_set_17 : decode cX12_set 17 = .ok (.if_icmp .ne 9, 3) := by decide +kernel
theorem dX12_set_20 : decode cX12_set 20 = .ok (.ldc2_w 96, 3) := by decide +kernel
theorem dX12_set_23 : decode cX12_set 23 = .ok (.goto 6, 3) := by decide +kernel
theorem dX12_set_26 : decode cX12_set 26 = .ok (.ldc2_w 160, 3) := by decide +kernel
theorem dX12_set_29 : decode cX12_set 29 = .ok (.invokestatic 82, 3) := by decide +kernel
theorem dX12_set_32 : decode cX12_set 32 = .ok (.ifCond .ne 6, 3) := by decide +kernel
theorem dX12_set_35 : decode cX12_set 35 = .ok (.bipush (-2), 2) := by decide +kernel
theorem dX12_set_37 : decode cX12_set 37 = .ok (.ireturn, 1) := by decide +kernel
theorem dX12_set_38 : decode cX12_set 38 = .ok (.aload_n 0, 1) := by decide +kernel
theorem dX12_set_39 : decode cX12_set 39 = .ok (.getfield 37, 3) := by decide +kernel
theorem dX12_set_42 : decode cX12_set 42 = .ok (.iload_n 1, 1) := by decide +kernel
theorem dX12_set_43 : decode cX12_set 43 = .ok (.iaload, 1) := by decide +kernel
theorem dX12_set_44 : decode cX12_set 44 = .ok (.istore_n 3, 1) := by decide +kernel
theorem dX12_set_45 : decode cX12_set 45 = .ok (.aload_n 0, 1) := by decide +kernel
theorem dX12_set_46 : decode cX12_set 46 = .ok (.getfield 37, 3) := by decide +kernel
theorem dX12_set_49 : decode cX12_set 49 = .ok (.iload_n 1, 1) := by decide +kernel
theorem dX12_set_50 : decode cX12_set 50 = .ok (.iload_n 2, 1) := by decide +kernel
theorem dX12_set_51 : decode cX12_set 51 = .ok (.iastore, 1) := by decide +kernel
theorem dX12_set_52 : decode cX12_set 52 = .ok (.iload_n 3, 1) := by decide +kernel
theorem dX12_set_53 : decode cX12_set 53 = .ok (.ireturn, 1) := by decide +kernel
theorem dX12_isPerson_0 : decode cX12_isPerson 0 = .ok (.iload_n 0, 1) := by decide +kernel
theorem dX12_isPerson_1 : decode cX12_isPerson 1 = .ok (.i2l, 1) := by decide +kernel
theorem dX12_isPerson_2 : decode cX12_isPerson 2 = .ok (.lconst 0, 1) := by decide +kernel
theorem dX12_isPerson_3 : decode cX12_isPerson 3 = .ok (.ldc2_w 135, 3) := by decide +kernel
theorem dX12_isPerson_6 : decode cX12_isPerson 6 = .ok (.invokestatic 82, 3) := by decide +kernel
theorem dX12_isPerson_9 : decode cX12_isPerson 9 = .ok (.ireturn, 1) := by decide +kernel
theorem dX12_grip_0 : decode cX12_grip 0 = .ok (.iload_n 1, 1) := by decide +kernel
theorem dX12_grip_1 : decode cX12_grip 1 = .ok (.invokestatic 162, 3) := by decide +kernel
theorem dX12_grip_4 : decode cX12_grip 4 = .ok (.ifCond .eq 27, 3) := by decide +kernel
theorem dX12_grip_7 : decode cX12_grip 7 = .ok (.iload_n 2, 1) := by decide +kernel
theorem dX12_grip_8 : decode cX12_grip 8 = .ok (.invokestatic 162, 3) := by decide +kernel
theorem dX12_grip_11 : decode cX12_grip 11 = .ok (.ifCond .eq 20, 3) := by decide +kernel
theorem dX12_grip_14 : decode cX12_grip 14 = .ok (.iload_n 1, 1) := by decide +kernel
theorem dX12_grip_15 : decode cX12_grip 15 = .ok (.iload_n 2, 1) := by decide +kernel
theorem dX12_grip_16 : decode cX12_grip 16 = .ok (.if_icmp .eq 15, 3) := by decide +kernel
theorem dX12_grip_19 : decode cX12_grip 19 = .ok (.iload_n 3, 1) := by decide +kernel
theorem dX12_grip_20 : decode cX12_grip 20 = .ok (.i2l, 1) := by decide +kernel
theorem dX12_grip_21 : decode cX12_grip 21 = .ok (.lconst 0, 1) := by decide +kernel
theorem dX12_grip_22 : decode cX12_grip 22 = .ok (.ldc2_w 165, 3) := by decide +kernel
theorem dX12_grip_25 : decode cX12_grip 25 = .ok (.invokestatic 82, 3) := by decide +kernel
theorem dX12_grip_28 : decode cX12_grip 28 = .ok (.ifCond .ne 6, 3) := by decide +kernel
theorem dX12_grip_31 : decode cX12_grip 31 = .ok (.bipush (-2), 2) := by decide +kernel
theorem dX12_grip_33 : decode cX12_grip 33 = .ok (.ireturn, 1) := by decide +kernel
theorem dX12_grip_34 : decode cX12_grip 34 = .ok (.aload_n 0, 1) := by decide +kernel
theorem dX12_grip_35 : decode cX12_grip 35 = .ok (.getfield 40, 3) := by decide +kernel
theorem dX12_grip_38 : decode cX12_grip 38 = .ok (.iconst 5, 1) := by decide +kernel
theorem dX12_grip_39 : decode cX12_grip 39 = .ok (.iload_n 1, 1) := by decide +kernel
theorem dX12_grip_40 : decode cX12_grip 40 = .ok (.imul, 1) := by decide +kernel
theorem dX12_grip_41 : decode cX12_grip 41 = .ok (.iload_n 2, 1) := by decide +kernel
theorem dX12_grip_42 : decode cX12_grip 42 = .ok (.iadd, 1) := by decide +kernel
theorem dX12_grip_43 : decode cX12_grip 43 = .ok (.iaload, 1) := by decide +kernel
theorem dX12_grip_44 : decode cX12_grip 44 = .ok (.istore 4, 2) := by decide +kernel
theorem dX12_grip_46 : decode cX12_grip 46 = .ok (.aload_n 0, 1) := by decide +kernel
theorem dX12_grip_47 : decode cX12_grip 47 = .ok (.getfield 40, 3) := by decide +kernel
theorem dX12_grip_50 : decode cX12_grip 50 = .ok (.iconst 5, 1) := by decide +kernel
theorem dX12_grip_51 : decode cX12_grip 51 = .ok (.iload_n 1, 1) := by decide +kernel
theorem dX12_grip_52 : decode cX12_grip 52 = .ok (.imul, 1) := by decide +kernel
theorem dX12_grip_53 : decode cX12_grip 53 = .ok (.iload_n 2, 1) := by decide +kernel
theorem dX12_grip_54 : decode cX12_grip 54 = .ok (.iadd, 1) := by decide +kernel
theorem dX12_grip_55 : decode cX12_grip 55 = .ok (.iload_n 3, 1) := by decide +kernel
theorem dX12_grip_56 : decode cX12_grip 56 = .ok (.iastore, 1) := by decide +kernel
theorem dX12_grip_57 : decode cX12_grip 57 = .ok (.aload_n 0, 1) := by decide +kernel
theorem dX12_grip_58 : decode cX12_grip 58 = .ok (.getfield 40, 3) := by decide +kernel
theorem dX12_grip_61 : decode cX12_grip 61 = .ok (.iconst 5, 1) := by decide +kernel
theorem dX12_grip_62 : decode cX12_grip 62 = .ok (.iload_n 2, 1) := by decide +kernel
theorem dX12_grip_63 : decode cX12_grip 63 = .ok (.imul, 1) := by decide +kernel
theorem dX12_grip_64 : decode cX12_grip 64 = .ok (.iload_n 1, 1) := by decide +kernel
theorem dX12_grip_65 : decode cX12_grip 65 = .ok (.iadd, 1) := by decide +kernel
theorem dX12_grip_66 : decode cX12_grip 66 = .ok (.iload_n 3, 1) := by decide +kernel
theorem dX12_grip_67 : decode cX12_grip 67 = .ok (.iastore, 1) := by decide +kernel
theorem dX12_grip_68 : decode cX12_grip 68 = .ok (.iload 4, 2) := by decide +kernel
theorem dX12_grip_70 : decode cX12_grip 70 = .ok (.ireturn, 1) := by decide +kernel
theorem dX12_person_0 : decode cX12_person 0 = .ok (.iload_n 1, 1) := by decide +kernel
theorem dX12_person_1 : decode cX12_person 1 = .ok (.invokestatic 162, 3) := by decide +kernel
theorem dX12_person_4 : decode cX12_person 4 = .ok (.ifCond .eq 32, 3) := by decide +kernel
theorem dX12_person_7 : decode cX12_person 7 = .ok (.iload_n 2, 1) := by decide +kernel
theorem dX12_person_8 : decode cX12_person 8 = .ok (.invokestatic 167, 3) := by decide +kernel
theorem dX12_person_11 : decode cX12_person 11 = .ok (.ifCond .eq 25, 3) := by decide +kernel
theorem dX12_person_14 : decode cX12_person 14 = .ok (.iload_n 3, 1) := by decide +kernel
theorem dX12_person_15 : decode cX12_person 15 = .ok (.i2l, 1) := by decide +kernel
theorem dX12_person_16 : decode cX12_person 16 = .ok (.lconst 0, 1) := by decide +kernel
theorem dX12_person_17 : decode cX12_person 17 = .ok (.iload_n 2, 1) := by decide +kernel
theorem dX12_person_18 : decode cX12_person 18 = .ok (.ifCond .ne 9, 3) := by decide +kernel
theorem dX12_person_21 : decode cX12_person 21 = .ok (.ldc2_w 165, 3) := by decide +kernel
theorem dX12_person_24 : decode cX12_person 24 = .ok (.goto 6, 3) := by decide +kernel
theorem dX12_person_27 : decode cX12_person 27 = .ok (.ldc2_w 160, 3) := by decide +kernel
theorem dX12_person_30 : decode cX12_person 30 = .ok (.invokestatic 82, 3) := by decide +kernel
theorem dX12_person_33 : decode cX12_person 33 = .ok (.ifCond .ne 6, 3) := by decide +kernel
theorem dX12_person_36 : decode cX12_person 36 = .ok (.bipush (-2), 2) := by decide +kernel
theorem dX12_person_38 : decode cX12_person 38 = .ok (.ireturn, 1) := by decide +kernel
theorem dX12_person_39 : decode cX12_person 39 = .ok (.iload_n 2, 1) := by decide +kernel
theorem dX12_person_40 : decode cX12_person 40 = .ok (.ifCond .ne 12, 3) := by decide +kernel
theorem dX12_person_43 : decode cX12_person 43 = .ok (.aload_n 0, 1) := by decide +kernel
theorem dX12_person_44 : decode cX12_person 44 = .ok (.getfield 43, 3) := by decide +kernel
theorem dX12_person_47 : decode cX12_person 47 = .ok (.iload_n 1, 1) := by decide +kernel
theorem dX12_person_48 : decode cX12_person 48 = .ok (.iaload, 1) := by decide +kernel
theorem dX12_person_49 : decode cX12_person 49 = .ok (.goto 9, 3) := by decide +kernel
theorem dX12_person_52 : decode cX12_person 52 = .ok (.aload_n 0, 1) := by decide +kernel
theorem dX12_person_53 : decode cX12_person 53 = .ok (.getfield 46, 3) := by decide +kernel
theorem dX12_person_56 : decode cX12_person 56 = .ok (.iload_n 1, 1) := by decide +kernel
theorem dX12_person_57 : decode cX12_person 57 = .ok (.iaload, 1) := by decide +kernel
theorem dX12_person_58 : decode cX12_person 58 = .ok (.istore 4, 2) := by decide +kernel
theorem dX12_person_60 : decode cX12_person 60 = .ok (.aload_n 0, 1) := by decide +kernel
theorem dX12_person_61 : decode cX12_person 61 = .ok (.getfield 43, 3) := by decide +kernel
theorem dX12_person_64 : decode cX12_person 64 = .ok (.iload_n 1, 1) := by decide +kernel
theorem dX12_person_65 : decode cX12_person 65 = .ok (.iload_n 2, 1) := by decide +kernel
theorem dX12_person_66 : decode cX12_person 66 = .ok (.ifCond .ne 7, 3) := by decide +kernel
theorem dX12_person_69 : decode cX12_person 69 = .ok (.iload_n 3, 1) := by decide +kernel
theorem dX12_person_70 : decode cX12_person 70 = .ok (.goto 9, 3) := by decide +kernel
theorem dX12_person_73 : decode cX12_person 73 = .ok (.aload_n 0, 1) := by decide +kernel
theorem dX12_person_74 : decode cX12_person 74 = .ok (.getfield 43, 3) := by decide +kernel
theorem dX12_person_77 : decode cX12_person 77 = .ok (.iload_n 1, 1) := by decide +kernel
theorem dX12_person_78 : decode cX12_person 78 = .ok (.iaload, 1) := by decide +kernel
theorem dX12_person_79 : decode cX12_person 79 = .ok (.iastore, 1) := by decide +kernel
theorem dX12_person_80 : decode cX12_person 80 = .ok (.aload_n 0, 1) := by decide +kernel
theorem dX12_person_81 : decode cX12_person 81 = .ok (.getfield 46, 3) := by decide +kernel
theorem dX12_person_84 : decode cX12_person 84 = .ok (.iload_n 1, 1) := by decide +kernel
theorem dX12_person_85 : decode cX12_person 85 = .ok (.iload_n 2, 1) := by decide +kernel
theorem dX12_person_86 : decode cX12_person 86 = .ok (.iconst 1, 1) := by decide +kernel
theorem dX12_person_87 : decode cX12_person 87 = .ok (.if_icmp .ne 7, 3) := by decide +kernel
theorem dX12_person_90 : decode cX12_person 90 = .ok (.iload_n 3, 1) := by decide +kernel
theorem dX12_person_91 : decode cX12_person 91 = .ok (.goto 9, 3) := by decide +kernel
theorem dX12_person_94 : decode cX12_person 94 = .ok (.aload_n 0, 1) := by decide +kernel
theorem dX12_person_95 : decode cX12_person 95 = .ok (.getfield 46, 3) := by decide +kernel
theorem dX12_person_98 : decode cX12_person 98 = .ok (.iload_n 1, 1) := by decide +kernel
theorem dX12_person_99 : decode cX12_person 99 = .ok (.iaload, 1) := by decide +kernel
theorem dX12_person_100 : decode cX12_person 100 = .ok (.iastore, 1) := by decide +kernel
theorem dX12_person_101 : decode cX12_person 101 = .ok (.iload 4, 2) := by decide +kernel
theorem dX12_person_103 : decode cX12_person 103 = .ok (.ireturn, 1) := by decide +kernel
theorem dX12_read_0 : decode cX12_read 0 = .ok (.iload_n 1, 1) := by decide +kernel
theorem dX12_read_1 : decode cX12_read 1 = .ok (.invokestatic 92, 3) := by decide +kernel
theorem dX12_read_4 : decode cX12_read 4 = .ok (.ifCond .ne 6, 3) := by decide +kernel
theorem dX12_read_7 : decode cX12_read 7 = .ok (.bipush (-2), 2) := by decide +kernel
theorem dX12_read_9 : decode cX12_read 9 = .ok (.ireturn, 1) := by decide +kernel
theorem dX12_read_10 : decode cX12_read 10 = .ok (.aload_n 0, 1) := by decide +kernel
theorem dX12_read_11 : decode cX12_read 11 = .ok (.getfield 7, 3) := by decide +kernel
theorem dX12_read_14 : decode cX12_read 14 = .ok (.iload_n 1, 1) := by decide +kernel
theorem dX12_read_15 : decode cX12_read 15 = .ok (.iaload, 1) := by decide +kernel
theorem dX12_read_16 : decode cX12_read 16 = .ok (.ifCond .ge 9, 3) := by decide +kernel
theorem dX12_read_19 : decode cX12_read 19 = .ok (.aload_n 0, 1) := by decide +kernel
theorem dX12_read_20 : decode cX12_read 20 = .ok (.iconst 1, 1) := by decide +kernel
theorem dX12_read_21 : decode cX12_read 21 = .ok (.invokevirtual 98, 3) := by decide +kernel
theorem dX12_read_24 : decode cX12_read 24 = .ok (.ireturn, 1) := by decide +kernel
theorem dX12_read_25 : decode cX12_read 25 = .ok (.iconst 0, 1) := by decide +kernel
theorem dX12_read_26 : decode cX12_read 26 = .ok (.istore_n 2, 1) := by decide +kernel
theorem dX12_read_27 : decode cX12_read 27 = .ok (.iload_n 2, 1) := by decide +kernel
theorem dX12_read_28 : decode cX12_read 28 = .ok (.aload_n 0, 1) := by decide +kernel
theorem dX12_read_29 : decode cX12_read 29 = .ok (.getfield 13, 3) := by decide +kernel
theorem dX12_read_32 : decode cX12_read 32 = .ok (.iload_n 1, 1) := by decide +kernel
theorem dX12_read_33 : decode cX12_read 33 = .ok (.iaload, 1) := by decide +kernel
theorem dX12_read_34 : decode cX12_read 34 = .ok (.if_icmp .ge 29, 3) := by decide +kernel
theorem dX12_read_37 : decode cX12_read 37 = .ok (.aload_n 0, 1) := by decide +kernel
theorem dX12_read_38 : decode cX12_read 38 = .ok (.iload_n 2, 1) := by decide +kernel
theorem dX12_read_39 : decode cX12_read 39 = .ok (.iconst 0, 1) := by decide +kernel
theorem dX12_read_40 : decode cX12_read 40 = .ok (.aload_n 0, 1) := by decide +kernel
theorem dX12_read_41 : decode cX12_read 41 = .ok (.getfield 16, 3) := by decide +kernel
theorem dX12_read_44 : decode cX12_read 44 = .ok (.bipush 64, 2) := by decide +kernel
theorem dX12_read_46 : decode cX12_read 46 = .ok (.iload_n 1, 1) := by decide +kernel
theorem dX12_read_47 : decode cX12_read 47 = .ok (.imul, 1) := by decide +kernel
theorem dX12_read_48 : decode cX12_read 48 = .ok (.iload_n 2, 1) := by decide +kernel
theorem dX12_read_49 : decode cX12_read 49 = .ok (.iadd, 1) := by decide +kernel
theorem dX12_read_50 : decode cX12_read 50 = .ok (.iaload, 1) := by decide +kernel
theorem dX12_read_51 : decode cX12_read 51 = .ok (.invokevirtual 170, 3) := by decide +kernel
theorem dX12_read_54 : decode cX12_read 54 = .ok (.ifCond .lt 9, 3) := by decide +kernel
theorem dX12_read_57 : decode cX12_read 57 = .ok (.iinc 2 1, 3) := by decide +kernel
theorem dX12_read_60 : decode cX12_read 60 = .ok (.goto (-33), 3) := by decide +kernel
theorem dX12_read_63 : decode cX12_read 63 = .ok (.iload_n 2, 1) := by decide +kernel
theorem dX12_read_64 : decode cX12_read 64 = .ok (.ireturn, 1) := by decide +kernel
theorem dX12_isPlace_0 : decode cX12_isPlace 0 = .ok (.iload_n 1, 1) := by decide +kernel
theorem dX12_isPlace_1 : decode cX12_isPlace 1 = .ok (.i2l, 1) := by decide +kernel
theorem dX12_isPlace_2 : decode cX12_isPlace 2 = .ok (.lconst 0, 1) := by decide +kernel
theorem dX12_isPlace_3 : decode cX12_isPlace 3 = .ok (.ldc2_w 160, 3) := by decide +kernel
theorem dX12_isPlace_6 : decode cX12_isPlace 6 = .ok (.invokestatic 82, 3) := by decide +kernel
theorem dX12_isPlace_9 : decode cX12_isPlace 9 = .ok (.ifCond .eq 18, 3) := by decide +kernel
theorem dX12_isPlace_12 : decode cX12_isPlace 12 = .ok (.aload_n 0, 1) := by decide +kernel
theorem dX12_isPlace_13 : decode cX12_isPlace 13 = .ok (.getfield 28, 3) := by decide +kernel
theorem dX12_isPlace_16 : decode cX12_isPlace 16 = .ok (.iload_n 1, 1) := by decide +kernel
theorem dX12_isPlace_17 : decode cX12_isPlace 17 = .ok (.iaload, 1) := by decide +kernel
theorem dX12_isPlace_18 : decode cX12_isPlace 18 = .ok (.bipush 99, 2) := by decide +kernel
theorem dX12_isPlace_20 : decode cX12_isPlace 20 = .ok (.if_icmp .eq 7, 3) := by decide +kernel
theorem dX12_isPlace_23 : decode cX12_isPlace 23 = .ok (.iconst 1, 1) := by decide +kernel
theorem dX12_isPlace_24 : decode cX12_isPlace 24 = .ok (.goto 4, 3) := by decide +kernel
theorem dX12_isPlace_27 : decode cX12_isPlace 27 = .ok (.iconst 0, 1) := by decide +kernel
theorem dX12_isPlace_28 : decode cX12_isPlace 28 = .ok (.ireturn, 1) := by decide +kernel
theorem dX12_beside_0 : decode cX12_beside 0 = .ok (.iload_n 1, 1) := by decide +kernel
theorem dX12_beside_1 : decode cX12_beside 1 = .ok (.bipush 8, 2) := by decide +kernel
theorem dX12_beside_3 : decode cX12_beside 3 = .ok (.idiv, 1) := by decide +kernel
theorem dX12_beside_4 : decode cX12_beside 4 = .ok (.iload_n 2, 1) := by decide +kernel
theorem dX12_beside_5 : decode cX12_beside 5 = .ok (.ifCond .ne 7, 3) := by decide +kernel
theorem dX12_beside_8 : decode cX12_beside 8 = .ok (.iconst (-1), 1) := by decide +kernel
theorem dX12_beside_9 : decode cX12_beside 9 = .ok (.goto 13, 3) := by decide +kernel
theorem dX12_beside_12 : decode cX12_beside 12 = .ok (.iload_n 2, 1) := by decide +kernel
theorem dX12_beside_13 : decode cX12_beside 13 = .ok (.iconst 2, 1) := by decide +kernel
theorem dX12_beside_14 : decode cX12_beside 14 = .ok (.if_icmp .ne 7, 3) := by decide +kernel
theorem dX12_beside_17 : decode cX12_beside 17 = .ok (.iconst 1, 1) := by decide +kernel
theorem dX12_beside_18 : decode cX12_beside 18 = .ok (.goto 4, 3) := by decide +kernel
theorem dX12_beside_21 : decode cX12_beside 21 = .ok (.iconst 0, 1) := by decide +kernel
theorem dX12_beside_22 : decode cX12_beside 22 = .ok (.iadd, 1) := by decide +kernel
theorem dX12_beside_23 : decode cX12_beside 23 = .ok (.istore_n 3, 1) := by decide +kernel
theorem dX12_beside_24 : decode cX12_beside 24 = .ok (.iload_n 1, 1) := by decide +kernel
theorem dX12_beside_25 : decode cX12_beside 25 = .ok (.bipush 8, 2) := by decide +kernel
theorem dX12_beside_27 : decode cX12_beside 27 = .ok (.irem, 1) := by decide +kernel
theorem dX12_beside_28 : decode cX12_beside 28 = .ok (.iload_n 2, 1) := by decide +kernel
theorem dX12_beside_29 : decode cX12_beside 29 = .ok (.iconst 1, 1) := by decide +kernel
theorem dX12_beside_30 : decode cX12_beside 30 = .ok (.if_icmp .ne 7, 3) := by decide +kernel
theorem dX12_beside_33 : decode cX12_beside 33 = .ok (.iconst 1, 1) := by decide +kernel
theorem dX12_beside_34 : decode cX12_beside 34 = .ok (.goto 13, 3) := by decide +kernel
theorem dX12_beside_37 : decode cX12_beside 37 = .ok (.iload_n 2, 1) := by decide +kernel
theorem dX12_beside_38 : decode cX12_beside 38 = .ok (.iconst 3, 1) := by decide +kernel
theorem dX12_beside_39 : decode cX12_beside 39 = .ok (.if_icmp .ne 7, 3) := by decide +kernel
theorem dX12_beside_42 : decode cX12_beside 42 = .ok (.iconst (-1), 1) := by decide +kernel
theorem dX12_beside_43 : decode cX12_beside 43 = .ok (.goto 4, 3) := by decide +kernel
theorem dX12_beside_46 : decode cX12_beside 46 = .ok (.iconst 0, 1) := by decide +kernel
theorem dX12_beside_47 : decode cX12_beside 47 = .ok (.iadd, 1) := by decide +kernel
theorem dX12_beside_48 : decode cX12_beside 48 = .ok (.istore 4, 2) := by decide +kernel
theorem dX12_beside_50 : decode cX12_beside 50 = .ok (.iload_n 3, 1) := by decide +kernel
theorem dX12_beside_51 : decode cX12_beside 51 = .ok (.i2l, 1) := by decide +kernel
theorem dX12_beside_52 : decode cX12_beside 52 = .ok (.lconst 0, 1) := by decide +kernel
theorem dX12_beside_53 : decode cX12_beside 53 = .ok (.ldc2_w 173, 3) := by decide +kernel
theorem dX12_beside_56 : decode cX12_beside 56 = .ok (.invokestatic 82, 3) := by decide +kernel
theorem dX12_beside_59 : decode cX12_beside 59 = .ok (.ifCond .eq 43, 3) := by decide +kernel
theorem dX12_beside_62 : decode cX12_beside 62 = .ok (.iload 4, 2) := by decide +kernel
theorem dX12_beside_64 : decode cX12_beside 64 = .ok (.i2l, 1) := by decide +kernel
theorem dX12_beside_65 : decode cX12_beside 65 = .ok (.lconst 0, 1) := by decide +kernel
theorem dX12_beside_66 : decode cX12_beside 66 = .ok (.ldc2_w 173, 3) := by decide +kernel
theorem dX12_beside_69 : decode cX12_beside 69 = .ok (.invokestatic 82, 3) := by decide +kernel
theorem dX12_beside_72 : decode cX12_beside 72 = .ok (.ifCond .eq 30, 3) := by decide +kernel
theorem dX12_beside_75 : decode cX12_beside 75 = .ok (.aload_n 0, 1) := by decide +kernel
theorem dX12_beside_76 : decode cX12_beside 76 = .ok (.getfield 28, 3) := by decide +kernel
theorem dX12_beside_79 : decode cX12_beside 79 = .ok (.bipush 8, 2) := by decide +kernel
theorem dX12_beside_81 : decode cX12_beside 81 = .ok (.iload_n 3, 1) := by decide +kernel
theorem dX12_beside_82 : decode cX12_beside 82 = .ok (.imul, 1) := by decide +kernel
theorem dX12_beside_83 : decode cX12_beside 83 = .ok (.iload 4, 2) := by decide +kernel
theorem dX12_beside_85 : decode cX12_beside 85 = .ok (.iadd, 1) := by decide +kernel
theorem dX12_beside_86 : decode cX12_beside 86 = .ok (.iaload, 1) := by decide +kernel
theorem dX12_beside_87 : decode cX12_beside 87 = .ok (.bipush 99, 2) := by decide +kernel
theorem dX12_beside_89 : decode cX12_beside 89 = .ok (.if_icmp .eq 13, 3) := by decide +kernel
theorem dX12_beside_92 : decode cX12_beside 92 = .ok (.bipush 8, 2) := by decide +kernel
theorem dX12_beside_94 : decode cX12_beside 94 = .ok (.iload_n 3, 1) := by decide +kernel
theorem dX12_beside_95 : decode cX12_beside 95 = .ok (.imul, 1) := by decide +kernel
theorem dX12_beside_96 : decode cX12_beside 96 = .ok (.iload 4, 2) := by decide +kernel
theorem dX12_beside_98 : decode cX12_beside 98 = .ok (.iadd, 1) := by decide +kernel
theorem dX12_beside_99 : decode cX12_beside 99 = .ok (.goto 4, 3) := by decide +kernel
theorem dX12_beside_102 : decode cX12_beside 102 = .ok (.iconst (-1), 1) := by decide +kernel
theorem dX12_beside_103 : decode cX12_beside 103 = .ok (.ireturn, 1) := by decide +kernel
theorem dX12_dense_0 : decode cX12_dense 0 = .ok (.aload_n 0, 1) := by decide +kernel
theorem dX12_dense_1 : decode cX12_dense 1 = .ok (.invokevirtual 175, 3) := by decide +kernel
theorem dX12_dense_4 : decode cX12_dense 4 = .ok (.aload_n 0, 1) := by decide +kernel
theorem dX12_dense_5 : decode cX12_dense 5 = .ok (.iload_n 1, 1) := by decide +kernel
theorem dX12_dense_6 : decode cX12_dense 6 = .ok (.invokevirtual 178, 3) := by decide +kernel
theorem dX12_dense_9 : decode cX12_dense 9 = .ok (.ifCond .eq 12, 3) := by decide +kernel
theorem dX12_dense_12 : decode cX12_dense 12 = .ok (.aload_n 0, 1) := by decide +kernel
theorem dX12_dense_13 : decode cX12_dense 13 = .ok (.getfield 28, 3) := by decide +kernel
theorem dX12_dense_16 : decode cX12_dense 16 = .ok (.iload_n 1, 1) := by decide +kernel
theorem dX12_dense_17 : decode cX12_dense 17 = .ok (.iaload, 1) := by decide +kernel
theorem dX12_dense_18 : decode cX12_dense 18 = .ok (.goto 5, 3) := by decide +kernel
theorem dX12_dense_21 : decode cX12_dense 21 = .ok (.bipush (-2), 2) := by decide +kernel
theorem dX12_dense_23 : decode cX12_dense 23 = .ok (.ireturn, 1) := by decide +kernel
theorem dX12_walks_0 : decode cX12_walks 0 = .ok (.aload_n 0, 1) := by decide +kernel
theorem dX12_walks_1 : decode cX12_walks 1 = .ok (.iconst 0, 1) := by decide +kernel
theorem dX12_walks_2 : decode cX12_walks 2 = .ok (.putfield 181, 3) := by decide +kernel
theorem dX12_walks_5 : decode cX12_walks 5 = .ok (.aload_n 0, 1) := by decide +kernel
theorem dX12_walks_6 : decode cX12_walks 6 = .ok (.getfield 49, 3) := by decide +kernel
theorem dX12_walks_9 : decode cX12_walks 9 = .ok (.iconst 0, 1) := by decide +kernel
theorem dX12_walks_10 : decode cX12_walks 10 = .ok (.aload_n 0, 1) := by decide +kernel
theorem dX12_walks_11 : decode cX12_walks 11 = .ok (.getfield 37, 3) := by decide +kernel
theorem dX12_walks_14 : decode cX12_walks 14 = .ok (.iconst 0, 1) := by decide +kernel
theorem dX12_walks_15 : decode cX12_walks 15 = .ok (.iaload, 1) := by decide +kernel
theorem dX12_walks_16 : decode cX12_walks 16 = .ok (.iastore, 1) := by decide +kernel
theorem dX12_walks_17 : decode cX12_walks 17 = .ok (.aload_n 0, 1) := by decide +kernel
theorem dX12_walks_18 : decode cX12_walks 18 = .ok (.aload_n 0, 1) := by decide +kernel
theorem dX12_walks_19 : decode cX12_walks 19 = .ok (.getfield 37, 3) := by decide +kernel
theorem dX12_walks_22 : decode cX12_walks 22 = .ok (.iconst 0, 1) := by decide +kernel
theorem dX12_walks_23 : decode cX12_walks 23 = .ok (.iaload, 1) := by decide +kernel
theorem dX12_walks_24 : decode cX12_walks 24 = .ok (.invokevirtual 178, 3) := by decide +kernel
theorem dX12_walks_27 : decode cX12_walks 27 = .ok (.istore_n 1, 1) := by decide +kernel
theorem dX12_walks_28 : decode cX12_walks 28 = .ok (.iload_n 1, 1) := by decide +kernel
theorem dX12_walks_29 : decode cX12_walks 29 = .ok (.ifCond .eq 75, 3) := by decide +kernel
theorem dX12_walks_32 : decode cX12_walks 32 = .ok (.aload_n 0, 1) := by decide +kernel
theorem dX12_walks_33 : decode cX12_walks 33 = .ok (.getfield 181, 3) := by decide +kernel
theorem dX12_walks_36 : decode cX12_walks 36 = .ok (.aload_n 0, 1) := by decide +kernel
theorem dX12_walks_37 : decode cX12_walks 37 = .ok (.getfield 141, 3) := by decide +kernel
theorem dX12_walks_40 : decode cX12_walks 40 = .ok (.if_icmp .ge 64, 3) := by decide +kernel
theorem dX12_walks_43 : decode cX12_walks 43 = .ok (.aload_n 0, 1) := by decide +kernel
theorem dX12_walks_44 : decode cX12_walks 44 = .ok (.aload_n 0, 1) := by decide +kernel
theorem dX12_walks_45 : decode cX12_walks 45 = .ok (.getfield 49, 3) := by decide +kernel
theorem dX12_walks_48 : decode cX12_walks 48 = .ok (.aload_n 0, 1) := by decide +kernel
theorem dX12_walks_49 : decode cX12_walks 49 = .ok (.getfield 181, 3) := by decide +kernel
theorem dX12_walks_52 : decode cX12_walks 52 = .ok (.iaload, 1) := by decide +kernel
theorem dX12_walks_53 : decode cX12_walks 53 = .ok (.aload_n 0, 1) := by decide +kernel
theorem dX12_walks_54 : decode cX12_walks 54 = .ok (.getfield 34, 3) := by decide +kernel
theorem dX12_walks_57 : decode cX12_walks 57 = .ok (.aload_n 0, 1) := by decide +kernel
theorem dX12_walks_58 : decode cX12_walks 58 = .ok (.getfield 181, 3) := by decide +kernel
theorem dX12_walks_61 : decode cX12_walks 61 = .ok (.iaload, 1) := by decide +kernel
theorem dX12_walks_62 : decode cX12_walks 62 = .ok (.invokevirtual 184, 3) := by decide +kernel
theorem dX12_walks_65 : decode cX12_walks 65 = .ok (.istore_n 2, 1) := by decide +kernel
theorem dX12_walks_66 : decode cX12_walks 66 = .ok (.iload_n 2, 1) := by decide +kernel
theorem dX12_walks_67 : decode cX12_walks 67 = .ok (.iconst (-1), 1) := by decide +kernel
theorem dX12_walks_68 : decode cX12_walks 68 = .ok (.if_icmp .eq 7, 3) := by decide +kernel
theorem dX12_walks_71 : decode cX12_walks 71 = .ok (.iconst 1, 1) := by decide +kernel
theorem dX12_walks_72 : decode cX12_walks 72 = .ok (.goto 4, 3) := by decide +kernel
theorem dX12_walks_75 : decode cX12_walks 75 = .ok (.iconst 0, 1) := by decide +kernel
theorem dX12_walks_76 : decode cX12_walks 76 = .ok (.istore_n 1, 1) := by decide +kernel
theorem dX12_walks_77 : decode cX12_walks 77 = .ok (.iload_n 1, 1) := by decide +kernel
theorem dX12_walks_78 : decode cX12_walks 78 = .ok (.ifCond .eq 23, 3) := by decide +kernel
theorem dX12_walks_81 : decode cX12_walks 81 = .ok (.aload_n 0, 1) := by decide +kernel
theorem dX12_walks_82 : decode cX12_walks 82 = .ok (.dup, 1) := by decide +kernel
theorem dX12_walks_83 : decode cX12_walks 83 = .ok (.getfield 181, 3) := by decide +kernel
theorem dX12_walks_86 : decode cX12_walks 86 = .ok (.iconst 1, 1) := by decide +kernel
theorem dX12_walks_87 : decode cX12_walks 87 = .ok (.iadd, 1) := by decide +kernel
theorem dX12_walks_88 : decode cX12_walks 88 = .ok (.putfield 181, 3) := by decide +kernel
theorem dX12_walks_91 : decode cX12_walks 91 = .ok (.aload_n 0, 1) := by decide +kernel
theorem dX12_walks_92 : decode cX12_walks 92 = .ok (.getfield 49, 3) := by decide +kernel
theorem dX12_walks_95 : decode cX12_walks 95 = .ok (.aload_n 0, 1) := by decide +kernel
theorem dX12_walks_96 : decode cX12_walks 96 = .ok (.getfield 181, 3) := by decide +kernel
theorem dX12_walks_99 : decode cX12_walks 99 = .ok (.iload_n 2, 1) := by decide +kernel
theorem dX12_walks_100 : decode cX12_walks 100 = .ok (.iastore, 1) := by decide +kernel
theorem dX12_walks_101 : decode cX12_walks 101 = .ok (.goto (-73), 3) := by decide +kernel
theorem dX12_walks_104 : decode cX12_walks 104 = .ok (.return_, 1) := by decide +kernel
theorem dX12_judged_0 : decode cX12_judged 0 = .ok (.aload_n 0, 1) := by decide +kernel
theorem dX12_judged_1 : decode cX12_judged 1 = .ok (.invokevirtual 175, 3) := by decide +kernel
theorem dX12_judged_4 : decode cX12_judged 4 = .ok (.aload_n 0, 1) := by decide +kernel
theorem dX12_judged_5 : decode cX12_judged 5 = .ok (.getfield 181, 3) := by decide +kernel
theorem dX12_judged_8 : decode cX12_judged 8 = .ok (.aload_n 0, 1) := by decide +kernel
theorem dX12_judged_9 : decode cX12_judged 9 = .ok (.getfield 141, 3) := by decide +kernel
theorem dX12_judged_12 : decode cX12_judged 12 = .ok (.if_icmp .ne 7, 3) := by decide +kernel
theorem dX12_judged_15 : decode cX12_judged 15 = .ok (.iconst (-1), 1) := by decide +kernel
theorem dX12_judged_16 : decode cX12_judged 16 = .ok (.goto 7, 3) := by decide +kernel
theorem dX12_judged_19 : decode cX12_judged 19 = .ok (.aload_n 0, 1) := by decide +kernel
theorem dX12_judged_20 : decode cX12_judged 20 = .ok (.getfield 181, 3) := by decide +kernel
theorem dX12_judged_23 : decode cX12_judged 23 = .ok (.ireturn, 1) := by decide +kernel
theorem dX12_at_0 : decode cX12_at 0 = .ok (.aload_n 0, 1) := by decide +kernel
theorem dX12_at_1 : decode cX12_at 1 = .ok (.invokevirtual 175, 3) := by decide +kernel
theorem dX12_at_4 : decode cX12_at 4 = .ok (.iload_n 1, 1) := by decide +kernel
theorem dX12_at_5 : decode cX12_at 5 = .ok (.i2l, 1) := by decide +kernel
theorem dX12_at_6 : decode cX12_at 6 = .ok (.lconst 0, 1) := by decide +kernel
theorem dX12_at_7 : decode cX12_at 7 = .ok (.aload_n 0, 1) := by decide +kernel
theorem dX12_at_8 : decode cX12_at 8 = .ok (.getfield 181, 3) := by decide +kernel
theorem dX12_at_11 : decode cX12_at 11 = .ok (.i2l, 1) := by decide +kernel
theorem dX12_at_12 : decode cX12_at 12 = .ok (.invokestatic 82, 3) := by decide +kernel
theorem dX12_at_15 : decode cX12_at 15 = .ok (.ifCond .ne 8, 3) := by decide +kernel
theorem dX12_at_18 : decode cX12_at 18 = .ok (.bipush (-2), 2) := by decide +kernel
theorem dX12_at_20 : decode cX12_at 20 = .ok (.goto 27, 3) := by decide +kernel
theorem dX12_at_23 : decode cX12_at 23 = .ok (.aload_n 0, 1) := by decide +kernel
theorem dX12_at_24 : decode cX12_at 24 = .ok (.aload_n 0, 1) := by decide +kernel
theorem dX12_at_25 : decode cX12_at 25 = .ok (.getfield 37, 3) := by decide +kernel
theorem dX12_at_28 : decode cX12_at 28 = .ok (.iconst 0, 1) := by decide +kernel
theorem dX12_at_29 : decode cX12_at 29 = .ok (.iaload, 1) := by decide +kernel
theorem dX12_at_30 : decode cX12_at 30 = .ok (.invokevirtual 178, 3) := by decide +kernel
theorem dX12_at_33 : decode cX12_at 33 = .ok (.ifCond .eq 12, 3) := by decide +kernel
theorem dX12_at_36 : decode cX12_at 36 = .ok (.aload_n 0, 1) := by decide +kernel
theorem dX12_at_37 : decode cX12_at 37 = .ok (.getfield 49, 3) := by decide +kernel
theorem dX12_at_40 : decode cX12_at 40 = .ok (.iload_n 1, 1) := by decide +kernel
theorem dX12_at_41 : decode cX12_at 41 = .ok (.iaload, 1) := by decide +kernel
theorem dX12_at_42 : decode cX12_at 42 = .ok (.goto 5, 3) := by decide +kernel
theorem dX12_at_45 : decode cX12_at 45 = .ok (.bipush (-3), 2) := by decide +kernel
theorem dX12_at_47 : decode cX12_at 47 = .ok (.ireturn, 1) := by decide +kernel
theorem dX12_findFar_0 : decode cX12_findFar 0 = .ok (.iconst 0, 1) := by decide +kernel
theorem dX12_findFar_1 : decode cX12_findFar 1 = .ok (.istore_n 3, 1) := by decide +kernel
theorem dX12_findFar_2 : decode cX12_findFar 2 = .ok (.iload_n 3, 1) := by decide +kernel
theorem dX12_findFar_3 : decode cX12_findFar 3 = .ok (.bipush 64, 2) := by decide +kernel
theorem dX12_findFar_5 : decode cX12_findFar 5 = .ok (.if_icmp .ge 26, 3) := by decide +kernel
theorem dX12_findFar_8 : decode cX12_findFar 8 = .ok (.aload_n 0, 1) := by decide +kernel
theorem dX12_findFar_9 : decode cX12_findFar 9 = .ok (.getfield 52, 3) := by decide +kernel
theorem dX12_findFar_12 : decode cX12_findFar 12 = .ok (.iload_n 3, 1) := by decide +kernel
theorem dX12_findFar_13 : decode cX12_findFar 13 = .ok (.iload_n 3, 1) := by decide +kernel
theorem dX12_findFar_14 : decode cX12_findFar 14 = .ok (.iload_n 1, 1) := by decide +kernel
theorem dX12_findFar_15 : decode cX12_findFar 15 = .ok (.if_icmp .ne 7, 3) := by decide +kernel
theorem dX12_findFar_18 : decode cX12_findFar 18 = .ok (.iconst 0, 1) := by decide +kernel
theorem dX12_findFar_19 : decode cX12_findFar 19 = .ok (.goto 5, 3) := by decide +kernel
theorem dX12_findFar_22 : decode cX12_findFar 22 = .ok (.ldc 187, 2) := by decide +kernel
theorem dX12_findFar_24 : decode cX12_findFar 24 = .ok (.iastore, 1) := by decide +kernel
theorem dX12_findFar_25 : decode cX12_findFar 25 = .ok (.iinc 3 1, 3) := by decide +kernel
theorem dX12_findFar_28 : decode cX12_findFar 28 = .ok (.goto (-26), 3) := by decide +kernel
theorem dX12_findFar_31 : decode cX12_findFar 31 = .ok (.iconst 1, 1) := by decide +kernel
theorem dX12_findFar_32 : decode cX12_findFar 32 = .ok (.istore_n 3, 1) := by decide +kernel
theorem dX12_findFar_33 : decode cX12_findFar 33 = .ok (.iload_n 3, 1) := by decide +kernel
theorem dX12_findFar_34 : decode cX12_findFar 34 = .ok (.ifCond .eq 146, 3) := by decide +kernel
theorem dX12_findFar_37 : decode cX12_findFar 37 = .ok (.iconst 0, 1) := by decide +kernel
theorem dX12_findFar_38 : decode cX12_findFar 38 = .ok (.istore_n 3, 1) := by decide +kernel
theorem dX12_findFar_39 : decode cX12_findFar 39 = .ok (.iconst 0, 1) := by decide +kernel
theorem dX12_findFar_40 : decode cX12_findFar 40 = .ok (.istore 4, 2) := by decide +kernel
theorem dX12_findFar_42 : decode cX12_findFar 42 = .ok (.iload 4, 2) := by decide +kernel
theorem dX12_findFar_44 : decode cX12_findFar 44 = .ok (.bipush 64, 2) := by decide +kernel
theorem dX12_findFar_46 : decode cX12_findFar 46 = .ok (.if_icmp .ge 131, 3) := by decide +kernel
theorem dX12_findFar_49 : decode cX12_findFar 49 = .ok (.iconst 0, 1) := by decide +kernel
theorem dX12_findFar_50 : decode cX12_findFar 50 = .ok (.istore 5, 2) := by decide +kernel
theorem dX12_findFar_52 : decode cX12_findFar 52 = .ok (.iload 5, 2) := by decide +kernel
theorem dX12_findFar_54 : decode cX12_findFar 54 = .ok (.iconst 4, 1) := by decide +kernel
theorem dX12_findFar_55 : decode cX12_findFar 55 = .ok (.if_icmp .ge 116, 3) := by decide +kernel
theorem dX12_findFar_58 : decode cX12_findFar 58 = .ok (.aload_n 0, 1) := by decide +kernel
theorem dX12_findFar_59 : decode cX12_findFar 59 = .ok (.getfield 28, 3) := by decide +kernel
theorem dX12_findFar_62 : decode cX12_findFar 62 = .ok (.iload 4, 2) := by decide +kernel
theorem dX12_findFar_64 : decode cX12_findFar 64 = .ok (.iaload, 1) := by decide +kernel
theorem dX12_findFar_65 : decode cX12_findFar 65 = .ok (.bipush 99, 2) := by decide +kernel
theorem dX12_findFar_67 : decode cX12_findFar 67 = .ok (.if_icmp .eq 104, 3) := by decide +kernel
theorem dX12_findFar_70 : decode cX12_findFar 70 = .ok (.aload_n 0, 1) := by decide +kernel
theorem dX12_findFar_71 : decode cX12_findFar 71 = .ok (.iload 4, 2) := by decide +kernel
theorem dX12_findFar_73 : decode cX12_findFar 73 = .ok (.iload 5, 2) := by decide +kernel
theorem dX12_findFar_75 : decode cX12_findFar 75 = .ok (.invokevirtual 184, 3) := by decide +kernel
theorem dX12_findFar_78 : decode cX12_findFar 78 = .ok (.istore 6, 2) := by decide +kernel
theorem dX12_findFar_80 : decode cX12_findFar 80 = .ok (.iload 6, 2) := by decide +kernel
theorem dX12_findFar_82 : decode cX12_findFar 82 = .ok (.iconst (-1), 1) := by decide +kernel
theorem dX12_findFar_83 : decode cX12_findFar 83 = .ok (.if_icmp .ne 8, 3) := by decide +kernel
theorem dX12_findFar_86 : decode cX12_findFar 86 = .ok (.ldc 187, 2) := by decide +kernel
theorem dX12_findFar_88 : decode cX12_findFar 88 = .ok (.goto 22, 3) := by decide +kernel
theorem dX12_findFar_91 : decode cX12_findFar 91 = .ok (.aload_n 0, 1) := by decide +kernel
theorem dX12_findFar_92 : decode cX12_findFar 92 = .ok (.getfield 52, 3) := by decide +kernel
theorem dX12_findFar_95 : decode cX12_findFar 95 = .ok (.iload 6, 2) := by decide +kernel
theorem dX12_findFar_97 : decode cX12_findFar 97 = .ok (.iaload, 1) := by decide +kernel
theorem dX12_findFar_98 : decode cX12_findFar 98 = .ok (.iload_n 2, 1) := by decide +kernel
theorem dX12_findFar_99 : decode cX12_findFar 99 = .ok (.aload_n 0, 1) := by decide +kernel
theorem dX12_findFar_100 : decode cX12_findFar 100 = .ok (.getfield 28, 3) := by decide +kernel
theorem dX12_findFar_103 : decode cX12_findFar 103 = .ok (.iload 6, 2) := by decide +kernel
theorem dX12_findFar_105 : decode cX12_findFar 105 = .ok (.iaload, 1) := by decide +kernel
theorem dX12_findFar_106 : decode cX12_findFar 106 = .ok (.imul, 1) := by decide +kernel
theorem dX12_findFar_107 : decode cX12_findFar 107 = .ok (.iadd, 1) := by decide +kernel
theorem dX12_findFar_108 : decode cX12_findFar 108 = .ok (.iconst 1, 1) := by decide +kernel
theorem dX12_findFar_109 : decode cX12_findFar 109 = .ok (.iadd, 1) := by decide +kernel
theorem dX12_findFar_110 : decode cX12_findFar 110 = .ok (.istore 7, 2) := by decide +kernel
theorem dX12_findFar_112 : decode cX12_findFar 112 = .ok (.iload_n 3, 1) := by decide +kernel
theorem dX12_findFar_113 : decode cX12_findFar 113 = .ok (.ifCond .ne 15, 3) := by decide +kernel
theorem dX12_findFar_116 : decode cX12_findFar 116 = .ok (.iload 7, 2) := by decide +kernel
theorem dX12_findFar_118 : decode cX12_findFar 118 = .ok (.aload_n 0, 1) := by decide +kernel
theorem dX12_findFar_119 : decode cX12_findFar 119 = .ok (.getfield 52, 3) := by decide +kernel
theorem dX12_findFar_122 : decode cX12_findFar 122 = .ok (.iload 4, 2) := by decide +kernel
theorem dX12_findFar_124 : decode cX12_findFar 124 = .ok (.iaload, 1) := by decide +kernel
theorem dX12_findFar_125 : decode cX12_findFar 125 = .ok (.if_icmp .ge 7, 3) := by decide +kernel
theorem dX12_findFar_128 : decode cX12_findFar 128 = .ok (.iconst 1, 1) := by decide +kernel
theorem dX12_findFar_129 : decode cX12_findFar 129 = .ok (.goto 4, 3) := by decide +kernel
theorem dX12_findFar_132 : decode cX12_findFar 132 = .ok (.iconst 0, 1) := by decide +kernel
theorem dX12_findFar_133 : decode cX12_findFar 133 = .ok (.istore_n 3, 1) := by decide +kernel
theorem dX12_findFar_134 : decode cX12_findFar 134 = .ok (.aload_n 0, 1) := by decide +kernel
theorem dX12_findFar_135 : decode cX12_findFar 135 = .ok (.getfield 52, 3) := by decide +kernel
theorem dX12_findFar_138 : decode cX12_findFar 138 = .ok (.iload 4, 2) := by decide +kernel
theorem dX12_findFar_140 : decode cX12_findFar 140 = .ok (.iload 7, 2) := by decide +kernel
theorem dX12_findFar_142 : decode cX12_findFar 142 = .ok (.aload_n 0, 1) := by decide +kernel
theorem dX12_findFar_143 : decode cX12_findFar 143 = .ok (.getfield 52, 3) := by decide +kernel
theorem dX12_findFar_146 : decode cX12_findFar 146 = .ok (.iload 4, 2) := by decide +kernel
theorem dX12_findFar_148 : decode cX12_findFar 148 = .ok (.iaload, 1) := by decide +kernel
theorem dX12_findFar_149 : decode cX12_findFar 149 = .ok (.if_icmp .ge 8, 3) := by decide +kernel
theorem dX12_findFar_152 : decode cX12_findFar 152 = .ok (.iload 7, 2) := by decide +kernel
theorem dX12_findFar_154 : decode cX12_findFar 154 = .ok (.goto 10, 3) := by decide +kernel
theorem dX12_findFar_157 : decode cX12_findFar 157 = .ok (.aload_n 0, 1) := by decide +kernel
theorem dX12_findFar_158 : decode cX12_findFar 158 = .ok (.getfield 52, 3) := by decide +kernel
theorem dX12_findFar_161 : decode cX12_findFar 161 = .ok (.iload 4, 2) := by decide +kernel
theorem dX12_findFar_163 : decode cX12_findFar 163 = .ok (.iaload, 1) := by decide +kernel
theorem dX12_findFar_164 : decode cX12_findFar 164 = .ok (.iastore, 1) := by decide +kernel
theorem dX12_findFar_165 : decode cX12_findFar 165 = .ok (.iinc 5 1, 3) := by decide +kernel
theorem dX12_findFar_168 : decode cX12_findFar 168 = .ok (.goto (-116), 3) := by decide +kernel
theorem dX12_findFar_171 : decode cX12_findFar 171 = .ok (.iinc 4 1, 3) := by decide +kernel
theorem dX12_findFar_174 : decode cX12_findFar 174 = .ok (.goto (-132), 3) := by decide +kernel
theorem dX12_findFar_177 : decode cX12_findFar 177 = .ok (.goto (-144), 3) := by decide +kernel
theorem dX12_findFar_180 : decode cX12_findFar 180 = .ok (.return_, 1) := by decide +kernel
theorem dX12_nearOf_0 : decode cX12_nearOf 0 = .ok (.aload_n 0, 1) := by decide +kernel
theorem dX12_nearOf_1 : decode cX12_nearOf 1 = .ok (.iload_n 2, 1) := by decide +kernel
theorem dX12_nearOf_2 : decode cX12_nearOf 2 = .ok (.iconst 0, 1) := by decide +kernel
theorem dX12_nearOf_3 : decode cX12_nearOf 3 = .ok (.invokevirtual 188, 3) := by decide +kernel
theorem dX12_nearOf_6 : decode cX12_nearOf 6 = .ok (.aload_n 0, 1) := by decide +kernel
theorem dX12_nearOf_7 : decode cX12_nearOf 7 = .ok (.getfield 52, 3) := by decide +kernel
theorem dX12_nearOf_10 : decode cX12_nearOf 10 = .ok (.iload_n 1, 1) := by decide +kernel
theorem dX12_nearOf_11 : decode cX12_nearOf 11 = .ok (.iaload, 1) := by decide +kernel
theorem dX12_nearOf_12 : decode cX12_nearOf 12 = .ok (.ldc 187, 2) := by decide +kernel
theorem dX12_nearOf_14 : decode cX12_nearOf 14 = .ok (.if_icmp .lt 7, 3) := by decide +kernel
theorem dX12_nearOf_17 : decode cX12_nearOf 17 = .ok (.iconst (-1), 1) := by decide +kernel
theorem dX12_nearOf_18 : decode cX12_nearOf 18 = .ok (.goto 9, 3) := by decide +kernel
theorem dX12_nearOf_21 : decode cX12_nearOf 21 = .ok (.aload_n 0, 1) := by decide +kernel
theorem dX12_nearOf_22 : decode cX12_nearOf 22 = .ok (.getfield 52, 3) := by decide +kernel
theorem dX12_nearOf_25 : decode cX12_nearOf 25 = .ok (.iload_n 1, 1) := by decide +kernel
theorem dX12_nearOf_26 : decode cX12_nearOf 26 = .ok (.iaload, 1) := by decide +kernel
theorem dX12_nearOf_27 : decode cX12_nearOf 27 = .ok (.ireturn, 1) := by decide +kernel
theorem dX12_near_0 : decode cX12_near 0 = .ok (.aload_n 0, 1) := by decide +kernel
theorem dX12_near_1 : decode cX12_near 1 = .ok (.invokevirtual 175, 3) := by decide +kernel
theorem dX12_near_4 : decode cX12_near 4 = .ok (.aload_n 0, 1) := by decide +kernel
theorem dX12_near_5 : decode cX12_near 5 = .ok (.iload_n 1, 1) := by decide +kernel
theorem dX12_near_6 : decode cX12_near 6 = .ok (.invokevirtual 178, 3) := by decide +kernel
theorem dX12_near_9 : decode cX12_near 9 = .ok (.ifCond .eq 20, 3) := by decide +kernel
theorem dX12_near_12 : decode cX12_near 12 = .ok (.aload_n 0, 1) := by decide +kernel
theorem dX12_near_13 : decode cX12_near 13 = .ok (.iload_n 2, 1) := by decide +kernel
theorem dX12_near_14 : decode cX12_near 14 = .ok (.invokevirtual 178, 3) := by decide +kernel
theorem dX12_near_17 : decode cX12_near 17 = .ok (.ifCond .eq 12, 3) := by decide +kernel
theorem dX12_near_20 : decode cX12_near 20 = .ok (.aload_n 0, 1) := by decide +kernel
theorem dX12_near_21 : decode cX12_near 21 = .ok (.iload_n 1, 1) := by decide +kernel
theorem dX12_near_22 : decode cX12_near 22 = .ok (.iload_n 2, 1) := by decide +kernel
theorem dX12_near_23 : decode cX12_near 23 = .ok (.invokevirtual 192, 3) := by decide +kernel
theorem dX12_near_26 : decode cX12_near 26 = .ok (.goto 5, 3) := by decide +kernel
theorem dX12_near_29 : decode cX12_near 29 = .ok (.bipush (-2), 2) := by decide +kernel
theorem dX12_near_31 : decode cX12_near 31 = .ok (.ireturn, 1) := by decide +kernel
theorem dX12_easiestOf_0 : decode cX12_easiestOf 0 = .ok (.aload_n 0, 1) := by decide +kernel
theorem dX12_easiestOf_1 : decode cX12_easiestOf 1 = .ok (.iload_n 2, 1) := by decide +kernel
theorem dX12_easiestOf_2 : decode cX12_easiestOf 2 = .ok (.sipush 1000, 3) := by decide +kernel
theorem dX12_easiestOf_5 : decode cX12_easiestOf 5 = .ok (.invokevirtual 188, 3) := by decide +kernel
theorem dX12_easiestOf_8 : decode cX12_easiestOf 8 = .ok (.aload_n 0, 1) := by decide +kernel
theorem dX12_easiestOf_9 : decode cX12_easiestOf 9 = .ok (.getfield 52, 3) := by decide +kernel
theorem dX12_easiestOf_12 : decode cX12_easiestOf 12 = .ok (.iload_n 1, 1) := by decide +kernel
theorem dX12_easiestOf_13 : decode cX12_easiestOf 13 = .ok (.iaload, 1) := by decide +kernel
theorem dX12_easiestOf_14 : decode cX12_easiestOf 14 = .ok (.ldc 187, 2) := by decide +kernel
theorem dX12_easiestOf_16 : decode cX12_easiestOf 16 = .ok (.if_icmp .ge 7, 3) := by decide +kernel
theorem dX12_easiestOf_19 : decode cX12_easiestOf 19 = .ok (.iload_n 3, 1) := by decide +kernel
theorem dX12_easiestOf_20 : decode cX12_easiestOf 20 = .ok (.ifCond .ge 48, 3) := by decide +kernel
theorem dX12_easiestOf_23 : decode cX12_easiestOf 23 = .ok (.aload_n 0, 1) := by decide +kernel
theorem dX12_easiestOf_24 : decode cX12_easiestOf 24 = .ok (.getfield 52, 3) := by decide +kernel
theorem dX12_easiestOf_27 : decode cX12_easiestOf 27 = .ok (.iload_n 1, 1) := by decide +kernel
theorem dX12_easiestOf_28 : decode cX12_easiestOf 28 = .ok (.iaload, 1) := by decide +kernel
theorem dX12_easiestOf_29 : decode cX12_easiestOf 29 = .ok (.ldc 187, 2) := by decide +kernel
theorem dX12_easiestOf_31 : decode cX12_easiestOf 31 = .ok (.if_icmp .lt 7, 3) := by decide +kernel
theorem dX12_easiestOf_34 : decode cX12_easiestOf 34 = .ok (.iconst (-1), 1) := by decide +kernel
theorem dX12_easiestOf_35 : decode cX12_easiestOf 35 = .ok (.goto 32, 3) := by decide +kernel
theorem dX12_easiestOf_38 : decode cX12_easiestOf 38 = .ok (.iload_n 3, 1) := by decide +kernel
theorem dX12_easiestOf_39 : decode cX12_easiestOf 39 = .ok (.bipush (-2), 2) := by decide +kernel
theorem dX12_easiestOf_41 : decode cX12_easiestOf 41 = .ok (.if_icmp .ne 16, 3) := by decide +kernel
theorem dX12_easiestOf_44 : decode cX12_easiestOf 44 = .ok (.aload_n 0, 1) := by decide +kernel
theorem dX12_easiestOf_45 : decode cX12_easiestOf 45 = .ok (.getfield 52, 3) := by decide +kernel
theorem dX12_easiestOf_48 : decode cX12_easiestOf 48 = .ok (.iload_n 1, 1) := by decide +kernel
theorem dX12_easiestOf_49 : decode cX12_easiestOf 49 = .ok (.iaload, 1) := by decide +kernel
theorem dX12_easiestOf_50 : decode cX12_easiestOf 50 = .ok (.sipush 1000, 3) := by decide +kernel
theorem dX12_easiestOf_53 : decode cX12_easiestOf 53 = .ok (.idiv, 1) := by decide +kernel
theorem dX12_easiestOf_54 : decode cX12_easiestOf 54 = .ok (.goto 13, 3) := by decide +kernel
theorem dX12_easiestOf_57 : decode cX12_easiestOf 57 = .ok (.aload_n 0, 1) := by decide +kernel
theorem dX12_easiestOf_58 : decode cX12_easiestOf 58 = .ok (.getfield 52, 3) := by decide +kernel
theorem dX12_easiestOf_61 : decode cX12_easiestOf 61 = .ok (.iload_n 1, 1) := by decide +kernel
theorem dX12_easiestOf_62 : decode cX12_easiestOf 62 = .ok (.iaload, 1) := by decide +kernel
theorem dX12_easiestOf_63 : decode cX12_easiestOf 63 = .ok (.sipush 1000, 3) := by decide +kernel
theorem dX12_easiestOf_66 : decode cX12_easiestOf 66 = .ok (.irem, 1) := by decide +kernel
theorem dX12_easiestOf_67 : decode cX12_easiestOf 67 = .ok (.ireturn, 1) := by decide +kernel
theorem dX12_easiestOf_68 : decode cX12_easiestOf 68 = .ok (.iload_n 1, 1) := by decide +kernel
theorem dX12_easiestOf_69 : decode cX12_easiestOf 69 = .ok (.istore 4, 2) := by decide +kernel
theorem dX12_easiestOf_71 : decode cX12_easiestOf 71 = .ok (.iconst (-1), 1) := by decide +kernel
theorem dX12_easiestOf_72 : decode cX12_easiestOf 72 = .ok (.istore 5, 2) := by decide +kernel
theorem dX12_easiestOf_74 : decode cX12_easiestOf 74 = .ok (.iconst 0, 1) := by decide +kernel
theorem dX12_easiestOf_75 : decode cX12_easiestOf 75 = .ok (.istore 6, 2) := by decide +kernel
theorem dX12_easiestOf_77 : decode cX12_easiestOf 77 = .ok (.iload 6, 2) := by decide +kernel
theorem dX12_easiestOf_79 : decode cX12_easiestOf 79 = .ok (.iload_n 3, 1) := by decide +kernel
theorem dX12_easiestOf_80 : decode cX12_easiestOf 80 = .ok (.if_icmp .gt 86, 3) := by decide +kernel
theorem dX12_easiestOf_83 : decode cX12_easiestOf 83 = .ok (.iload 4, 2) := by decide +kernel
theorem dX12_easiestOf_85 : decode cX12_easiestOf 85 = .ok (.iload_n 2, 1) := by decide +kernel
theorem dX12_easiestOf_86 : decode cX12_easiestOf 86 = .ok (.if_icmp .ne 5, 3) := by decide +kernel
theorem dX12_easiestOf_89 : decode cX12_easiestOf 89 = .ok (.iconst (-1), 1) := by decide +kernel
theorem dX12_easiestOf_90 : decode cX12_easiestOf 90 = .ok (.ireturn, 1) := by decide +kernel
theorem dX12_easiestOf_91 : decode cX12_easiestOf 91 = .ok (.iconst 0, 1) := by decide +kernel
theorem dX12_easiestOf_92 : decode cX12_easiestOf 92 = .ok (.istore 5, 2) := by decide +kernel
theorem dX12_easiestOf_94 : decode cX12_easiestOf 94 = .ok (.aload_n 0, 1) := by decide +kernel
theorem dX12_easiestOf_95 : decode cX12_easiestOf 95 = .ok (.iload 4, 2) := by decide +kernel
theorem dX12_easiestOf_97 : decode cX12_easiestOf 97 = .ok (.iconst 0, 1) := by decide +kernel
theorem dX12_easiestOf_98 : decode cX12_easiestOf 98 = .ok (.invokevirtual 184, 3) := by decide +kernel
theorem dX12_easiestOf_101 : decode cX12_easiestOf 101 = .ok (.istore 7, 2) := by decide +kernel
theorem dX12_easiestOf_103 : decode cX12_easiestOf 103 = .ok (.iload 7, 2) := by decide +kernel
theorem dX12_easiestOf_105 : decode cX12_easiestOf 105 = .ok (.iconst (-1), 1) := by decide +kernel
theorem dX12_easiestOf_106 : decode cX12_easiestOf 106 = .ok (.if_icmp .eq 34, 3) := by decide +kernel
theorem dX12_easiestOf_109 : decode cX12_easiestOf 109 = .ok (.aload_n 0, 1) := by decide +kernel
theorem dX12_easiestOf_110 : decode cX12_easiestOf 110 = .ok (.getfield 52, 3) := by decide +kernel
theorem dX12_easiestOf_113 : decode cX12_easiestOf 113 = .ok (.iload 4, 2) := by decide +kernel
theorem dX12_easiestOf_115 : decode cX12_easiestOf 115 = .ok (.iaload, 1) := by decide +kernel
theorem dX12_easiestOf_116 : decode cX12_easiestOf 116 = .ok (.aload_n 0, 1) := by decide +kernel
theorem dX12_easiestOf_117 : decode cX12_easiestOf 117 = .ok (.getfield 52, 3) := by decide +kernel
theorem dX12_easiestOf_120 : decode cX12_easiestOf 120 = .ok (.iload 7, 2) := by decide +kernel
theorem dX12_easiestOf_122 : decode cX12_easiestOf 122 = .ok (.iaload, 1) := by decide +kernel
theorem dX12_easiestOf_123 : decode cX12_easiestOf 123 = .ok (.sipush 1000, 3) := by decide +kernel
theorem dX12_easiestOf_126 : decode cX12_easiestOf 126 = .ok (.aload_n 0, 1) := by decide +kernel
theorem dX12_easiestOf_127 : decode cX12_easiestOf 127 = .ok (.getfield 28, 3) := by decide +kernel
theorem dX12_easiestOf_130 : decode cX12_easiestOf 130 = .ok (.iload 7, 2) := by decide +kernel
theorem dX12_easiestOf_132 : decode cX12_easiestOf 132 = .ok (.iaload, 1) := by decide +kernel
theorem dX12_easiestOf_133 : decode cX12_easiestOf 133 = .ok (.imul, 1) := by decide +kernel
theorem dX12_easiestOf_134 : decode cX12_easiestOf 134 = .ok (.iadd, 1) := by decide +kernel
theorem dX12_easiestOf_135 : decode cX12_easiestOf 135 = .ok (.iconst 1, 1) := by decide +kernel
theorem dX12_easiestOf_136 : decode cX12_easiestOf 136 = .ok (.iadd, 1) := by decide +kernel
theorem dX12_easiestOf_137 : decode cX12_easiestOf 137 = .ok (.if_icmp .eq 19, 3) := by decide +kernel
theorem dX12_easiestOf_140 : decode cX12_easiestOf 140 = .ok (.iinc 5 1, 3) := by decide +kernel
theorem dX12_easiestOf_143 : decode cX12_easiestOf 143 = .ok (.aload_n 0, 1) := by decide +kernel
theorem dX12_easiestOf_144 : decode cX12_easiestOf 144 = .ok (.iload 4, 2) := by decide +kernel
theorem dX12_easiestOf_146 : decode cX12_easiestOf 146 = .ok (.iload 5, 2) := by decide +kernel
theorem dX12_easiestOf_148 : decode cX12_easiestOf 148 = .ok (.invokevirtual 184, 3) := by decide +kernel
theorem dX12_easiestOf_151 : decode cX12_easiestOf 151 = .ok (.istore 7, 2) := by decide +kernel
theorem dX12_easiestOf_153 : decode cX12_easiestOf 153 = .ok (.goto (-50), 3) := by decide +kernel
theorem dX12_easiestOf_156 : decode cX12_easiestOf 156 = .ok (.iload 7, 2) := by decide +kernel
theorem dX12_easiestOf_158 : decode cX12_easiestOf 158 = .ok (.istore 4, 2) := by decide +kernel
theorem dX12_easiestOf_160 : decode cX12_easiestOf 160 = .ok (.iinc 6 1, 3) := by decide +kernel
theorem dX12_easiestOf_163 : decode cX12_easiestOf 163 = .ok (.goto (-86), 3) := by decide +kernel
theorem dX12_easiestOf_166 : decode cX12_easiestOf 166 = .ok (.iload 5, 2) := by decide +kernel
theorem dX12_easiestOf_168 : decode cX12_easiestOf 168 = .ok (.ireturn, 1) := by decide +kernel
theorem dX12_easiest_0 : decode cX12_easiest 0 = .ok (.aload_n 0, 1) := by decide +kernel
theorem dX12_easiest_1 : decode cX12_easiest 1 = .ok (.invokevirtual 175, 3) := by decide +kernel
theorem dX12_easiest_4 : decode cX12_easiest 4 = .ok (.aload_n 0, 1) := by decide +kernel
theorem dX12_easiest_5 : decode cX12_easiest 5 = .ok (.iload_n 1, 1) := by decide +kernel
theorem dX12_easiest_6 : decode cX12_easiest 6 = .ok (.invokevirtual 178, 3) := by decide +kernel
theorem dX12_easiest_9 : decode cX12_easiest 9 = .ok (.ifCond .eq 27, 3) := by decide +kernel
theorem dX12_easiest_12 : decode cX12_easiest 12 = .ok (.aload_n 0, 1) := by decide +kernel
theorem dX12_easiest_13 : decode cX12_easiest 13 = .ok (.iload_n 2, 1) := by decide +kernel
theorem dX12_easiest_14 : decode cX12_easiest 14 = .ok (.invokevirtual 178, 3) := by decide +kernel
theorem dX12_easiest_17 : decode cX12_easiest 17 = .ok (.ifCond .eq 19, 3) := by decide +kernel
theorem dX12_easiest_20 : decode cX12_easiest 20 = .ok (.iload_n 3, 1) := by decide +kernel
theorem dX12_easiest_21 : decode cX12_easiest 21 = .ok (.bipush (-2), 2) := by decide +kernel
theorem dX12_easiest_23 : decode cX12_easiest 23 = .ok (.if_icmp .lt 13, 3) := by decide +kernel
theorem dX12_easiest_26 : decode cX12_easiest 26 = .ok (.aload_n 0, 1) := by decide +kernel
theorem dX12_easiest_27 : decode cX12_easiest 27 = .ok (.iload_n 1, 1) := by decide +kernel
theorem dX12_easiest_28 : decode cX12_easiest 28 = .ok (.iload_n 2, 1) := by decide +kernel
theorem dX12_easiest_29 : decode cX12_easiest 29 = .ok (.iload_n 3, 1) := by decide +kernel
theorem dX12_easiest_30 : decode cX12_easiest 30 = .ok (.invokevirtual 195, 3) := by decide +kernel
theorem dX12_easiest_33 : decode cX12_easiest 33 = .ok (.goto 5, 3) := by decide +kernel
theorem dX12_easiest_36 : decode cX12_easiest 36 = .ok (.bipush (-2), 2) := by decide +kernel
theorem dX12_easiest_38 : decode cX12_easiest 38 = .ok (.ireturn, 1) := by decide +kernel
theorem dX12_orderOf_0 : decode cX12_orderOf 0 = .ok (.iload_n 1, 1) := by decide +kernel
theorem dX12_orderOf_1 : decode cX12_orderOf 1 = .ok (.aload_n 0, 1) := by decide +kernel
theorem dX12_orderOf_2 : decode cX12_orderOf 2 = .ok (.getfield 132, 3) := by decide +kernel
theorem dX12_orderOf_5 : decode cX12_orderOf 5 = .ok (.if_icmp .ge 12, 3) := by decide +kernel
theorem dX12_orderOf_8 : decode cX12_orderOf 8 = .ok (.aload_n 0, 1) := by decide +kernel
theorem dX12_orderOf_9 : decode cX12_orderOf 9 = .ok (.getfield 31, 3) := by decide +kernel
theorem dX12_orderOf_12 : decode cX12_orderOf 12 = .ok (.iload_n 1, 1) := by decide +kernel
theorem dX12_orderOf_13 : decode cX12_orderOf 13 = .ok (.iaload, 1) := by decide +kernel
theorem dX12_orderOf_14 : decode cX12_orderOf 14 = .ok (.goto 4, 3) := by decide +kernel
theorem dX12_orderOf_17 : decode cX12_orderOf 17 = .ok (.iconst (-1), 1) := by decide +kernel
theorem dX12_orderOf_18 : decode cX12_orderOf 18 = .ok (.ireturn, 1) := by decide +kernel
theorem dX12_order_0 : decode cX12_order 0 = .ok (.aload_n 0, 1) := by decide +kernel
theorem dX12_order_1 : decode cX12_order 1 = .ok (.invokevirtual 175, 3) := by decide +kernel
theorem dX12_order_4 : decode cX12_order 4 = .ok (.iload_n 1, 1) := by decide +kernel
theorem dX12_order_5 : decode cX12_order 5 = .ok (.i2l, 1) := by decide +kernel
theorem dX12_order_6 : decode cX12_order 6 = .ok (.lconst 0, 1) := by decide +kernel
theorem dX12_order_7 : decode cX12_order 7 = .ok (.ldc2_w 135, 3) := by decide +kernel
theorem dX12_order_10 : decode cX12_order 10 = .ok (.invokestatic 82, 3) := by decide +kernel
theorem dX12_order_13 : decode cX12_order 13 = .ok (.ifCond .eq 11, 3) := by decide +kernel
theorem dX12_order_16 : decode cX12_order 16 = .ok (.aload_n 0, 1) := by decide +kernel
theorem dX12_order_17 : decode cX12_order 17 = .ok (.iload_n 1, 1) := by decide +kernel
theorem dX12_order_18 : decode cX12_order 18 = .ok (.invokevirtual 198, 3) := by decide +kernel
theorem dX12_order_21 : decode cX12_order 21 = .ok (.goto 5, 3) := by decide +kernel
theorem dX12_order_24 : decode cX12_order 24 = .ok (.bipush (-2), 2) := by decide +kernel
theorem dX12_order_26 : decode cX12_order 26 = .ok (.ireturn, 1) := by decide +kernel
theorem dX12_gripAt_0 : decode cX12_gripAt 0 = .ok (.aload_n 0, 1) := by decide +kernel
theorem dX12_gripAt_1 : decode cX12_gripAt 1 = .ok (.getfield 40, 3) := by decide +kernel
theorem dX12_gripAt_4 : decode cX12_gripAt 4 = .ok (.iconst 5, 1) := by decide +kernel
theorem dX12_gripAt_5 : decode cX12_gripAt 5 = .ok (.aload_n 0, 1) := by decide +kernel
theorem dX12_gripAt_6 : decode cX12_gripAt 6 = .ok (.getfield 31, 3) := by decide +kernel
theorem dX12_gripAt_9 : decode cX12_gripAt 9 = .ok (.iload_n 1, 1) := by decide +kernel
theorem dX12_gripAt_10 : decode cX12_gripAt 10 = .ok (.iaload, 1) := by decide +kernel
theorem dX12_gripAt_11 : decode cX12_gripAt 11 = .ok (.imul, 1) := by decide +kernel
theorem dX12_gripAt_12 : decode cX12_gripAt 12 = .ok (.aload_n 0, 1) := by decide +kernel
theorem dX12_gripAt_13 : decode cX12_gripAt 13 = .ok (.getfield 31, 3) := by decide +kernel
theorem dX12_gripAt_16 : decode cX12_gripAt 16 = .ok (.iload_n 1, 1) := by decide +kernel
theorem dX12_gripAt_17 : decode cX12_gripAt 17 = .ok (.iconst 1, 1) := by decide +kernel
theorem dX12_gripAt_18 : decode cX12_gripAt 18 = .ok (.iadd, 1) := by decide +kernel
theorem dX12_gripAt_19 : decode cX12_gripAt 19 = .ok (.iaload, 1) := by decide +kernel
theorem dX12_gripAt_20 : decode cX12_gripAt 20 = .ok (.iadd, 1) := by decide +kernel
theorem dX12_gripAt_21 : decode cX12_gripAt 21 = .ok (.iaload, 1) := by decide +kernel
theorem dX12_gripAt_22 : decode cX12_gripAt 22 = .ok (.ireturn, 1) := by decide +kernel
theorem dX12_looseNow_0 : decode cX12_looseNow 0 = .ok (.iconst 0, 1) := by decide +kernel
theorem dX12_looseNow_1 : decode cX12_looseNow 1 = .ok (.istore_n 1, 1) := by decide +kernel
theorem dX12_looseNow_2 : decode cX12_looseNow 2 = .ok (.iconst 0, 1) := by decide +kernel
theorem dX12_looseNow_3 : decode cX12_looseNow 3 = .ok (.istore_n 2, 1) := by decide +kernel
theorem dX12_looseNow_4 : decode cX12_looseNow 4 = .ok (.iload_n 2, 1) := by decide +kernel
theorem dX12_looseNow_5 : decode cX12_looseNow 5 = .ok (.iconst 1, 1) := by decide +kernel
theorem dX12_looseNow_6 : decode cX12_looseNow 6 = .ok (.iadd, 1) := by decide +kernel
theorem dX12_looseNow_7 : decode cX12_looseNow 7 = .ok (.aload_n 0, 1) := by decide +kernel
theorem dX12_looseNow_8 : decode cX12_looseNow 8 = .ok (.getfield 132, 3) := by decide +kernel
theorem dX12_looseNow_11 : decode cX12_looseNow 11 = .ok (.if_icmp .ge 20, 3) := by decide +kernel
theorem dX12_looseNow_14 : decode cX12_looseNow 14 = .ok (.iload_n 1, 1) := by decide +kernel
theorem dX12_looseNow_15 : decode cX12_looseNow 15 = .ok (.bipush 16, 2) := by decide +kernel
theorem dX12_looseNow_17 : decode cX12_looseNow 17 = .ok (.aload_n 0, 1) := by decide +kernel
theorem dX12_looseNow_18 : decode cX12_looseNow 18 = .ok (.iload_n 2, 1) := by decide +kernel
theorem dX12_looseNow_19 : decode cX12_looseNow 19 = .ok (.invokevirtual 201, 3) := by decide +kernel
theorem dX12_looseNow_22 : decode cX12_looseNow 22 = .ok (.isub, 1) := by decide +kernel
theorem dX12_looseNow_23 : decode cX12_looseNow 23 = .ok (.iadd, 1) := by decide +kernel
theorem dX12_looseNow_24 : decode cX12_looseNow 24 = .ok (.istore_n 1, 1) := by decide +kernel
theorem dX12_looseNow_25 : decode cX12_looseNow 25 = .ok (.iinc 2 1, 3) := by decide +kernel
theorem dX12_looseNow_28 : decode cX12_looseNow 28 = .ok (.goto (-24), 3) := by decide +kernel
theorem dX12_looseNow_31 : decode cX12_looseNow 31 = .ok (.iload_n 1, 1) := by decide +kernel
theorem dX12_looseNow_32 : decode cX12_looseNow 32 = .ok (.ireturn, 1) := by decide +kernel
theorem dX12_loose_0 : decode cX12_loose 0 = .ok (.aload_n 0, 1) := by decide +kernel
theorem dX12_loose_1 : decode cX12_loose 1 = .ok (.invokevirtual 175, 3) := by decide +kernel
theorem dX12_loose_4 : decode cX12_loose 4 = .ok (.aload_n 0, 1) := by decide +kernel
theorem dX12_loose_5 : decode cX12_loose 5 = .ok (.invokevirtual 204, 3) := by decide +kernel
theorem dX12_loose_8 : decode cX12_loose 8 = .ok (.ireturn, 1) := by decide +kernel
theorem dX12_riskNow_0 : decode cX12_riskNow 0 = .ok (.iconst 0, 1) := by decide +kernel
theorem dX12_riskNow_1 : decode cX12_riskNow 1 = .ok (.istore_n 1, 1) := by decide +kernel
theorem dX12_riskNow_2 : decode cX12_riskNow 2 = .ok (.iconst 1, 1) := by decide +kernel
theorem dX12_riskNow_3 : decode cX12_riskNow 3 = .ok (.istore_n 2, 1) := by decide +kernel
theorem dX12_riskNow_4 : decode cX12_riskNow 4 = .ok (.iload_n 2, 1) := by decide +kernel
theorem dX12_riskNow_5 : decode cX12_riskNow 5 = .ok (.aload_n 0, 1) := by decide +kernel
theorem dX12_riskNow_6 : decode cX12_riskNow 6 = .ok (.getfield 181, 3) := by decide +kernel
theorem dX12_riskNow_9 : decode cX12_riskNow 9 = .ok (.if_icmp .gt 23, 3) := by decide +kernel
theorem dX12_riskNow_12 : decode cX12_riskNow 12 = .ok (.iload_n 1, 1) := by decide +kernel
theorem dX12_riskNow_13 : decode cX12_riskNow 13 = .ok (.aload_n 0, 1) := by decide +kernel
theorem dX12_riskNow_14 : decode cX12_riskNow 14 = .ok (.getfield 28, 3) := by decide +kernel
theorem dX12_riskNow_17 : decode cX12_riskNow 17 = .ok (.aload_n 0, 1) := by decide +kernel
theorem dX12_riskNow_18 : decode cX12_riskNow 18 = .ok (.getfield 49, 3) := by decide +kernel
theorem dX12_riskNow_21 : decode cX12_riskNow 21 = .ok (.iload_n 2, 1) := by decide +kernel
theorem dX12_riskNow_22 : decode cX12_riskNow 22 = .ok (.iaload, 1) := by decide +kernel
theorem dX12_riskNow_23 : decode cX12_riskNow 23 = .ok (.iaload, 1) := by decide +kernel
theorem dX12_riskNow_24 : decode cX12_riskNow 24 = .ok (.iadd, 1) := by decide +kernel
theorem dX12_riskNow_25 : decode cX12_riskNow 25 = .ok (.istore_n 1, 1) := by decide +kernel
theorem dX12_riskNow_26 : decode cX12_riskNow 26 = .ok (.iinc 2 1, 3) := by decide +kernel
theorem dX12_riskNow_29 : decode cX12_riskNow 29 = .ok (.goto (-25), 3) := by decide +kernel
theorem dX12_riskNow_32 : decode cX12_riskNow 32 = .ok (.iload_n 1, 1) := by decide +kernel
theorem dX12_riskNow_33 : decode cX12_riskNow 33 = .ok (.aload_n 0, 1) := by decide +kernel
theorem dX12_riskNow_34 : decode cX12_riskNow 34 = .ok (.invokevirtual 204, 3) := by decide +kernel
theorem dX12_riskNow_37 : decode cX12_riskNow 37 = .ok (.imul, 1) := by decide +kernel
theorem dX12_riskNow_38 : decode cX12_riskNow 38 = .ok (.ireturn, 1) := by decide +kernel
theorem dX12_risk_0 : decode cX12_risk 0 = .ok (.aload_n 0, 1) := by decide +kernel
theorem dX12_risk_1 : decode cX12_risk 1 = .ok (.invokevirtual 175, 3) := by decide +kernel
theorem dX12_risk_4 : decode cX12_risk 4 = .ok (.aload_n 0, 1) := by decide +kernel
theorem dX12_risk_5 : decode cX12_risk 5 = .ok (.invokevirtual 207, 3) := by decide +kernel
theorem dX12_risk_8 : decode cX12_risk 8 = .ok (.ireturn, 1) := by decide +kernel
theorem dX12_bestOf_0 : decode cX12_bestOf 0 = .ok (.iload_n 1, 1) := by decide +kernel
theorem dX12_bestOf_1 : decode cX12_bestOf 1 = .ok (.invokestatic 210, 3) := by decide +kernel
theorem dX12_bestOf_4 : decode cX12_bestOf 4 = .ok (.istore_n 3, 1) := by decide +kernel
theorem dX12_bestOf_5 : decode cX12_bestOf 5 = .ok (.iconst 1, 1) := by decide +kernel
theorem dX12_bestOf_6 : decode cX12_bestOf 6 = .ok (.istore 4, 2) := by decide +kernel
theorem dX12_bestOf_8 : decode cX12_bestOf 8 = .ok (.iconst 0, 1) := by decide +kernel
theorem dX12_bestOf_9 : decode cX12_bestOf 9 = .ok (.istore 5, 2) := by decide +kernel
theorem dX12_bestOf_11 : decode cX12_bestOf 11 = .ok (.iload 5, 2) := by decide +kernel
theorem dX12_bestOf_13 : decode cX12_bestOf 13 = .ok (.iload_n 3, 1) := by decide +kernel
theorem dX12_bestOf_14 : decode cX12_bestOf 14 = .ok (.if_icmp .ge 15, 3) := by decide +kernel
theorem dX12_bestOf_17 : decode cX12_bestOf 17 = .ok (.iload 4, 2) := by decide +kernel
theorem dX12_bestOf_19 : decode cX12_bestOf 19 = .ok (.iconst 5, 1) := by decide +kernel
theorem dX12_bestOf_20 : decode cX12_bestOf 20 = .ok (.imul, 1) := by decide +kernel
theorem dX12_bestOf_21 : decode cX12_bestOf 21 = .ok (.istore 4, 2) := by decide +kernel
theorem dX12_bestOf_23 : decode cX12_bestOf 23 = .ok (.iinc 5 1, 3) := by decide +kernel
theorem dX12_bestOf_26 : decode cX12_bestOf 26 = .ok (.goto (-15), 3) := by decide +kernel
theorem dX12_bestOf_29 : decode cX12_bestOf 29 = .ok (.iconst (-1), 1) := by decide +kernel
theorem dX12_bestOf_30 : decode cX12_bestOf 30 = .ok (.istore 5, 2) := by decide +kernel
theorem dX12_bestOf_32 : decode cX12_bestOf 32 = .ok (.iconst 0, 1) := by decide +kernel
theorem dX12_bestOf_33 : decode cX12_bestOf 33 = .ok (.istore 6, 2) := by decide +kernel
theorem dX12_bestOf_35 : decode cX12_bestOf 35 = .ok (.iload 6, 2) := by decide +kernel
theorem dX12_bestOf_37 : decode cX12_bestOf 37 = .ok (.iload 4, 2) := by decide +kernel
theorem dX12_bestOf_39 : decode cX12_bestOf 39 = .ok (.if_icmp .ge 172, 3) := by decide +kernel
theorem dX12_bestOf_42 : decode cX12_bestOf 42 = .ok (.iload 6, 2) := by decide +kernel
theorem dX12_bestOf_44 : decode cX12_bestOf 44 = .ok (.istore 7, 2) := by decide +kernel
theorem dX12_bestOf_46 : decode cX12_bestOf 46 = .ok (.iconst 0, 1) := by decide +kernel
theorem dX12_bestOf_47 : decode cX12_bestOf 47 = .ok (.istore 8, 2) := by decide +kernel
theorem dX12_bestOf_49 : decode cX12_bestOf 49 = .ok (.iconst 0, 1) := by decide +kernel
theorem dX12_bestOf_50 : decode cX12_bestOf 50 = .ok (.istore 9, 2) := by decide +kernel
theorem dX12_bestOf_52 : decode cX12_bestOf 52 = .ok (.iload_n 3, 1) := by decide +kernel
theorem dX12_bestOf_53 : decode cX12_bestOf 53 = .ok (.iconst 1, 1) := by decide +kernel
theorem dX12_bestOf_54 : decode cX12_bestOf 54 = .ok (.isub, 1) := by decide +kernel
theorem dX12_bestOf_55 : decode cX12_bestOf 55 = .ok (.istore 10, 2) := by decide +kernel
theorem dX12_bestOf_57 : decode cX12_bestOf 57 = .ok (.iload 10, 2) := by decide +kernel
theorem dX12_bestOf_59 : decode cX12_bestOf 59 = .ok (.ifCond .lt 84, 3) := by decide +kernel
theorem dX12_bestOf_62 : decode cX12_bestOf 62 = .ok (.aload_n 0, 1) := by decide +kernel
theorem dX12_bestOf_63 : decode cX12_bestOf 63 = .ok (.getfield 58, 3) := by decide +kernel
theorem dX12_bestOf_66 : decode cX12_bestOf 66 = .ok (.iload 10, 2) := by decide +kernel
theorem dX12_bestOf_68 : decode cX12_bestOf 68 = .ok (.iload 7, 2) := by decide +kernel
theorem dX12_bestOf_70 : decode cX12_bestOf 70 = .ok (.iconst 5, 1) := by decide +kernel
theorem dX12_bestOf_71 : decode cX12_bestOf 71 = .ok (.irem, 1) := by decide +kernel
theorem dX12_bestOf_72 : decode cX12_bestOf 72 = .ok (.iastore, 1) := by decide +kernel
theorem dX12_bestOf_73 : decode cX12_bestOf 73 = .ok (.iload 7, 2) := by decide +kernel
theorem dX12_bestOf_75 : decode cX12_bestOf 75 = .ok (.iconst 5, 1) := by decide +kernel
theorem dX12_bestOf_76 : decode cX12_bestOf 76 = .ok (.idiv, 1) := by decide +kernel
theorem dX12_bestOf_77 : decode cX12_bestOf 77 = .ok (.istore 7, 2) := by decide +kernel
theorem dX12_bestOf_79 : decode cX12_bestOf 79 = .ok (.iload 8, 2) := by decide +kernel
theorem dX12_bestOf_81 : decode cX12_bestOf 81 = .ok (.iconst 1, 1) := by decide +kernel
theorem dX12_bestOf_82 : decode cX12_bestOf 82 = .ok (.aload_n 0, 1) := by decide +kernel
theorem dX12_bestOf_83 : decode cX12_bestOf 83 = .ok (.getfield 58, 3) := by decide +kernel
theorem dX12_bestOf_86 : decode cX12_bestOf 86 = .ok (.iload 10, 2) := by decide +kernel
theorem dX12_bestOf_88 : decode cX12_bestOf 88 = .ok (.iaload, 1) := by decide +kernel
theorem dX12_bestOf_89 : decode cX12_bestOf 89 = .ok (.ishl, 1) := by decide +kernel
theorem dX12_bestOf_90 : decode cX12_bestOf 90 = .ok (.ior, 1) := by decide +kernel
theorem dX12_bestOf_91 : decode cX12_bestOf 91 = .ok (.istore 8, 2) := by decide +kernel
theorem dX12_bestOf_93 : decode cX12_bestOf 93 = .ok (.iload 9, 2) := by decide +kernel
theorem dX12_bestOf_95 : decode cX12_bestOf 95 = .ok (.iload 10, 2) := by decide +kernel
theorem dX12_bestOf_97 : decode cX12_bestOf 97 = .ok (.iload_n 3, 1) := by decide +kernel
theorem dX12_bestOf_98 : decode cX12_bestOf 98 = .ok (.iconst 1, 1) := by decide +kernel
theorem dX12_bestOf_99 : decode cX12_bestOf 99 = .ok (.isub, 1) := by decide +kernel
theorem dX12_bestOf_100 : decode cX12_bestOf 100 = .ok (.if_icmp .ge 33, 3) := by decide +kernel
theorem dX12_bestOf_103 : decode cX12_bestOf 103 = .ok (.bipush 16, 2) := by decide +kernel
theorem dX12_bestOf_105 : decode cX12_bestOf 105 = .ok (.aload_n 0, 1) := by decide +kernel
theorem dX12_bestOf_106 : decode cX12_bestOf 106 = .ok (.getfield 40, 3) := by decide +kernel
theorem dX12_bestOf_109 : decode cX12_bestOf 109 = .ok (.iconst 5, 1) := by decide +kernel
theorem dX12_bestOf_110 : decode cX12_bestOf 110 = .ok (.aload_n 0, 1) := by decide +kernel
theorem dX12_bestOf_111 : decode cX12_bestOf 111 = .ok (.getfield 58, 3) := by decide +kernel
theorem dX12_bestOf_114 : decode cX12_bestOf 114 = .ok (.iload 10, 2) := by decide +kernel
theorem dX12_bestOf_116 : decode cX12_bestOf 116 = .ok (.iaload, 1) := by decide +kernel
theorem dX12_bestOf_117 : decode cX12_bestOf 117 = .ok (.imul, 1) := by decide +kernel
theorem dX12_bestOf_118 : decode cX12_bestOf 118 = .ok (.aload_n 0, 1) := by decide +kernel
theorem dX12_bestOf_119 : decode cX12_bestOf 119 = .ok (.getfield 58, 3) := by decide +kernel
theorem dX12_bestOf_122 : decode cX12_bestOf 122 = .ok (.iload 10, 2) := by decide +kernel
theorem dX12_bestOf_124 : decode cX12_bestOf 124 = .ok (.iconst 1, 1) := by decide +kernel
theorem dX12_bestOf_125 : decode cX12_bestOf 125 = .ok (.iadd, 1) := by decide +kernel
theorem dX12_bestOf_126 : decode cX12_bestOf 126 = .ok (.iaload, 1) := by decide +kernel
theorem dX12_bestOf_127 : decode cX12_bestOf 127 = .ok (.iadd, 1) := by decide +kernel
theorem dX12_bestOf_128 : decode cX12_bestOf 128 = .ok (.iaload, 1) := by decide +kernel
theorem dX12_bestOf_129 : decode cX12_bestOf 129 = .ok (.isub, 1) := by decide +kernel
theorem dX12_bestOf_130 : decode cX12_bestOf 130 = .ok (.goto 4, 3) := by decide +kernel
theorem dX12_bestOf_133 : decode cX12_bestOf 133 = .ok (.iconst 0, 1) := by decide +kernel
theorem dX12_bestOf_134 : decode cX12_bestOf 134 = .ok (.iadd, 1) := by decide +kernel
theorem dX12_bestOf_135 : decode cX12_bestOf 135 = .ok (.istore 9, 2) := by decide +kernel
theorem dX12_bestOf_137 : decode cX12_bestOf 137 = .ok (.iinc 10 (-1), 3) := by decide +kernel
theorem dX12_bestOf_140 : decode cX12_bestOf 140 = .ok (.goto (-83), 3) := by decide +kernel
theorem dX12_bestOf_143 : decode cX12_bestOf 143 = .ok (.iload 8, 2) := by decide +kernel
theorem dX12_bestOf_145 : decode cX12_bestOf 145 = .ok (.iload_n 1, 1) := by decide +kernel
theorem dX12_bestOf_146 : decode cX12_bestOf 146 = .ok (.if_icmp .ne 59, 3) := by decide +kernel
theorem dX12_bestOf_149 : decode cX12_bestOf 149 = .ok (.iload 5, 2) := by decide +kernel
theorem dX12_bestOf_151 : decode cX12_bestOf 151 = .ok (.iconst (-1), 1) := by decide +kernel
theorem dX12_bestOf_152 : decode cX12_bestOf 152 = .ok (.if_icmp .eq 10, 3) := by decide +kernel
theorem dX12_bestOf_155 : decode cX12_bestOf 155 = .ok (.iload 9, 2) := by decide +kernel
theorem dX12_bestOf_157 : decode cX12_bestOf 157 = .ok (.iload 5, 2) := by decide +kernel
theorem dX12_bestOf_159 : decode cX12_bestOf 159 = .ok (.if_icmp .ge 46, 3) := by decide +kernel
theorem dX12_bestOf_162 : decode cX12_bestOf 162 = .ok (.iload 9, 2) := by decide +kernel
theorem dX12_bestOf_164 : decode cX12_bestOf 164 = .ok (.istore 5, 2) := by decide +kernel
theorem dX12_bestOf_166 : decode cX12_bestOf 166 = .ok (.iconst 0, 1) := by decide +kernel
theorem dX12_bestOf_167 : decode cX12_bestOf 167 = .ok (.istore 10, 2) := by decide +kernel
theorem dX12_bestOf_169 : decode cX12_bestOf 169 = .ok (.iload 10, 2) := by decide +kernel
theorem dX12_bestOf_171 : decode cX12_bestOf 171 = .ok (.iconst 5, 1) := by decide +kernel
theorem dX12_bestOf_172 : decode cX12_bestOf 172 = .ok (.if_icmp .ge 33, 3) := by decide +kernel
theorem dX12_bestOf_175 : decode cX12_bestOf 175 = .ok (.aload_n 0, 1) := by decide +kernel
theorem dX12_bestOf_176 : decode cX12_bestOf 176 = .ok (.getfield 55, 3) := by decide +kernel
theorem dX12_bestOf_179 : decode cX12_bestOf 179 = .ok (.iload 10, 2) := by decide +kernel
theorem dX12_bestOf_181 : decode cX12_bestOf 181 = .ok (.iload 10, 2) := by decide +kernel
theorem dX12_bestOf_183 : decode cX12_bestOf 183 = .ok (.iload_n 3, 1) := by decide +kernel
theorem dX12_bestOf_184 : decode cX12_bestOf 184 = .ok (.if_icmp .ge 13, 3) := by decide +kernel
theorem dX12_bestOf_187 : decode cX12_bestOf 187 = .ok (.aload_n 0, 1) := by decide +kernel
theorem dX12_bestOf_188 : decode cX12_bestOf 188 = .ok (.getfield 58, 3) := by decide +kernel
theorem dX12_bestOf_191 : decode cX12_bestOf 191 = .ok (.iload 10, 2) := by decide +kernel
theorem dX12_bestOf_193 : decode cX12_bestOf 193 = .ok (.iaload, 1) := by decide +kernel
theorem dX12_bestOf_194 : decode cX12_bestOf 194 = .ok (.goto 4, 3) := by decide +kernel
theorem dX12_bestOf_197 : decode cX12_bestOf 197 = .ok (.iconst (-1), 1) := by decide +kernel
theorem dX12_bestOf_198 : decode cX12_bestOf 198 = .ok (.iastore, 1) := by decide +kernel
theorem dX12_bestOf_199 : decode cX12_bestOf 199 = .ok (.iinc 10 1, 3) := by decide +kernel
theorem dX12_bestOf_202 : decode cX12_bestOf 202 = .ok (.goto (-33), 3) := by decide +kernel
theorem dX12_bestOf_205 : decode cX12_bestOf 205 = .ok (.iinc 6 1, 3) := by decide +kernel
theorem dX12_bestOf_208 : decode cX12_bestOf 208 = .ok (.goto (-173), 3) := by decide +kernel
theorem dX12_bestOf_211 : decode cX12_bestOf 211 = .ok (.iload_n 2, 1) := by decide +kernel
theorem dX12_bestOf_212 : decode cX12_bestOf 212 = .ok (.iconst (-1), 1) := by decide +kernel
theorem dX12_bestOf_213 : decode cX12_bestOf 213 = .ok (.if_icmp .ne 8, 3) := by decide +kernel
theorem dX12_bestOf_216 : decode cX12_bestOf 216 = .ok (.iload 5, 2) := by decide +kernel
theorem dX12_bestOf_218 : decode cX12_bestOf 218 = .ok (.goto 9, 3) := by decide +kernel
theorem dX12_bestOf_221 : decode cX12_bestOf 221 = .ok (.aload_n 0, 1) := by decide +kernel
theorem dX12_bestOf_222 : decode cX12_bestOf 222 = .ok (.getfield 55, 3) := by decide +kernel
theorem dX12_bestOf_225 : decode cX12_bestOf 225 = .ok (.iload_n 2, 1) := by decide +kernel
theorem dX12_bestOf_226 : decode cX12_bestOf 226 = .ok (.iaload, 1) := by decide +kernel
theorem dX12_bestOf_227 : decode cX12_bestOf 227 = .ok (.ireturn, 1) := by decide +kernel
theorem dX12_best_0 : decode cX12_best 0 = .ok (.iload_n 1, 1) := by decide +kernel
theorem dX12_best_1 : decode cX12_best 1 = .ok (.i2l, 1) := by decide +kernel
theorem dX12_best_2 : decode cX12_best 2 = .ok (.lconst 0, 1) := by decide +kernel
theorem dX12_best_3 : decode cX12_best 3 = .ok (.ldc2_w 213, 3) := by decide +kernel
theorem dX12_best_6 : decode cX12_best 6 = .ok (.invokestatic 82, 3) := by decide +kernel
theorem dX12_best_9 : decode cX12_best 9 = .ok (.ifCond .eq 34, 3) := by decide +kernel
theorem dX12_best_12 : decode cX12_best 12 = .ok (.iload_n 1, 1) := by decide +kernel
theorem dX12_best_13 : decode cX12_best 13 = .ok (.invokestatic 210, 3) := by decide +kernel
theorem dX12_best_16 : decode cX12_best 16 = .ok (.iconst 1, 1) := by decide +kernel
theorem dX12_best_17 : decode cX12_best 17 = .ok (.if_icmp .le 26, 3) := by decide +kernel
theorem dX12_best_20 : decode cX12_best 20 = .ok (.iload_n 2, 1) := by decide +kernel
theorem dX12_best_21 : decode cX12_best 21 = .ok (.i2l, 1) := by decide +kernel
theorem dX12_best_22 : decode cX12_best 22 = .ok (.ldc2_w 215, 3) := by decide +kernel
theorem dX12_best_25 : decode cX12_best 25 = .ok (.ldc2_w 135, 3) := by decide +kernel
theorem dX12_best_28 : decode cX12_best 28 = .ok (.invokestatic 82, 3) := by decide +kernel
theorem dX12_best_31 : decode cX12_best 31 = .ok (.ifCond .eq 12, 3) := by decide +kernel
theorem dX12_best_34 : decode cX12_best 34 = .ok (.aload_n 0, 1) := by decide +kernel
theorem dX12_best_35 : decode cX12_best 35 = .ok (.iload_n 1, 1) := by decide +kernel
theorem dX12_best_36 : decode cX12_best 36 = .ok (.iload_n 2, 1) := by decide +kernel
theorem dX12_best_37 : decode cX12_best 37 = .ok (.invokevirtual 217, 3) := by decide +kernel
theorem dX12_best_40 : decode cX12_best 40 = .ok (.goto 5, 3) := by decide +kernel
theorem dX12_best_43 : decode cX12_best 43 = .ok (.bipush (-2), 2) := by decide +kernel
theorem dX12_best_45 : decode cX12_best 45 = .ok (.ireturn, 1) := by decide +kernel
theorem dX12_part_0 : decode cX12_part 0 = .ok (.lload_n 0, 1) := by decide +kernel
theorem dX12_part_1 : decode cX12_part 1 = .ok (.lstore 5, 2) := by decide +kernel
theorem dX12_part_3 : decode cX12_part 3 = .ok (.lload_n 2, 1) := by decide +kernel
theorem dX12_part_4 : decode cX12_part 4 = .ok (.lstore 7, 2) := by decide +kernel
theorem dX12_part_6 : decode cX12_part 6 = .ok (.lload 7, 2) := by decide +kernel
theorem dX12_part_8 : decode cX12_part 8 = .ok (.lconst 0, 1) := by decide +kernel
theorem dX12_part_9 : decode cX12_part 9 = .ok (.lcmp, 1) := by decide +kernel
theorem dX12_part_10 : decode cX12_part 10 = .ok (.ifCond .eq 21, 3) := by decide +kernel
theorem dX12_part_13 : decode cX12_part 13 = .ok (.lload 5, 2) := by decide +kernel
theorem dX12_part_15 : decode cX12_part 15 = .ok (.lload 7, 2) := by decide +kernel
theorem dX12_part_17 : decode cX12_part 17 = .ok (.lrem, 1) := by decide +kernel
theorem dX12_part_18 : decode cX12_part 18 = .ok (.lstore 9, 2) := by decide +kernel
theorem dX12_part_20 : decode cX12_part 20 = .ok (.lload 7, 2) := by decide +kernel
theorem dX12_part_22 : decode cX12_part 22 = .ok (.lstore 5, 2) := by decide +kernel
theorem dX12_part_24 : decode cX12_part 24 = .ok (.lload 9, 2) := by decide +kernel
theorem dX12_part_26 : decode cX12_part 26 = .ok (.lstore 7, 2) := by decide +kernel
theorem dX12_part_28 : decode cX12_part 28 = .ok (.goto (-22), 3) := by decide +kernel
theorem dX12_part_31 : decode cX12_part 31 = .ok (.iload 4, 2) := by decide +kernel
theorem dX12_part_33 : decode cX12_part 33 = .ok (.ifCond .ne 7, 3) := by decide +kernel
theorem dX12_part_36 : decode cX12_part 36 = .ok (.lload_n 0, 1) := by decide +kernel
theorem dX12_part_37 : decode cX12_part 37 = .ok (.goto 4, 3) := by decide +kernel
theorem dX12_part_40 : decode cX12_part 40 = .ok (.lload_n 2, 1) := by decide +kernel
theorem dX12_part_41 : decode cX12_part 41 = .ok (.lload 5, 2) := by decide +kernel
theorem dX12_part_43 : decode cX12_part 43 = .ok (.ldiv, 1) := by decide +kernel
theorem dX12_part_44 : decode cX12_part 44 = .ok (.lreturn, 1) := by decide +kernel
theorem dX12_holdsOf_0 : decode cX12_holdsOf 0 = .ok (.lconst 1, 1) := by decide +kernel
theorem dX12_holdsOf_1 : decode cX12_holdsOf 1 = .ok (.lstore 5, 2) := by decide +kernel
theorem dX12_holdsOf_3 : decode cX12_holdsOf 3 = .ok (.lconst 1, 1) := by decide +kernel
theorem dX12_holdsOf_4 : decode cX12_holdsOf 4 = .ok (.lstore 7, 2) := by decide +kernel
theorem dX12_holdsOf_6 : decode cX12_holdsOf 6 = .ok (.iload_n 2, 1) := by decide +kernel
theorem dX12_holdsOf_7 : decode cX12_holdsOf 7 = .ok (.istore 9, 2) := by decide +kernel
theorem dX12_holdsOf_9 : decode cX12_holdsOf 9 = .ok (.iload 9, 2) := by decide +kernel
theorem dX12_holdsOf_11 : decode cX12_holdsOf 11 = .ok (.iload_n 2, 1) := by decide +kernel
theorem dX12_holdsOf_12 : decode cX12_holdsOf 12 = .ok (.iload_n 3, 1) := by decide +kernel
theorem dX12_holdsOf_13 : decode cX12_holdsOf 13 = .ok (.iadd, 1) := by decide +kernel
theorem dX12_holdsOf_14 : decode cX12_holdsOf 14 = .ok (.if_icmp .ge 50, 3) := by decide +kernel
theorem dX12_holdsOf_17 : decode cX12_holdsOf 17 = .ok (.lload 5, 2) := by decide +kernel
theorem dX12_holdsOf_19 : decode cX12_holdsOf 19 = .ok (.sipush 256, 3) := by decide +kernel
theorem dX12_holdsOf_22 : decode cX12_holdsOf 22 = .ok (.aload_n 0, 1) := by decide +kernel
theorem dX12_holdsOf_23 : decode cX12_holdsOf 23 = .ok (.getfield 28, 3) := by decide +kernel
theorem dX12_holdsOf_26 : decode cX12_holdsOf 26 = .ok (.aload_n 0, 1) := by decide +kernel
theorem dX12_holdsOf_27 : decode cX12_holdsOf 27 = .ok (.getfield 49, 3) := by decide +kernel
theorem dX12_holdsOf_30 : decode cX12_holdsOf 30 = .ok (.iload 9, 2) := by decide +kernel
theorem dX12_holdsOf_32 : decode cX12_holdsOf 32 = .ok (.iconst 1, 1) := by decide +kernel
theorem dX12_holdsOf_33 : decode cX12_holdsOf 33 = .ok (.iadd, 1) := by decide +kernel
theorem dX12_holdsOf_34 : decode cX12_holdsOf 34 = .ok (.iaload, 1) := by decide +kernel
theorem dX12_holdsOf_35 : decode cX12_holdsOf 35 = .ok (.iaload, 1) := by decide +kernel
theorem dX12_holdsOf_36 : decode cX12_holdsOf 36 = .ok (.bipush 16, 2) := by decide +kernel
theorem dX12_holdsOf_38 : decode cX12_holdsOf 38 = .ok (.aload_n 0, 1) := by decide +kernel
theorem dX12_holdsOf_39 : decode cX12_holdsOf 39 = .ok (.iload_n 1, 1) := by decide +kernel
theorem dX12_holdsOf_40 : decode cX12_holdsOf 40 = .ok (.invokevirtual 201, 3) := by decide +kernel
theorem dX12_holdsOf_43 : decode cX12_holdsOf 43 = .ok (.isub, 1) := by decide +kernel
theorem dX12_holdsOf_44 : decode cX12_holdsOf 44 = .ok (.imul, 1) := by decide +kernel
theorem dX12_holdsOf_45 : decode cX12_holdsOf 45 = .ok (.isub, 1) := by decide +kernel
theorem dX12_holdsOf_46 : decode cX12_holdsOf 46 = .ok (.i2l, 1) := by decide +kernel
theorem dX12_holdsOf_47 : decode cX12_holdsOf 47 = .ok (.lmul, 1) := by decide +kernel
theorem dX12_holdsOf_48 : decode cX12_holdsOf 48 = .ok (.lstore 5, 2) := by decide +kernel
theorem dX12_holdsOf_50 : decode cX12_holdsOf 50 = .ok (.lload 7, 2) := by decide +kernel
theorem dX12_holdsOf_52 : decode cX12_holdsOf 52 = .ok (.ldc2_w 220, 3) := by decide +kernel
theorem dX12_holdsOf_55 : decode cX12_holdsOf 55 = .ok (.lmul, 1) := by decide +kernel
theorem dX12_holdsOf_56 : decode cX12_holdsOf 56 = .ok (.lstore 7, 2) := by decide +kernel
theorem dX12_holdsOf_58 : decode cX12_holdsOf 58 = .ok (.iinc 9 1, 3) := by decide +kernel
theorem dX12_holdsOf_61 : decode cX12_holdsOf 61 = .ok (.goto (-52), 3) := by decide +kernel
theorem dX12_holdsOf_64 : decode cX12_holdsOf 64 = .ok (.lload 5, 2) := by decide +kernel
theorem dX12_holdsOf_66 : decode cX12_holdsOf 66 = .ok (.lload 7, 2) := by decide +kernel
theorem dX12_holdsOf_68 : decode cX12_holdsOf 68 = .ok (.iload 4, 2) := by decide +kernel
theorem dX12_holdsOf_70 : decode cX12_holdsOf 70 = .ok (.invokestatic 222, 3) := by decide +kernel
theorem dX12_holdsOf_73 : decode cX12_holdsOf 73 = .ok (.lreturn, 1) := by decide +kernel
theorem dX12_holds_0 : decode cX12_holds 0 = .ok (.aload_n 0, 1) := by decide +kernel
theorem dX12_holds_1 : decode cX12_holds 1 = .ok (.invokevirtual 175, 3) := by decide +kernel
theorem dX12_holds_4 : decode cX12_holds 4 = .ok (.iload_n 1, 1) := by decide +kernel
theorem dX12_holds_5 : decode cX12_holds 5 = .ok (.i2l, 1) := by decide +kernel
theorem dX12_holds_6 : decode cX12_holds 6 = .ok (.lconst 0, 1) := by decide +kernel
theorem dX12_holds_7 : decode cX12_holds 7 = .ok (.aload_n 0, 1) := by decide +kernel
theorem dX12_holds_8 : decode cX12_holds 8 = .ok (.getfield 132, 3) := by decide +kernel
theorem dX12_holds_11 : decode cX12_holds 11 = .ok (.iconst 2, 1) := by decide +kernel
theorem dX12_holds_12 : decode cX12_holds 12 = .ok (.isub, 1) := by decide +kernel
theorem dX12_holds_13 : decode cX12_holds 13 = .ok (.i2l, 1) := by decide +kernel
theorem dX12_holds_14 : decode cX12_holds 14 = .ok (.invokestatic 82, 3) := by decide +kernel
theorem dX12_holds_17 : decode cX12_holds 17 = .ok (.ifCond .eq 37, 3) := by decide +kernel
theorem dX12_holds_20 : decode cX12_holds 20 = .ok (.iload_n 2, 1) := by decide +kernel
theorem dX12_holds_21 : decode cX12_holds 21 = .ok (.ifCond .lt 33, 3) := by decide +kernel
theorem dX12_holds_24 : decode cX12_holds 24 = .ok (.iload_n 3, 1) := by decide +kernel
theorem dX12_holds_25 : decode cX12_holds 25 = .ok (.i2l, 1) := by decide +kernel
theorem dX12_holds_26 : decode cX12_holds 26 = .ok (.lconst 0, 1) := by decide +kernel
theorem dX12_holds_27 : decode cX12_holds 27 = .ok (.ldc2_w 226, 3) := by decide +kernel
theorem dX12_holds_30 : decode cX12_holds 30 = .ok (.invokestatic 82, 3) := by decide +kernel
theorem dX12_holds_33 : decode cX12_holds 33 = .ok (.ifCond .eq 21, 3) := by decide +kernel
theorem dX12_holds_36 : decode cX12_holds 36 = .ok (.iload_n 2, 1) := by decide +kernel
theorem dX12_holds_37 : decode cX12_holds 37 = .ok (.i2l, 1) := by decide +kernel
theorem dX12_holds_38 : decode cX12_holds 38 = .ok (.iload_n 3, 1) := by decide +kernel
theorem dX12_holds_39 : decode cX12_holds 39 = .ok (.i2l, 1) := by decide +kernel
theorem dX12_holds_40 : decode cX12_holds 40 = .ok (.ladd, 1) := by decide +kernel
theorem dX12_holds_41 : decode cX12_holds 41 = .ok (.aload_n 0, 1) := by decide +kernel
theorem dX12_holds_42 : decode cX12_holds 42 = .ok (.getfield 181, 3) := by decide +kernel
theorem dX12_holds_45 : decode cX12_holds 45 = .ok (.i2l, 1) := by decide +kernel
theorem dX12_holds_46 : decode cX12_holds 46 = .ok (.lcmp, 1) := by decide +kernel
theorem dX12_holds_47 : decode cX12_holds 47 = .ok (.ifCond .gt 7, 3) := by decide +kernel
theorem dX12_holds_50 : decode cX12_holds 50 = .ok (.iconst 1, 1) := by decide +kernel
theorem dX12_holds_51 : decode cX12_holds 51 = .ok (.goto 4, 3) := by decide +kernel
theorem dX12_holds_54 : decode cX12_holds 54 = .ok (.iconst 0, 1) := by decide +kernel
theorem dX12_holds_55 : decode cX12_holds 55 = .ok (.istore 5, 2) := by decide +kernel
theorem dX12_holds_57 : decode cX12_holds 57 = .ok (.iload 5, 2) := by decide +kernel
theorem dX12_holds_59 : decode cX12_holds 59 = .ok (.ifCond .eq 23, 3) := by decide +kernel
theorem dX12_holds_62 : decode cX12_holds 62 = .ok (.iload 4, 2) := by decide +kernel
theorem dX12_holds_64 : decode cX12_holds 64 = .ok (.invokestatic 167, 3) := by decide +kernel
theorem dX12_holds_67 : decode cX12_holds 67 = .ok (.ifCond .eq 15, 3) := by decide +kernel
theorem dX12_holds_70 : decode cX12_holds 70 = .ok (.aload_n 0, 1) := by decide +kernel
theorem dX12_holds_71 : decode cX12_holds 71 = .ok (.iload_n 1, 1) := by decide +kernel
theorem dX12_holds_72 : decode cX12_holds 72 = .ok (.iload_n 2, 1) := by decide +kernel
theorem dX12_holds_73 : decode cX12_holds 73 = .ok (.iload_n 3, 1) := by decide +kernel
theorem dX12_holds_74 : decode cX12_holds 74 = .ok (.iload 4, 2) := by decide +kernel
theorem dX12_holds_76 : decode cX12_holds 76 = .ok (.invokevirtual 228, 3) := by decide +kernel
theorem dX12_holds_79 : decode cX12_holds 79 = .ok (.goto 8, 3) := by decide +kernel
theorem dX12_holds_82 : decode cX12_holds 82 = .ok (.bipush (-2), 2) := by decide +kernel
theorem dX12_holds_84 : decode cX12_holds 84 = .ok (.invokestatic 232, 3) := by decide +kernel
theorem dX12_holds_87 : decode cX12_holds 87 = .ok (.lreturn, 1) := by decide +kernel
theorem dX12_alikeOf_0 : decode cX12_alikeOf 0 = .ok (.lconst 1, 1) := by decide +kernel
theorem dX12_alikeOf_1 : decode cX12_alikeOf 1 = .ok (.lstore_n 2, 1) := by decide +kernel
theorem dX12_alikeOf_2 : decode cX12_alikeOf 2 = .ok (.lconst 1, 1) := by decide +kernel
theorem dX12_alikeOf_3 : decode cX12_alikeOf 3 = .ok (.lstore 4, 2) := by decide +kernel
theorem dX12_alikeOf_5 : decode cX12_alikeOf 5 = .ok (.lconst 1, 1) := by decide +kernel
theorem dX12_alikeOf_6 : decode cX12_alikeOf 6 = .ok (.lstore 6, 2) := by decide +kernel
theorem dX12_alikeOf_8 : decode cX12_alikeOf 8 = .ok (.iconst 0, 1) := by decide +kernel
theorem dX12_alikeOf_9 : decode cX12_alikeOf 9 = .ok (.istore 8, 2) := by decide +kernel
theorem dX12_alikeOf_11 : decode cX12_alikeOf 11 = .ok (.iload 8, 2) := by decide +kernel
theorem dX12_alikeOf_13 : decode cX12_alikeOf 13 = .ok (.aload_n 0, 1) := by decide +kernel
theorem dX12_alikeOf_14 : decode cX12_alikeOf 14 = .ok (.getfield 132, 3) := by decide +kernel
theorem dX12_alikeOf_17 : decode cX12_alikeOf 17 = .ok (.if_icmp .ge 54, 3) := by decide +kernel
theorem dX12_alikeOf_20 : decode cX12_alikeOf 20 = .ok (.lload_n 2, 1) := by decide +kernel
theorem dX12_alikeOf_21 : decode cX12_alikeOf 21 = .ok (.aload_n 0, 1) := by decide +kernel
theorem dX12_alikeOf_22 : decode cX12_alikeOf 22 = .ok (.getfield 43, 3) := by decide +kernel
theorem dX12_alikeOf_25 : decode cX12_alikeOf 25 = .ok (.aload_n 0, 1) := by decide +kernel
theorem dX12_alikeOf_26 : decode cX12_alikeOf 26 = .ok (.getfield 31, 3) := by decide +kernel
theorem dX12_alikeOf_29 : decode cX12_alikeOf 29 = .ok (.iload 8, 2) := by decide +kernel
theorem dX12_alikeOf_31 : decode cX12_alikeOf 31 = .ok (.iaload, 1) := by decide +kernel
theorem dX12_alikeOf_32 : decode cX12_alikeOf 32 = .ok (.iaload, 1) := by decide +kernel
theorem dX12_alikeOf_33 : decode cX12_alikeOf 33 = .ok (.i2l, 1) := by decide +kernel
theorem dX12_alikeOf_34 : decode cX12_alikeOf 34 = .ok (.lmul, 1) := by decide +kernel
theorem dX12_alikeOf_35 : decode cX12_alikeOf 35 = .ok (.lstore_n 2, 1) := by decide +kernel
theorem dX12_alikeOf_36 : decode cX12_alikeOf 36 = .ok (.lload 4, 2) := by decide +kernel
theorem dX12_alikeOf_38 : decode cX12_alikeOf 38 = .ok (.bipush 16, 2) := by decide +kernel
theorem dX12_alikeOf_40 : decode cX12_alikeOf 40 = .ok (.aload_n 0, 1) := by decide +kernel
theorem dX12_alikeOf_41 : decode cX12_alikeOf 41 = .ok (.getfield 43, 3) := by decide +kernel
theorem dX12_alikeOf_44 : decode cX12_alikeOf 44 = .ok (.aload_n 0, 1) := by decide +kernel
theorem dX12_alikeOf_45 : decode cX12_alikeOf 45 = .ok (.getfield 31, 3) := by decide +kernel
theorem dX12_alikeOf_48 : decode cX12_alikeOf 48 = .ok (.iload 8, 2) := by decide +kernel
theorem dX12_alikeOf_50 : decode cX12_alikeOf 50 = .ok (.iaload, 1) := by decide +kernel
theorem dX12_alikeOf_51 : decode cX12_alikeOf 51 = .ok (.iaload, 1) := by decide +kernel
theorem dX12_alikeOf_52 : decode cX12_alikeOf 52 = .ok (.isub, 1) := by decide +kernel
theorem dX12_alikeOf_53 : decode cX12_alikeOf 53 = .ok (.i2l, 1) := by decide +kernel
theorem dX12_alikeOf_54 : decode cX12_alikeOf 54 = .ok (.lmul, 1) := by decide +kernel
theorem dX12_alikeOf_55 : decode cX12_alikeOf 55 = .ok (.lstore 4, 2) := by decide +kernel
theorem dX12_alikeOf_57 : decode cX12_alikeOf 57 = .ok (.lload 6, 2) := by decide +kernel
theorem dX12_alikeOf_59 : decode cX12_alikeOf 59 = .ok (.ldc2_w 165, 3) := by decide +kernel
theorem dX12_alikeOf_62 : decode cX12_alikeOf 62 = .ok (.lmul, 1) := by decide +kernel
theorem dX12_alikeOf_63 : decode cX12_alikeOf 63 = .ok (.lstore 6, 2) := by decide +kernel
theorem dX12_alikeOf_65 : decode cX12_alikeOf 65 = .ok (.iinc 8 1, 3) := by decide +kernel
theorem dX12_alikeOf_68 : decode cX12_alikeOf 68 = .ok (.goto (-57), 3) := by decide +kernel
theorem dX12_alikeOf_71 : decode cX12_alikeOf 71 = .ok (.aload_n 0, 1) := by decide +kernel
theorem dX12_alikeOf_72 : decode cX12_alikeOf 72 = .ok (.getfield 132, 3) := by decide +kernel
theorem dX12_alikeOf_75 : decode cX12_alikeOf 75 = .ok (.ifCond .ne 7, 3) := by decide +kernel
theorem dX12_alikeOf_78 : decode cX12_alikeOf 78 = .ok (.lconst 1, 1) := by decide +kernel
theorem dX12_alikeOf_79 : decode cX12_alikeOf 79 = .ok (.goto 13, 3) := by decide +kernel
theorem dX12_alikeOf_82 : decode cX12_alikeOf 82 = .ok (.lload_n 2, 1) := by decide +kernel
theorem dX12_alikeOf_83 : decode cX12_alikeOf 83 = .ok (.lload 4, 2) := by decide +kernel
theorem dX12_alikeOf_85 : decode cX12_alikeOf 85 = .ok (.ladd, 1) := by decide +kernel
theorem dX12_alikeOf_86 : decode cX12_alikeOf 86 = .ok (.lload 6, 2) := by decide +kernel
theorem dX12_alikeOf_88 : decode cX12_alikeOf 88 = .ok (.iload_n 1, 1) := by decide +kernel
theorem dX12_alikeOf_89 : decode cX12_alikeOf 89 = .ok (.invokestatic 222, 3) := by decide +kernel
theorem dX12_alikeOf_92 : decode cX12_alikeOf 92 = .ok (.lreturn, 1) := by decide +kernel
theorem dX12_alike_0 : decode cX12_alike 0 = .ok (.aload_n 0, 1) := by decide +kernel
theorem dX12_alike_1 : decode cX12_alike 1 = .ok (.invokevirtual 175, 3) := by decide +kernel
theorem dX12_alike_4 : decode cX12_alike 4 = .ok (.iload_n 1, 1) := by decide +kernel
theorem dX12_alike_5 : decode cX12_alike 5 = .ok (.invokestatic 167, 3) := by decide +kernel
theorem dX12_alike_8 : decode cX12_alike 8 = .ok (.ifCond .eq 11, 3) := by decide +kernel
theorem dX12_alike_11 : decode cX12_alike 11 = .ok (.aload_n 0, 1) := by decide +kernel
theorem dX12_alike_12 : decode cX12_alike 12 = .ok (.iload_n 1, 1) := by decide +kernel
theorem dX12_alike_13 : decode cX12_alike 13 = .ok (.invokevirtual 236, 3) := by decide +kernel
theorem dX12_alike_16 : decode cX12_alike 16 = .ok (.goto 8, 3) := by decide +kernel
theorem dX12_alike_19 : decode cX12_alike 19 = .ok (.bipush (-2), 2) := by decide +kernel
theorem dX12_alike_21 : decode cX12_alike 21 = .ok (.invokestatic 232, 3) := by decide +kernel
theorem dX12_alike_24 : decode cX12_alike 24 = .ok (.lreturn, 1) := by decide +kernel
theorem dX12_lot_0 : decode cX12_lot 0 = .ok (.aload_n 0, 1) := by decide +kernel
theorem dX12_lot_1 : decode cX12_lot 1 = .ok (.ldc 239, 2) := by decide +kernel
theorem dX12_lot_3 : decode cX12_lot 3 = .ok (.aload_n 0, 1) := by decide +kernel
theorem dX12_lot_4 : decode cX12_lot 4 = .ok (.getfield 240, 3) := by decide +kernel
theorem dX12_lot_7 : decode cX12_lot 7 = .ok (.imul, 1) := by decide +kernel
theorem dX12_lot_8 : decode cX12_lot 8 = .ok (.sipush 12345, 3) := by decide +kernel
theorem dX12_lot_11 : decode cX12_lot 11 = .ok (.iadd, 1) := by decide +kernel
theorem dX12_lot_12 : decode cX12_lot 12 = .ok (.putfield 240, 3) := by decide +kernel
theorem dX12_lot_15 : decode cX12_lot 15 = .ok (.aload_n 0, 1) := by decide +kernel
theorem dX12_lot_16 : decode cX12_lot 16 = .ok (.getfield 240, 3) := by decide +kernel
theorem dX12_lot_19 : decode cX12_lot 19 = .ok (.bipush 16, 2) := by decide +kernel
theorem dX12_lot_21 : decode cX12_lot 21 = .ok (.iushr, 1) := by decide +kernel
theorem dX12_lot_22 : decode cX12_lot 22 = .ok (.bipush 16, 2) := by decide +kernel
theorem dX12_lot_24 : decode cX12_lot 24 = .ok (.irem, 1) := by decide +kernel
theorem dX12_lot_25 : decode cX12_lot 25 = .ok (.ireturn, 1) := by decide +kernel
theorem dX12_tears_0 : decode cX12_tears 0 = .ok (.iconst 0, 1) := by decide +kernel
theorem dX12_tears_1 : decode cX12_tears 1 = .ok (.istore_n 1, 1) := by decide +kernel
theorem dX12_tears_2 : decode cX12_tears 2 = .ok (.aload_n 0, 1) := by decide +kernel
theorem dX12_tears_3 : decode cX12_tears 3 = .ok (.iconst (-1), 1) := by decide +kernel
theorem dX12_tears_4 : decode cX12_tears 4 = .ok (.putfield 243, 3) := by decide +kernel
theorem dX12_tears_7 : decode cX12_tears 7 = .ok (.aload_n 0, 1) := by decide +kernel
theorem dX12_tears_8 : decode cX12_tears 8 = .ok (.iconst (-1), 1) := by decide +kernel
theorem dX12_tears_9 : decode cX12_tears 9 = .ok (.putfield 246, 3) := by decide +kernel
theorem dX12_tears_12 : decode cX12_tears 12 = .ok (.iconst 0, 1) := by decide +kernel
theorem dX12_tears_13 : decode cX12_tears 13 = .ok (.istore_n 2, 1) := by decide +kernel
theorem dX12_tears_14 : decode cX12_tears 14 = .ok (.iload_n 2, 1) := by decide +kernel
theorem dX12_tears_15 : decode cX12_tears 15 = .ok (.aload_n 0, 1) := by decide +kernel
theorem dX12_tears_16 : decode cX12_tears 16 = .ok (.getfield 181, 3) := by decide +kernel
theorem dX12_tears_19 : decode cX12_tears 19 = .ok (.if_icmp .ge 113, 3) := by decide +kernel
theorem dX12_tears_22 : decode cX12_tears 22 = .ok (.iconst 0, 1) := by decide +kernel
theorem dX12_tears_23 : decode cX12_tears 23 = .ok (.istore_n 3, 1) := by decide +kernel
theorem dX12_tears_24 : decode cX12_tears 24 = .ok (.iload_n 3, 1) := by decide +kernel
theorem dX12_tears_25 : decode cX12_tears 25 = .ok (.iconst 1, 1) := by decide +kernel
theorem dX12_tears_26 : decode cX12_tears 26 = .ok (.iadd, 1) := by decide +kernel
theorem dX12_tears_27 : decode cX12_tears 27 = .ok (.aload_n 0, 1) := by decide +kernel
theorem dX12_tears_28 : decode cX12_tears 28 = .ok (.getfield 132, 3) := by decide +kernel
theorem dX12_tears_31 : decode cX12_tears 31 = .ok (.if_icmp .ge 95, 3) := by decide +kernel
theorem dX12_tears_34 : decode cX12_tears 34 = .ok (.iload_n 1, 1) := by decide +kernel
theorem dX12_tears_35 : decode cX12_tears 35 = .ok (.iload_n 3, 1) := by decide +kernel
theorem dX12_tears_36 : decode cX12_tears 36 = .ok (.invokestatic 137, 3) := by decide +kernel
theorem dX12_tears_39 : decode cX12_tears 39 = .ok (.ifCond .ne 81, 3) := by decide +kernel
theorem dX12_tears_42 : decode cX12_tears 42 = .ok (.aload_n 0, 1) := by decide +kernel
theorem dX12_tears_43 : decode cX12_tears 43 = .ok (.invokevirtual 249, 3) := by decide +kernel
theorem dX12_tears_46 : decode cX12_tears 46 = .ok (.aload_n 0, 1) := by decide +kernel
theorem dX12_tears_47 : decode cX12_tears 47 = .ok (.getfield 28, 3) := by decide +kernel
theorem dX12_tears_50 : decode cX12_tears 50 = .ok (.aload_n 0, 1) := by decide +kernel
theorem dX12_tears_51 : decode cX12_tears 51 = .ok (.getfield 49, 3) := by decide +kernel
theorem dX12_tears_54 : decode cX12_tears 54 = .ok (.iload_n 2, 1) := by decide +kernel
theorem dX12_tears_55 : decode cX12_tears 55 = .ok (.iconst 1, 1) := by decide +kernel
theorem dX12_tears_56 : decode cX12_tears 56 = .ok (.iadd, 1) := by decide +kernel
theorem dX12_tears_57 : decode cX12_tears 57 = .ok (.iaload, 1) := by decide +kernel
theorem dX12_tears_58 : decode cX12_tears 58 = .ok (.iaload, 1) := by decide +kernel
theorem dX12_tears_59 : decode cX12_tears 59 = .ok (.if_icmp .ge 61, 3) := by decide +kernel
theorem dX12_tears_62 : decode cX12_tears 62 = .ok (.aload_n 0, 1) := by decide +kernel
theorem dX12_tears_63 : decode cX12_tears 63 = .ok (.invokevirtual 249, 3) := by decide +kernel
theorem dX12_tears_66 : decode cX12_tears 66 = .ok (.aload_n 0, 1) := by decide +kernel
theorem dX12_tears_67 : decode cX12_tears 67 = .ok (.iload_n 3, 1) := by decide +kernel
theorem dX12_tears_68 : decode cX12_tears 68 = .ok (.invokevirtual 201, 3) := by decide +kernel
theorem dX12_tears_71 : decode cX12_tears 71 = .ok (.if_icmp .lt 49, 3) := by decide +kernel
theorem dX12_tears_74 : decode cX12_tears 74 = .ok (.iload_n 1, 1) := by decide +kernel
theorem dX12_tears_75 : decode cX12_tears 75 = .ok (.iconst 1, 1) := by decide +kernel
theorem dX12_tears_76 : decode cX12_tears 76 = .ok (.iload_n 3, 1) := by decide +kernel
theorem dX12_tears_77 : decode cX12_tears 77 = .ok (.ishl, 1) := by decide +kernel
theorem dX12_tears_78 : decode cX12_tears 78 = .ok (.ior, 1) := by decide +kernel
theorem dX12_tears_79 : decode cX12_tears 79 = .ok (.istore_n 1, 1) := by decide +kernel
theorem dX12_tears_80 : decode cX12_tears 80 = .ok (.aload_n 0, 1) := by decide +kernel
theorem dX12_tears_81 : decode cX12_tears 81 = .ok (.aload_n 0, 1) := by decide +kernel
theorem dX12_tears_82 : decode cX12_tears 82 = .ok (.getfield 243, 3) := by decide +kernel
theorem dX12_tears_85 : decode cX12_tears 85 = .ok (.iconst (-1), 1) := by decide +kernel
theorem dX12_tears_86 : decode cX12_tears 86 = .ok (.if_icmp .ne 7, 3) := by decide +kernel
theorem dX12_tears_89 : decode cX12_tears 89 = .ok (.iload_n 2, 1) := by decide +kernel
theorem dX12_tears_90 : decode cX12_tears 90 = .ok (.goto 7, 3) := by decide +kernel
theorem dX12_tears_93 : decode cX12_tears 93 = .ok (.aload_n 0, 1) := by decide +kernel
theorem dX12_tears_94 : decode cX12_tears 94 = .ok (.getfield 246, 3) := by decide +kernel
theorem dX12_tears_97 : decode cX12_tears 97 = .ok (.putfield 246, 3) := by decide +kernel
theorem dX12_tears_100 : decode cX12_tears 100 = .ok (.aload_n 0, 1) := by decide +kernel
theorem dX12_tears_101 : decode cX12_tears 101 = .ok (.aload_n 0, 1) := by decide +kernel
theorem dX12_tears_102 : decode cX12_tears 102 = .ok (.getfield 243, 3) := by decide +kernel
theorem dX12_tears_105 : decode cX12_tears 105 = .ok (.iconst (-1), 1) := by decide +kernel
theorem dX12_tears_106 : decode cX12_tears 106 = .ok (.if_icmp .ne 7, 3) := by decide +kernel
theorem dX12_tears_109 : decode cX12_tears 109 = .ok (.iload_n 3, 1) := by decide +kernel
theorem dX12_tears_110 : decode cX12_tears 110 = .ok (.goto 7, 3) := by decide +kernel
theorem dX12_tears_113 : decode cX12_tears 113 = .ok (.aload_n 0, 1) := by decide +kernel
theorem dX12_tears_114 : decode cX12_tears 114 = .ok (.getfield 243, 3) := by decide +kernel
theorem dX12_tears_117 : decode cX12_tears 117 = .ok (.putfield 243, 3) := by decide +kernel
theorem dX12_tears_120 : decode cX12_tears 120 = .ok (.iinc 3 1, 3) := by decide +kernel
theorem dX12_tears_123 : decode cX12_tears 123 = .ok (.goto (-99), 3) := by decide +kernel
theorem dX12_tears_126 : decode cX12_tears 126 = .ok (.iinc 2 1, 3) := by decide +kernel
theorem dX12_tears_129 : decode cX12_tears 129 = .ok (.goto (-115), 3) := by decide +kernel
theorem dX12_tears_132 : decode cX12_tears 132 = .ok (.aload_n 0, 1) := by decide +kernel
theorem dX12_tears_133 : decode cX12_tears 133 = .ok (.iload_n 1, 1) := by decide +kernel
theorem dX12_tears_134 : decode cX12_tears 134 = .ok (.invokestatic 210, 3) := by decide +kernel
theorem dX12_tears_137 : decode cX12_tears 137 = .ok (.putfield 252, 3) := by decide +kernel
theorem dX12_tears_140 : decode cX12_tears 140 = .ok (.return_, 1) := by decide +kernel
theorem dX12_tornOf_0 : decode cX12_tornOf 0 = .ok (.aload_n 0, 1) := by decide +kernel
theorem dX12_tornOf_1 : decode cX12_tornOf 1 = .ok (.iload_n 1, 1) := by decide +kernel
theorem dX12_tornOf_2 : decode cX12_tornOf 2 = .ok (.putfield 240, 3) := by decide +kernel
theorem dX12_tornOf_5 : decode cX12_tornOf 5 = .ok (.aload_n 0, 1) := by decide +kernel
theorem dX12_tornOf_6 : decode cX12_tornOf 6 = .ok (.invokevirtual 255, 3) := by decide +kernel
theorem dX12_tornOf_9 : decode cX12_tornOf 9 = .ok (.iconst 0, 1) := by decide +kernel
theorem dX12_tornOf_10 : decode cX12_tornOf 10 = .ok (.istore_n 3, 1) := by decide +kernel
theorem dX12_tornOf_11 : decode cX12_tornOf 11 = .ok (.aload_n 0, 1) := by decide +kernel
theorem dX12_tornOf_12 : decode cX12_tornOf 12 = .ok (.getfield 243, 3) := by decide +kernel
theorem dX12_tornOf_15 : decode cX12_tornOf 15 = .ok (.iconst 1, 1) := by decide +kernel
theorem dX12_tornOf_16 : decode cX12_tornOf 16 = .ok (.iadd, 1) := by decide +kernel
theorem dX12_tornOf_17 : decode cX12_tornOf 17 = .ok (.istore 4, 2) := by decide +kernel
theorem dX12_tornOf_19 : decode cX12_tornOf 19 = .ok (.iload 4, 2) := by decide +kernel
theorem dX12_tornOf_21 : decode cX12_tornOf 21 = .ok (.aload_n 0, 1) := by decide +kernel
theorem dX12_tornOf_22 : decode cX12_tornOf 22 = .ok (.getfield 132, 3) := by decide +kernel
theorem dX12_tornOf_25 : decode cX12_tornOf 25 = .ok (.if_icmp .ge 29, 3) := by decide +kernel
theorem dX12_tornOf_28 : decode cX12_tornOf 28 = .ok (.aload_n 0, 1) := by decide +kernel
theorem dX12_tornOf_29 : decode cX12_tornOf 29 = .ok (.getfield 243, 3) := by decide +kernel
theorem dX12_tornOf_32 : decode cX12_tornOf 32 = .ok (.iconst (-1), 1) := by decide +kernel
theorem dX12_tornOf_33 : decode cX12_tornOf 33 = .ok (.if_icmp .eq 21, 3) := by decide +kernel
theorem dX12_tornOf_36 : decode cX12_tornOf 36 = .ok (.iload_n 3, 1) := by decide +kernel
theorem dX12_tornOf_37 : decode cX12_tornOf 37 = .ok (.iconst 1, 1) := by decide +kernel
theorem dX12_tornOf_38 : decode cX12_tornOf 38 = .ok (.aload_n 0, 1) := by decide +kernel
theorem dX12_tornOf_39 : decode cX12_tornOf 39 = .ok (.getfield 31, 3) := by decide +kernel
theorem dX12_tornOf_42 : decode cX12_tornOf 42 = .ok (.iload 4, 2) := by decide +kernel
theorem dX12_tornOf_44 : decode cX12_tornOf 44 = .ok (.iaload, 1) := by decide +kernel
theorem dX12_tornOf_45 : decode cX12_tornOf 45 = .ok (.ishl, 1) := by decide +kernel
theorem dX12_tornOf_46 : decode cX12_tornOf 46 = .ok (.ior, 1) := by decide +kernel
theorem dX12_tornOf_47 : decode cX12_tornOf 47 = .ok (.istore_n 3, 1) := by decide +kernel
theorem dX12_tornOf_48 : decode cX12_tornOf 48 = .ok (.iinc 4 1, 3) := by decide +kernel
theorem dX12_tornOf_51 : decode cX12_tornOf 51 = .ok (.goto (-32), 3) := by decide +kernel
theorem dX12_tornOf_54 : decode cX12_tornOf 54 = .ok (.iload_n 2, 1) := by decide +kernel
theorem dX12_tornOf_55 : decode cX12_tornOf 55 = .ok (.ifCond .ne 10, 3) := by decide +kernel
theorem dX12_tornOf_58 : decode cX12_tornOf 58 = .ok (.aload_n 0, 1) := by decide +kernel
theorem dX12_tornOf_59 : decode cX12_tornOf 59 = .ok (.getfield 243, 3) := by decide +kernel
theorem dX12_tornOf_62 : decode cX12_tornOf 62 = .ok (.goto 28, 3) := by decide +kernel
theorem dX12_tornOf_65 : decode cX12_tornOf 65 = .ok (.iload_n 2, 1) := by decide +kernel
theorem dX12_tornOf_66 : decode cX12_tornOf 66 = .ok (.iconst 1, 1) := by decide +kernel
theorem dX12_tornOf_67 : decode cX12_tornOf 67 = .ok (.if_icmp .ne 10, 3) := by decide +kernel
theorem dX12_tornOf_70 : decode cX12_tornOf 70 = .ok (.aload_n 0, 1) := by decide +kernel
theorem dX12_tornOf_71 : decode cX12_tornOf 71 = .ok (.getfield 246, 3) := by decide +kernel
theorem dX12_tornOf_74 : decode cX12_tornOf 74 = .ok (.goto 16, 3) := by decide +kernel
theorem dX12_tornOf_77 : decode cX12_tornOf 77 = .ok (.iload_n 2, 1) := by decide +kernel
theorem dX12_tornOf_78 : decode cX12_tornOf 78 = .ok (.iconst 2, 1) := by decide +kernel
theorem dX12_tornOf_79 : decode cX12_tornOf 79 = .ok (.if_icmp .ne 10, 3) := by decide +kernel
theorem dX12_tornOf_82 : decode cX12_tornOf 82 = .ok (.aload_n 0, 1) := by decide +kernel
theorem dX12_tornOf_83 : decode cX12_tornOf 83 = .ok (.getfield 252, 3) := by decide +kernel
theorem dX12_tornOf_86 : decode cX12_tornOf 86 = .ok (.goto 4, 3) := by decide +kernel
theorem dX12_tornOf_89 : decode cX12_tornOf 89 = .ok (.iload_n 3, 1) := by decide +kernel
theorem dX12_tornOf_90 : decode cX12_tornOf 90 = .ok (.ireturn, 1) := by decide +kernel
theorem dX12_torn_0 : decode cX12_torn 0 = .ok (.aload_n 0, 1) := by decide +kernel
theorem dX12_torn_1 : decode cX12_torn 1 = .ok (.invokevirtual 175, 3) := by decide +kernel
theorem dX12_torn_4 : decode cX12_torn 4 = .ok (.iload_n 2, 1) := by decide +kernel
theorem dX12_torn_5 : decode cX12_torn 5 = .ok (.i2l, 1) := by decide +kernel
theorem dX12_torn_6 : decode cX12_torn 6 = .ok (.lconst 0, 1) := by decide +kernel
theorem dX12_torn_7 : decode cX12_torn 7 = .ok (.ldc2_w 90, 3) := by decide +kernel
theorem dX12_torn_10 : decode cX12_torn 10 = .ok (.invokestatic 82, 3) := by decide +kernel
theorem dX12_torn_13 : decode cX12_torn 13 = .ok (.ifCond .eq 12, 3) := by decide +kernel
theorem dX12_torn_16 : decode cX12_torn 16 = .ok (.aload_n 0, 1) := by decide +kernel
theorem dX12_torn_17 : decode cX12_torn 17 = .ok (.iload_n 1, 1) := by decide +kernel
theorem dX12_torn_18 : decode cX12_torn 18 = .ok (.iload_n 2, 1) := by decide +kernel
theorem dX12_torn_19 : decode cX12_torn 19 = .ok (.invokevirtual 258, 3) := by decide +kernel
theorem dX12_torn_22 : decode cX12_torn 22 = .ok (.goto 5, 3) := by decide +kernel
theorem dX12_torn_25 : decode cX12_torn 25 = .ok (.bipush (-2), 2) := by decide +kernel
theorem dX12_torn_27 : decode cX12_torn 27 = .ok (.ireturn, 1) := by decide +kernel
theorem dX12_fairsOf_0 : decode cX12_fairsOf 0 = .ok (.aload_n 0, 1) := by decide +kernel
theorem dX12_fairsOf_1 : decode cX12_fairsOf 1 = .ok (.iload_n 1, 1) := by decide +kernel
theorem dX12_fairsOf_2 : decode cX12_fairsOf 2 = .ok (.putfield 240, 3) := by decide +kernel
theorem dX12_fairsOf_5 : decode cX12_fairsOf 5 = .ok (.iconst 0, 1) := by decide +kernel
theorem dX12_fairsOf_6 : decode cX12_fairsOf 6 = .ok (.istore_n 3, 1) := by decide +kernel
